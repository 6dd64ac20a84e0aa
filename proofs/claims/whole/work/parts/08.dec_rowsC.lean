theorem d_C_init_0 : decode b_C_init 0 = .ok (.aload_n 0, 1) := by decide +kernel
theorem d_C_init_1 : decode b_C_init 1 = .ok (.invokespecial 3, 3) := by decide +kernel
theorem d_C_init_4 : decode b_C_init 4 = .ok (.aload_n 0, 1) := by decide +kernel
theorem d_C_init_5 : decode b_C_init 5 = .ok (.new 9, 3) := by decide +kernel
theorem d_C_init_8 : decode b_C_init 8 = .ok (.dup, 1) := by decide +kernel
theorem d_C_init_9 : decode b_C_init 9 = .ok (.invokespecial 11, 3) := by decide +kernel
theorem d_C_init_12 : decode b_C_init 12 = .ok (.putfield 12, 3) := by decide +kernel
theorem d_C_init_15 : decode b_C_init 15 = .ok (.aload_n 0, 1) := by decide +kernel
theorem d_C_init_16 : decode b_C_init 16 = .ok (.bipush 12, 2) := by decide +kernel
theorem d_C_init_18 : decode b_C_init 18 = .ok (.anewarray 16, 3) := by decide +kernel
theorem d_C_init_21 : decode b_C_init 21 = .ok (.putfield 18, 3) := by decide +kernel
theorem d_C_init_24 : decode b_C_init 24 = .ok (.aload_n 0, 1) := by decide +kernel
theorem d_C_init_25 : decode b_C_init 25 = .ok (.new 22, 3) := by decide +kernel
theorem d_C_init_28 : decode b_C_init 28 = .ok (.dup, 1) := by decide +kernel
theorem d_C_init_29 : decode b_C_init 29 = .ok (.invokespecial 24, 3) := by decide +kernel
theorem d_C_init_32 : decode b_C_init 32 = .ok (.putfield 25, 3) := by decide +kernel
theorem d_C_init_35 : decode b_C_init 35 = .ok (.aload_n 0, 1) := by decide +kernel
theorem d_C_init_36 : decode b_C_init 36 = .ok (.new 29, 3) := by decide +kernel
theorem d_C_init_39 : decode b_C_init 39 = .ok (.dup, 1) := by decide +kernel
theorem d_C_init_40 : decode b_C_init 40 = .ok (.aload_n 0, 1) := by decide +kernel
theorem d_C_init_41 : decode b_C_init 41 = .ok (.getfield 25, 3) := by decide +kernel
theorem d_C_init_44 : decode b_C_init 44 = .ok (.invokespecial 31, 3) := by decide +kernel
theorem d_C_init_47 : decode b_C_init 47 = .ok (.putfield 34, 3) := by decide +kernel
theorem d_C_init_50 : decode b_C_init 50 = .ok (.aload_n 0, 1) := by decide +kernel
theorem d_C_init_51 : decode b_C_init 51 = .ok (.new 38, 3) := by decide +kernel
theorem d_C_init_54 : decode b_C_init 54 = .ok (.dup, 1) := by decide +kernel
theorem d_C_init_55 : decode b_C_init 55 = .ok (.sipush 4096, 3) := by decide +kernel
theorem d_C_init_58 : decode b_C_init 58 = .ok (.invokespecial 40, 3) := by decide +kernel
theorem d_C_init_61 : decode b_C_init 61 = .ok (.putfield 43, 3) := by decide +kernel
theorem d_C_init_64 : decode b_C_init 64 = .ok (.aload_n 0, 1) := by decide +kernel
theorem d_C_init_65 : decode b_C_init 65 = .ok (.new 38, 3) := by decide +kernel
theorem d_C_init_68 : decode b_C_init 68 = .ok (.dup, 1) := by decide +kernel
theorem d_C_init_69 : decode b_C_init 69 = .ok (.sipush 4096, 3) := by decide +kernel
theorem d_C_init_72 : decode b_C_init 72 = .ok (.invokespecial 40, 3) := by decide +kernel
theorem d_C_init_75 : decode b_C_init 75 = .ok (.putfield 47, 3) := by decide +kernel
theorem d_C_init_78 : decode b_C_init 78 = .ok (.aload_n 0, 1) := by decide +kernel
theorem d_C_init_79 : decode b_C_init 79 = .ok (.new 38, 3) := by decide +kernel
theorem d_C_init_82 : decode b_C_init 82 = .ok (.dup, 1) := by decide +kernel
theorem d_C_init_83 : decode b_C_init 83 = .ok (.iconst 1, 1) := by decide +kernel
theorem d_C_init_84 : decode b_C_init 84 = .ok (.invokespecial 40, 3) := by decide +kernel
theorem d_C_init_87 : decode b_C_init 87 = .ok (.putfield 50, 3) := by decide +kernel
theorem d_C_init_90 : decode b_C_init 90 = .ok (.aload_n 0, 1) := by decide +kernel
theorem d_C_init_91 : decode b_C_init 91 = .ok (.iconst 1, 1) := by decide +kernel
theorem d_C_init_92 : decode b_C_init 92 = .ok (.iload_n 1, 1) := by decide +kernel
theorem d_C_init_93 : decode b_C_init 93 = .ok (.bipush 62, 2) := by decide +kernel
theorem d_C_init_95 : decode b_C_init 95 = .ok (.invokestatic 53, 3) := by decide +kernel
theorem d_C_init_98 : decode b_C_init 98 = .ok (.iadd, 1) := by decide +kernel
theorem d_C_init_99 : decode b_C_init 99 = .ok (.putfield 59, 3) := by decide +kernel
theorem d_C_init_102 : decode b_C_init 102 = .ok (.return_, 1) := by decide +kernel
theorem d_C_change_0 : decode b_C_change 0 = .ok (.iload_n 1, 1) := by decide +kernel
theorem d_C_change_1 : decode b_C_change 1 = .ok (.iload_n 2, 1) := by decide +kernel
theorem d_C_change_2 : decode b_C_change 2 = .ok (.iload_n 3, 1) := by decide +kernel
theorem d_C_change_3 : decode b_C_change 3 = .ok (.invokestatic 63, 3) := by decide +kernel
theorem d_C_change_6 : decode b_C_change 6 = .ok (.ifCond .ne 5, 3) := by decide +kernel
theorem d_C_change_9 : decode b_C_change 9 = .ok (.iconst (-1), 1) := by decide +kernel
theorem d_C_change_10 : decode b_C_change 10 = .ok (.ireturn, 1) := by decide +kernel
theorem d_C_change_11 : decode b_C_change 11 = .ok (.aload_n 0, 1) := by decide +kernel
theorem d_C_change_12 : decode b_C_change 12 = .ok (.getfield 12, 3) := by decide +kernel
theorem d_C_change_15 : decode b_C_change 15 = .ok (.invokevirtual 67, 3) := by decide +kernel
theorem d_C_change_18 : decode b_C_change 18 = .ok (.ifCond .eq 6, 3) := by decide +kernel
theorem d_C_change_21 : decode b_C_change 21 = .ok (.bipush (-3), 2) := by decide +kernel
theorem d_C_change_23 : decode b_C_change 23 = .ok (.ireturn, 1) := by decide +kernel
theorem d_C_change_24 : decode b_C_change 24 = .ok (.iload_n 1, 1) := by decide +kernel
theorem d_C_change_25 : decode b_C_change 25 = .ok (.iload_n 2, 1) := by decide +kernel
theorem d_C_change_26 : decode b_C_change 26 = .ok (.iload_n 3, 1) := by decide +kernel
theorem d_C_change_27 : decode b_C_change 27 = .ok (.invokestatic 71, 3) := by decide +kernel
theorem d_C_change_30 : decode b_C_change 30 = .ok (.istore 5, 2) := by decide +kernel
theorem d_C_change_32 : decode b_C_change 32 = .ok (.aload_n 0, 1) := by decide +kernel
theorem d_C_change_33 : decode b_C_change 33 = .ok (.getfield 12, 3) := by decide +kernel
theorem d_C_change_36 : decode b_C_change 36 = .ok (.aload_n 0, 1) := by decide +kernel
theorem d_C_change_37 : decode b_C_change 37 = .ok (.getfield 12, 3) := by decide +kernel
theorem d_C_change_40 : decode b_C_change 40 = .ok (.iload 5, 2) := by decide +kernel
theorem d_C_change_42 : decode b_C_change 42 = .ok (.aload_n 0, 1) := by decide +kernel
theorem d_C_change_43 : decode b_C_change 43 = .ok (.getfield 75, 3) := by decide +kernel
theorem d_C_change_46 : decode b_C_change 46 = .ok (.invokevirtual 78, 3) := by decide +kernel
theorem d_C_change_49 : decode b_C_change 49 = .ok (.invokevirtual 81, 3) := by decide +kernel
theorem d_C_change_52 : decode b_C_change 52 = .ok (.istore 6, 2) := by decide +kernel
theorem d_C_change_54 : decode b_C_change 54 = .ok (.aload_n 0, 1) := by decide +kernel
theorem d_C_change_55 : decode b_C_change 55 = .ok (.getfield 12, 3) := by decide +kernel
theorem d_C_change_58 : decode b_C_change 58 = .ok (.aload_n 0, 1) := by decide +kernel
theorem d_C_change_59 : decode b_C_change 59 = .ok (.getfield 75, 3) := by decide +kernel
theorem d_C_change_62 : decode b_C_change 62 = .ok (.iload 5, 2) := by decide +kernel
theorem d_C_change_64 : decode b_C_change 64 = .ok (.iload 4, 2) := by decide +kernel
theorem d_C_change_66 : decode b_C_change 66 = .ok (.invokevirtual 85, 3) := by decide +kernel
theorem d_C_change_69 : decode b_C_change 69 = .ok (.pop, 1) := by decide +kernel
theorem d_C_change_70 : decode b_C_change 70 = .ok (.iload 6, 2) := by decide +kernel
theorem d_C_change_72 : decode b_C_change 72 = .ok (.iload 4, 2) := by decide +kernel
theorem d_C_change_74 : decode b_C_change 74 = .ok (.if_icmp .ne 7, 3) := by decide +kernel
theorem d_C_change_77 : decode b_C_change 77 = .ok (.iconst 0, 1) := by decide +kernel
theorem d_C_change_78 : decode b_C_change 78 = .ok (.goto 4, 3) := by decide +kernel
theorem d_C_change_81 : decode b_C_change 81 = .ok (.iconst 1, 1) := by decide +kernel
theorem d_C_change_82 : decode b_C_change 82 = .ok (.ireturn, 1) := by decide +kernel
theorem d_C_step_0 : decode b_C_step 0 = .ok (.aload_n 0, 1) := by decide +kernel
theorem d_C_step_1 : decode b_C_step 1 = .ok (.getfield 75, 3) := by decide +kernel
theorem d_C_step_4 : decode b_C_step 4 = .ok (.aload_n 0, 1) := by decide +kernel
theorem d_C_step_5 : decode b_C_step 5 = .ok (.getfield 59, 3) := by decide +kernel
theorem d_C_step_8 : decode b_C_step 8 = .ok (.iconst 1, 1) := by decide +kernel
theorem d_C_step_9 : decode b_C_step 9 = .ok (.isub, 1) := by decide +kernel
theorem d_C_step_10 : decode b_C_step 10 = .ok (.if_icmp .lt 6, 3) := by decide +kernel
theorem d_C_step_13 : decode b_C_step 13 = .ok (.bipush (-3), 2) := by decide +kernel
theorem d_C_step_15 : decode b_C_step 15 = .ok (.ireturn, 1) := by decide +kernel
theorem d_C_step_16 : decode b_C_step 16 = .ok (.aload_n 0, 1) := by decide +kernel
theorem d_C_step_17 : decode b_C_step 17 = .ok (.dup, 1) := by decide +kernel
theorem d_C_step_18 : decode b_C_step 18 = .ok (.getfield 75, 3) := by decide +kernel
theorem d_C_step_21 : decode b_C_step 21 = .ok (.iconst 1, 1) := by decide +kernel
theorem d_C_step_22 : decode b_C_step 22 = .ok (.iadd, 1) := by decide +kernel
theorem d_C_step_23 : decode b_C_step 23 = .ok (.putfield 75, 3) := by decide +kernel
theorem d_C_step_26 : decode b_C_step 26 = .ok (.aload_n 0, 1) := by decide +kernel
theorem d_C_step_27 : decode b_C_step 27 = .ok (.getfield 75, 3) := by decide +kernel
theorem d_C_step_30 : decode b_C_step 30 = .ok (.ireturn, 1) := by decide +kernel
theorem d_C_question_0 : decode b_C_question 0 = .ok (.iload_n 1, 1) := by decide +kernel
theorem d_C_question_1 : decode b_C_question 1 = .ok (.invokestatic 89, 3) := by decide +kernel
theorem d_C_question_4 : decode b_C_question 4 = .ok (.ifCond .ne 5, 3) := by decide +kernel
theorem d_C_question_7 : decode b_C_question 7 = .ok (.iconst (-1), 1) := by decide +kernel
theorem d_C_question_8 : decode b_C_question 8 = .ok (.ireturn, 1) := by decide +kernel
theorem d_C_question_9 : decode b_C_question 9 = .ok (.aload_n 0, 1) := by decide +kernel
theorem d_C_question_10 : decode b_C_question 10 = .ok (.getfield 92, 3) := by decide +kernel
theorem d_C_question_13 : decode b_C_question 13 = .ok (.bipush 12, 2) := by decide +kernel
theorem d_C_question_15 : decode b_C_question 15 = .ok (.if_icmp .lt 6, 3) := by decide +kernel
theorem d_C_question_18 : decode b_C_question 18 = .ok (.bipush (-3), 2) := by decide +kernel
theorem d_C_question_20 : decode b_C_question 20 = .ok (.ireturn, 1) := by decide +kernel
theorem d_C_question_21 : decode b_C_question 21 = .ok (.aload_n 0, 1) := by decide +kernel
theorem d_C_question_22 : decode b_C_question 22 = .ok (.getfield 18, 3) := by decide +kernel
theorem d_C_question_25 : decode b_C_question 25 = .ok (.aload_n 0, 1) := by decide +kernel
theorem d_C_question_26 : decode b_C_question 26 = .ok (.getfield 92, 3) := by decide +kernel
theorem d_C_question_29 : decode b_C_question 29 = .ok (.new 16, 3) := by decide +kernel
theorem d_C_question_32 : decode b_C_question 32 = .ok (.dup, 1) := by decide +kernel
theorem d_C_question_33 : decode b_C_question 33 = .ok (.iload_n 1, 1) := by decide +kernel
theorem d_C_question_34 : decode b_C_question 34 = .ok (.invokespecial 95, 3) := by decide +kernel
theorem d_C_question_37 : decode b_C_question 37 = .ok (.aastore, 1) := by decide +kernel
theorem d_C_question_38 : decode b_C_question 38 = .ok (.aload_n 0, 1) := by decide +kernel
theorem d_C_question_39 : decode b_C_question 39 = .ok (.dup, 1) := by decide +kernel
theorem d_C_question_40 : decode b_C_question 40 = .ok (.getfield 92, 3) := by decide +kernel
theorem d_C_question_43 : decode b_C_question 43 = .ok (.iconst 1, 1) := by decide +kernel
theorem d_C_question_44 : decode b_C_question 44 = .ok (.iadd, 1) := by decide +kernel
theorem d_C_question_45 : decode b_C_question 45 = .ok (.putfield 92, 3) := by decide +kernel
theorem d_C_question_48 : decode b_C_question 48 = .ok (.aload_n 0, 1) := by decide +kernel
theorem d_C_question_49 : decode b_C_question 49 = .ok (.getfield 92, 3) := by decide +kernel
theorem d_C_question_52 : decode b_C_question 52 = .ok (.iconst 1, 1) := by decide +kernel
theorem d_C_question_53 : decode b_C_question 53 = .ok (.isub, 1) := by decide +kernel
theorem d_C_question_54 : decode b_C_question 54 = .ok (.ireturn, 1) := by decide +kernel
theorem d_C_pattern_0 : decode b_C_pattern 0 = .ok (.aload_n 0, 1) := by decide +kernel
theorem d_C_pattern_1 : decode b_C_pattern 1 = .ok (.iload_n 1, 1) := by decide +kernel
theorem d_C_pattern_2 : decode b_C_pattern 2 = .ok (.invokevirtual 96, 3) := by decide +kernel
theorem d_C_pattern_5 : decode b_C_pattern 5 = .ok (.astore 5, 2) := by decide +kernel
theorem d_C_pattern_7 : decode b_C_pattern 7 = .ok (.aload 5, 2) := by decide +kernel
theorem d_C_pattern_9 : decode b_C_pattern 9 = .ok (.ifnull 31, 3) := by decide +kernel
theorem d_C_pattern_12 : decode b_C_pattern 12 = .ok (.iload_n 2, 1) := by decide +kernel
theorem d_C_pattern_13 : decode b_C_pattern 13 = .ok (.bipush 16, 2) := by decide +kernel
theorem d_C_pattern_15 : decode b_C_pattern 15 = .ok (.invokestatic 100, 3) := by decide +kernel
theorem d_C_pattern_18 : decode b_C_pattern 18 = .ok (.ifCond .eq 22, 3) := by decide +kernel
theorem d_C_pattern_21 : decode b_C_pattern 21 = .ok (.iload_n 3, 1) := by decide +kernel
theorem d_C_pattern_22 : decode b_C_pattern 22 = .ok (.bipush 8, 2) := by decide +kernel
theorem d_C_pattern_24 : decode b_C_pattern 24 = .ok (.invokestatic 100, 3) := by decide +kernel
theorem d_C_pattern_27 : decode b_C_pattern 27 = .ok (.ifCond .eq 13, 3) := by decide +kernel
theorem d_C_pattern_30 : decode b_C_pattern 30 = .ok (.iload 4, 2) := by decide +kernel
theorem d_C_pattern_32 : decode b_C_pattern 32 = .ok (.bipush 16, 2) := by decide +kernel
theorem d_C_pattern_34 : decode b_C_pattern 34 = .ok (.invokestatic 100, 3) := by decide +kernel
theorem d_C_pattern_37 : decode b_C_pattern 37 = .ok (.ifCond .ne 5, 3) := by decide +kernel
theorem d_C_pattern_40 : decode b_C_pattern 40 = .ok (.iconst (-1), 1) := by decide +kernel
theorem d_C_pattern_41 : decode b_C_pattern 41 = .ok (.ireturn, 1) := by decide +kernel
theorem d_C_pattern_42 : decode b_C_pattern 42 = .ok (.aload 5, 2) := by decide +kernel
theorem d_C_pattern_44 : decode b_C_pattern 44 = .ok (.iload_n 2, 1) := by decide +kernel
theorem d_C_pattern_45 : decode b_C_pattern 45 = .ok (.iload_n 3, 1) := by decide +kernel
theorem d_C_pattern_46 : decode b_C_pattern 46 = .ok (.iload 4, 2) := by decide +kernel
theorem d_C_pattern_48 : decode b_C_pattern 48 = .ok (.invokevirtual 104, 3) := by decide +kernel
theorem d_C_pattern_51 : decode b_C_pattern 51 = .ok (.ifCond .eq 11, 3) := by decide +kernel
theorem d_C_pattern_54 : decode b_C_pattern 54 = .ok (.aload 5, 2) := by decide +kernel
theorem d_C_pattern_56 : decode b_C_pattern 56 = .ok (.getfield 107, 3) := by decide +kernel
theorem d_C_pattern_59 : decode b_C_pattern 59 = .ok (.goto 5, 3) := by decide +kernel
theorem d_C_pattern_62 : decode b_C_pattern 62 = .ok (.bipush (-3), 2) := by decide +kernel
theorem d_C_pattern_64 : decode b_C_pattern 64 = .ok (.ireturn, 1) := by decide +kernel
theorem d_C_window_0 : decode b_C_window 0 = .ok (.aload_n 0, 1) := by decide +kernel
theorem d_C_window_1 : decode b_C_window 1 = .ok (.iload_n 1, 1) := by decide +kernel
theorem d_C_window_2 : decode b_C_window 2 = .ok (.invokevirtual 96, 3) := by decide +kernel
theorem d_C_window_5 : decode b_C_window 5 = .ok (.astore_n 3, 1) := by decide +kernel
theorem d_C_window_6 : decode b_C_window 6 = .ok (.aload_n 3, 1) := by decide +kernel
theorem d_C_window_7 : decode b_C_window 7 = .ok (.ifnull 10, 3) := by decide +kernel
theorem d_C_window_10 : decode b_C_window 10 = .ok (.iload_n 2, 1) := by decide +kernel
theorem d_C_window_11 : decode b_C_window 11 = .ok (.invokestatic 89, 3) := by decide +kernel
theorem d_C_window_14 : decode b_C_window 14 = .ok (.ifCond .ne 5, 3) := by decide +kernel
theorem d_C_window_17 : decode b_C_window 17 = .ok (.iconst (-1), 1) := by decide +kernel
theorem d_C_window_18 : decode b_C_window 18 = .ok (.ireturn, 1) := by decide +kernel
theorem d_C_window_19 : decode b_C_window 19 = .ok (.aload_n 3, 1) := by decide +kernel
theorem d_C_window_20 : decode b_C_window 20 = .ok (.getfield 110, 3) := by decide +kernel
theorem d_C_window_23 : decode b_C_window 23 = .ok (.istore 4, 2) := by decide +kernel
theorem d_C_window_25 : decode b_C_window 25 = .ok (.aload_n 3, 1) := by decide +kernel
theorem d_C_window_26 : decode b_C_window 26 = .ok (.iload_n 2, 1) := by decide +kernel
theorem d_C_window_27 : decode b_C_window 27 = .ok (.putfield 110, 3) := by decide +kernel
theorem d_C_window_30 : decode b_C_window 30 = .ok (.iload 4, 2) := by decide +kernel
theorem d_C_window_32 : decode b_C_window 32 = .ok (.ireturn, 1) := by decide +kernel
theorem d_C_rows_0 : decode b_C_rows 0 = .ok (.aload_n 0, 1) := by decide +kernel
theorem d_C_rows_1 : decode b_C_rows 1 = .ok (.iload_n 1, 1) := by decide +kernel
theorem d_C_rows_2 : decode b_C_rows 2 = .ok (.invokevirtual 96, 3) := by decide +kernel
theorem d_C_rows_5 : decode b_C_rows 5 = .ok (.astore_n 3, 1) := by decide +kernel
theorem d_C_rows_6 : decode b_C_rows 6 = .ok (.aload_n 3, 1) := by decide +kernel
theorem d_C_rows_7 : decode b_C_rows 7 = .ok (.ifnull 11, 3) := by decide +kernel
theorem d_C_rows_10 : decode b_C_rows 10 = .ok (.aload_n 0, 1) := by decide +kernel
theorem d_C_rows_11 : decode b_C_rows 11 = .ok (.iload_n 2, 1) := by decide +kernel
theorem d_C_rows_12 : decode b_C_rows 12 = .ok (.invokevirtual 113, 3) := by decide +kernel
theorem d_C_rows_15 : decode b_C_rows 15 = .ok (.ifCond .ne 5, 3) := by decide +kernel
theorem d_C_rows_18 : decode b_C_rows 18 = .ok (.iconst (-1), 1) := by decide +kernel
theorem d_C_rows_19 : decode b_C_rows 19 = .ok (.ireturn, 1) := by decide +kernel
theorem d_C_rows_20 : decode b_C_rows 20 = .ok (.aload_n 0, 1) := by decide +kernel
theorem d_C_rows_21 : decode b_C_rows 21 = .ok (.aload_n 3, 1) := by decide +kernel
theorem d_C_rows_22 : decode b_C_rows 22 = .ok (.iload_n 2, 1) := by decide +kernel
theorem d_C_rows_23 : decode b_C_rows 23 = .ok (.iconst 0, 1) := by decide +kernel
theorem d_C_rows_24 : decode b_C_rows 24 = .ok (.invokevirtual 116, 3) := by decide +kernel
theorem d_C_rows_27 : decode b_C_rows 27 = .ok (.invokevirtual 120, 3) := by decide +kernel
theorem d_C_rows_30 : decode b_C_rows 30 = .ok (.ireturn, 1) := by decide +kernel
theorem d_C_changed_0 : decode b_C_changed 0 = .ok (.aload_n 0, 1) := by decide +kernel
theorem d_C_changed_1 : decode b_C_changed 1 = .ok (.iload_n 1, 1) := by decide +kernel
theorem d_C_changed_2 : decode b_C_changed 2 = .ok (.invokevirtual 96, 3) := by decide +kernel
theorem d_C_changed_5 : decode b_C_changed 5 = .ok (.astore 4, 2) := by decide +kernel
theorem d_C_changed_7 : decode b_C_changed 7 = .ok (.aload 4, 2) := by decide +kernel
theorem d_C_changed_9 : decode b_C_changed 9 = .ok (.ifnull 11, 3) := by decide +kernel
theorem d_C_changed_12 : decode b_C_changed 12 = .ok (.aload_n 0, 1) := by decide +kernel
theorem d_C_changed_13 : decode b_C_changed 13 = .ok (.iload_n 2, 1) := by decide +kernel
theorem d_C_changed_14 : decode b_C_changed 14 = .ok (.invokevirtual 113, 3) := by decide +kernel
theorem d_C_changed_17 : decode b_C_changed 17 = .ok (.ifCond .ne 5, 3) := by decide +kernel
theorem d_C_changed_20 : decode b_C_changed 20 = .ok (.iconst (-1), 1) := by decide +kernel
theorem d_C_changed_21 : decode b_C_changed 21 = .ok (.ireturn, 1) := by decide +kernel
theorem d_C_changed_22 : decode b_C_changed 22 = .ok (.aload_n 0, 1) := by decide +kernel
theorem d_C_changed_23 : decode b_C_changed 23 = .ok (.aload 4, 2) := by decide +kernel
theorem d_C_changed_25 : decode b_C_changed 25 = .ok (.iload_n 2, 1) := by decide +kernel
theorem d_C_changed_26 : decode b_C_changed 26 = .ok (.iload_n 3, 1) := by decide +kernel
theorem d_C_changed_27 : decode b_C_changed 27 = .ok (.ifCond .eq 7, 3) := by decide +kernel
theorem d_C_changed_30 : decode b_C_changed 30 = .ok (.iconst 1, 1) := by decide +kernel
theorem d_C_changed_31 : decode b_C_changed 31 = .ok (.goto 4, 3) := by decide +kernel
theorem d_C_changed_34 : decode b_C_changed 34 = .ok (.iconst 2, 1) := by decide +kernel
theorem d_C_changed_35 : decode b_C_changed 35 = .ok (.invokevirtual 116, 3) := by decide +kernel
theorem d_C_changed_38 : decode b_C_changed 38 = .ok (.invokevirtual 120, 3) := by decide +kernel
theorem d_C_changed_41 : decode b_C_changed 41 = .ok (.ireturn, 1) := by decide +kernel
theorem d_C_row_0 : decode b_C_row 0 = .ok (.aload_n 0, 1) := by decide +kernel
theorem d_C_row_1 : decode b_C_row 1 = .ok (.iload_n 1, 1) := by decide +kernel
theorem d_C_row_2 : decode b_C_row 2 = .ok (.invokevirtual 96, 3) := by decide +kernel
theorem d_C_row_5 : decode b_C_row 5 = .ok (.astore 5, 2) := by decide +kernel
theorem d_C_row_7 : decode b_C_row 7 = .ok (.aload 5, 2) := by decide +kernel
theorem d_C_row_9 : decode b_C_row 9 = .ok (.ifnull 20, 3) := by decide +kernel
theorem d_C_row_12 : decode b_C_row 12 = .ok (.aload_n 0, 1) := by decide +kernel
theorem d_C_row_13 : decode b_C_row 13 = .ok (.iload_n 2, 1) := by decide +kernel
theorem d_C_row_14 : decode b_C_row 14 = .ok (.invokevirtual 113, 3) := by decide +kernel
theorem d_C_row_17 : decode b_C_row 17 = .ok (.ifCond .eq 12, 3) := by decide +kernel
theorem d_C_row_20 : decode b_C_row 20 = .ok (.iload_n 3, 1) := by decide +kernel
theorem d_C_row_21 : decode b_C_row 21 = .ok (.ifCond .lt 8, 3) := by decide +kernel
theorem d_C_row_24 : decode b_C_row 24 = .ok (.iload_n 3, 1) := by decide +kernel
theorem d_C_row_25 : decode b_C_row 25 = .ok (.iconst 2, 1) := by decide +kernel
theorem d_C_row_26 : decode b_C_row 26 = .ok (.if_icmp .le 5, 3) := by decide +kernel
theorem d_C_row_29 : decode b_C_row 29 = .ok (.iconst (-1), 1) := by decide +kernel
theorem d_C_row_30 : decode b_C_row 30 = .ok (.ireturn, 1) := by decide +kernel
theorem d_C_row_31 : decode b_C_row 31 = .ok (.aload_n 0, 1) := by decide +kernel
theorem d_C_row_32 : decode b_C_row 32 = .ok (.aload 5, 2) := by decide +kernel
theorem d_C_row_34 : decode b_C_row 34 = .ok (.iload_n 2, 1) := by decide +kernel
theorem d_C_row_35 : decode b_C_row 35 = .ok (.iload_n 3, 1) := by decide +kernel
theorem d_C_row_36 : decode b_C_row 36 = .ok (.invokevirtual 116, 3) := by decide +kernel
theorem d_C_row_39 : decode b_C_row 39 = .ok (.iload 4, 2) := by decide +kernel
theorem d_C_row_41 : decode b_C_row 41 = .ok (.invokevirtual 124, 3) := by decide +kernel
theorem d_C_row_44 : decode b_C_row 44 = .ok (.ireturn, 1) := by decide +kernel
theorem d_C_aggregate_0 : decode b_C_aggregate 0 = .ok (.aload_n 0, 1) := by decide +kernel
theorem d_C_aggregate_1 : decode b_C_aggregate 1 = .ok (.iload_n 1, 1) := by decide +kernel
theorem d_C_aggregate_2 : decode b_C_aggregate 2 = .ok (.invokevirtual 96, 3) := by decide +kernel
theorem d_C_aggregate_5 : decode b_C_aggregate 5 = .ok (.astore 5, 2) := by decide +kernel
theorem d_C_aggregate_7 : decode b_C_aggregate 7 = .ok (.aload 5, 2) := by decide +kernel
theorem d_C_aggregate_9 : decode b_C_aggregate 9 = .ok (.ifnull 32, 3) := by decide +kernel
theorem d_C_aggregate_12 : decode b_C_aggregate 12 = .ok (.aload_n 0, 1) := by decide +kernel
theorem d_C_aggregate_13 : decode b_C_aggregate 13 = .ok (.iload_n 2, 1) := by decide +kernel
theorem d_C_aggregate_14 : decode b_C_aggregate 14 = .ok (.invokevirtual 113, 3) := by decide +kernel
theorem d_C_aggregate_17 : decode b_C_aggregate 17 = .ok (.ifCond .eq 24, 3) := by decide +kernel
theorem d_C_aggregate_20 : decode b_C_aggregate 20 = .ok (.iload_n 3, 1) := by decide +kernel
theorem d_C_aggregate_21 : decode b_C_aggregate 21 = .ok (.ifCond .lt 20, 3) := by decide +kernel
theorem d_C_aggregate_24 : decode b_C_aggregate 24 = .ok (.iload_n 3, 1) := by decide +kernel
theorem d_C_aggregate_25 : decode b_C_aggregate 25 = .ok (.iconst 2, 1) := by decide +kernel
theorem d_C_aggregate_26 : decode b_C_aggregate 26 = .ok (.if_icmp .gt 15, 3) := by decide +kernel
theorem d_C_aggregate_29 : decode b_C_aggregate 29 = .ok (.iload 4, 2) := by decide +kernel
theorem d_C_aggregate_31 : decode b_C_aggregate 31 = .ok (.iconst 1, 1) := by decide +kernel
theorem d_C_aggregate_32 : decode b_C_aggregate 32 = .ok (.if_icmp .lt 9, 3) := by decide +kernel
theorem d_C_aggregate_35 : decode b_C_aggregate 35 = .ok (.iload 4, 2) := by decide +kernel
theorem d_C_aggregate_37 : decode b_C_aggregate 37 = .ok (.iconst 4, 1) := by decide +kernel
theorem d_C_aggregate_38 : decode b_C_aggregate 38 = .ok (.if_icmp .le 5, 3) := by decide +kernel
theorem d_C_aggregate_41 : decode b_C_aggregate 41 = .ok (.iconst (-1), 1) := by decide +kernel
theorem d_C_aggregate_42 : decode b_C_aggregate 42 = .ok (.ireturn, 1) := by decide +kernel
theorem d_C_aggregate_43 : decode b_C_aggregate 43 = .ok (.aload_n 0, 1) := by decide +kernel
theorem d_C_aggregate_44 : decode b_C_aggregate 44 = .ok (.aload 5, 2) := by decide +kernel
theorem d_C_aggregate_46 : decode b_C_aggregate 46 = .ok (.iload_n 2, 1) := by decide +kernel
theorem d_C_aggregate_47 : decode b_C_aggregate 47 = .ok (.iconst 0, 1) := by decide +kernel
theorem d_C_aggregate_48 : decode b_C_aggregate 48 = .ok (.invokevirtual 116, 3) := by decide +kernel
theorem d_C_aggregate_51 : decode b_C_aggregate 51 = .ok (.astore 6, 2) := by decide +kernel
theorem d_C_aggregate_53 : decode b_C_aggregate 53 = .ok (.iload_n 3, 1) := by decide +kernel
theorem d_C_aggregate_54 : decode b_C_aggregate 54 = .ok (.ifCond .ne 11, 3) := by decide +kernel
theorem d_C_aggregate_57 : decode b_C_aggregate 57 = .ok (.aload 6, 2) := by decide +kernel
theorem d_C_aggregate_59 : decode b_C_aggregate 59 = .ok (.iload 4, 2) := by decide +kernel
theorem d_C_aggregate_61 : decode b_C_aggregate 61 = .ok (.invokevirtual 128, 3) := by decide +kernel
theorem d_C_aggregate_64 : decode b_C_aggregate 64 = .ok (.ireturn, 1) := by decide +kernel
theorem d_C_aggregate_65 : decode b_C_aggregate 65 = .ok (.iload_n 3, 1) := by decide +kernel
theorem d_C_aggregate_66 : decode b_C_aggregate 66 = .ok (.iconst 1, 1) := by decide +kernel
theorem d_C_aggregate_67 : decode b_C_aggregate 67 = .ok (.if_icmp .ne 13, 3) := by decide +kernel
theorem d_C_aggregate_70 : decode b_C_aggregate 70 = .ok (.aload 6, 2) := by decide +kernel
theorem d_C_aggregate_72 : decode b_C_aggregate 72 = .ok (.iload 4, 2) := by decide +kernel
theorem d_C_aggregate_74 : decode b_C_aggregate 74 = .ok (.invokevirtual 131, 3) := by decide +kernel
theorem d_C_aggregate_77 : decode b_C_aggregate 77 = .ok (.goto 10, 3) := by decide +kernel
theorem d_C_aggregate_80 : decode b_C_aggregate 80 = .ok (.aload 6, 2) := by decide +kernel
theorem d_C_aggregate_82 : decode b_C_aggregate 82 = .ok (.iload 4, 2) := by decide +kernel
theorem d_C_aggregate_84 : decode b_C_aggregate 84 = .ok (.invokevirtual 134, 3) := by decide +kernel
theorem d_C_aggregate_87 : decode b_C_aggregate 87 = .ok (.ireturn, 1) := by decide +kernel
theorem d_C_late_0 : decode b_C_late 0 = .ok (.iload_n 2, 1) := by decide +kernel
theorem d_C_late_1 : decode b_C_late 1 = .ok (.iload_n 3, 1) := by decide +kernel
theorem d_C_late_2 : decode b_C_late 2 = .ok (.iload 4, 2) := by decide +kernel
theorem d_C_late_4 : decode b_C_late 4 = .ok (.invokestatic 63, 3) := by decide +kernel
theorem d_C_late_7 : decode b_C_late 7 = .ok (.ifCond .eq 15, 3) := by decide +kernel
theorem d_C_late_10 : decode b_C_late 10 = .ok (.iload_n 1, 1) := by decide +kernel
theorem d_C_late_11 : decode b_C_late 11 = .ok (.ifCond .lt 11, 3) := by decide +kernel
theorem d_C_late_14 : decode b_C_late 14 = .ok (.iload_n 1, 1) := by decide +kernel
theorem d_C_late_15 : decode b_C_late 15 = .ok (.aload_n 0, 1) := by decide +kernel
theorem d_C_late_16 : decode b_C_late 16 = .ok (.getfield 75, 3) := by decide +kernel
theorem d_C_late_19 : decode b_C_late 19 = .ok (.if_icmp .lt 5, 3) := by decide +kernel
theorem d_C_late_22 : decode b_C_late 22 = .ok (.iconst (-1), 1) := by decide +kernel
theorem d_C_late_23 : decode b_C_late 23 = .ok (.ireturn, 1) := by decide +kernel
theorem d_C_late_24 : decode b_C_late 24 = .ok (.aload_n 0, 1) := by decide +kernel
theorem d_C_late_25 : decode b_C_late 25 = .ok (.getfield 12, 3) := by decide +kernel
theorem d_C_late_28 : decode b_C_late 28 = .ok (.invokevirtual 67, 3) := by decide +kernel
theorem d_C_late_31 : decode b_C_late 31 = .ok (.ifCond .eq 6, 3) := by decide +kernel
theorem d_C_late_34 : decode b_C_late 34 = .ok (.bipush (-3), 2) := by decide +kernel
theorem d_C_late_36 : decode b_C_late 36 = .ok (.ireturn, 1) := by decide +kernel
theorem d_C_late_37 : decode b_C_late 37 = .ok (.iload_n 2, 1) := by decide +kernel
theorem d_C_late_38 : decode b_C_late 38 = .ok (.iload_n 3, 1) := by decide +kernel
theorem d_C_late_39 : decode b_C_late 39 = .ok (.iload 4, 2) := by decide +kernel
theorem d_C_late_41 : decode b_C_late 41 = .ok (.invokestatic 71, 3) := by decide +kernel
theorem d_C_late_44 : decode b_C_late 44 = .ok (.istore 6, 2) := by decide +kernel
theorem d_C_late_46 : decode b_C_late 46 = .ok (.aload_n 0, 1) := by decide +kernel
theorem d_C_late_47 : decode b_C_late 47 = .ok (.getfield 12, 3) := by decide +kernel
theorem d_C_late_50 : decode b_C_late 50 = .ok (.iload 6, 2) := by decide +kernel
theorem d_C_late_52 : decode b_C_late 52 = .ok (.iload_n 1, 1) := by decide +kernel
theorem d_C_late_53 : decode b_C_late 53 = .ok (.invokevirtual 78, 3) := by decide +kernel
theorem d_C_late_56 : decode b_C_late 56 = .ok (.istore 7, 2) := by decide +kernel
theorem d_C_late_58 : decode b_C_late 58 = .ok (.aload_n 0, 1) := by decide +kernel
theorem d_C_late_59 : decode b_C_late 59 = .ok (.getfield 12, 3) := by decide +kernel
theorem d_C_late_62 : decode b_C_late 62 = .ok (.iload_n 1, 1) := by decide +kernel
theorem d_C_late_63 : decode b_C_late 63 = .ok (.iload 6, 2) := by decide +kernel
theorem d_C_late_65 : decode b_C_late 65 = .ok (.iload 5, 2) := by decide +kernel
theorem d_C_late_67 : decode b_C_late 67 = .ok (.invokevirtual 85, 3) := by decide +kernel
theorem d_C_late_70 : decode b_C_late 70 = .ok (.istore 8, 2) := by decide +kernel
theorem d_C_late_72 : decode b_C_late 72 = .ok (.aload_n 0, 1) := by decide +kernel
theorem d_C_late_73 : decode b_C_late 73 = .ok (.getfield 12, 3) := by decide +kernel
theorem d_C_late_76 : decode b_C_late 76 = .ok (.iload 8, 2) := by decide +kernel
theorem d_C_late_78 : decode b_C_late 78 = .ok (.invokevirtual 137, 3) := by decide +kernel
theorem d_C_late_81 : decode b_C_late 81 = .ok (.istore 9, 2) := by decide +kernel
theorem d_C_late_83 : decode b_C_late 83 = .ok (.iconst 0, 1) := by decide +kernel
theorem d_C_late_84 : decode b_C_late 84 = .ok (.istore 10, 2) := by decide +kernel
theorem d_C_late_86 : decode b_C_late 86 = .ok (.iload_n 1, 1) := by decide +kernel
theorem d_C_late_87 : decode b_C_late 87 = .ok (.istore 11, 2) := by decide +kernel
theorem d_C_late_89 : decode b_C_late 89 = .ok (.iload 11, 2) := by decide +kernel
theorem d_C_late_91 : decode b_C_late 91 = .ok (.aload_n 0, 1) := by decide +kernel
theorem d_C_late_92 : decode b_C_late 92 = .ok (.getfield 75, 3) := by decide +kernel
theorem d_C_late_95 : decode b_C_late 95 = .ok (.if_icmp .gt 34, 3) := by decide +kernel
theorem d_C_late_98 : decode b_C_late 98 = .ok (.iload 11, 2) := by decide +kernel
theorem d_C_late_100 : decode b_C_late 100 = .ok (.iload 9, 2) := by decide +kernel
theorem d_C_late_102 : decode b_C_late 102 = .ok (.if_icmp .ge 27, 3) := by decide +kernel
theorem d_C_late_105 : decode b_C_late 105 = .ok (.aload_n 0, 1) := by decide +kernel
theorem d_C_late_106 : decode b_C_late 106 = .ok (.iload 11, 2) := by decide +kernel
theorem d_C_late_108 : decode b_C_late 108 = .ok (.iload 6, 2) := by decide +kernel
theorem d_C_late_110 : decode b_C_late 110 = .ok (.iload 7, 2) := by decide +kernel
theorem d_C_late_112 : decode b_C_late 112 = .ok (.iload 8, 2) := by decide +kernel
theorem d_C_late_114 : decode b_C_late 114 = .ok (.invokevirtual 140, 3) := by decide +kernel
theorem d_C_late_117 : decode b_C_late 117 = .ok (.ifCond .eq 6, 3) := by decide +kernel
theorem d_C_late_120 : decode b_C_late 120 = .ok (.iinc 10 1, 3) := by decide +kernel
theorem d_C_late_123 : decode b_C_late 123 = .ok (.iinc 11 1, 3) := by decide +kernel
theorem d_C_late_126 : decode b_C_late 126 = .ok (.goto (-37), 3) := by decide +kernel
theorem d_C_late_129 : decode b_C_late 129 = .ok (.iload 10, 2) := by decide +kernel
theorem d_C_late_131 : decode b_C_late 131 = .ok (.ireturn, 1) := by decide +kernel
theorem d_C_still_0 : decode b_C_still 0 = .ok (.aload_n 0, 1) := by decide +kernel
theorem d_C_still_1 : decode b_C_still 1 = .ok (.iload_n 1, 1) := by decide +kernel
theorem d_C_still_2 : decode b_C_still 2 = .ok (.invokevirtual 96, 3) := by decide +kernel
theorem d_C_still_5 : decode b_C_still 5 = .ok (.astore_n 2, 1) := by decide +kernel
theorem d_C_still_6 : decode b_C_still 6 = .ok (.aload_n 2, 1) := by decide +kernel
theorem d_C_still_7 : decode b_C_still 7 = .ok (.ifnonnull 5, 3) := by decide +kernel
theorem d_C_still_10 : decode b_C_still 10 = .ok (.iconst (-1), 1) := by decide +kernel
theorem d_C_still_11 : decode b_C_still 11 = .ok (.ireturn, 1) := by decide +kernel
theorem d_C_still_12 : decode b_C_still 12 = .ok (.aload_n 0, 1) := by decide +kernel
theorem d_C_still_13 : decode b_C_still 13 = .ok (.aload_n 0, 1) := by decide +kernel
theorem d_C_still_14 : decode b_C_still 14 = .ok (.getfield 43, 3) := by decide +kernel
theorem d_C_still_17 : decode b_C_still 17 = .ok (.aload_n 2, 1) := by decide +kernel
theorem d_C_still_18 : decode b_C_still 18 = .ok (.aload_n 0, 1) := by decide +kernel
theorem d_C_still_19 : decode b_C_still 19 = .ok (.getfield 75, 3) := by decide +kernel
theorem d_C_still_22 : decode b_C_still 22 = .ok (.invokevirtual 144, 3) := by decide +kernel
theorem d_C_still_25 : decode b_C_still 25 = .ok (.aload_n 0, 1) := by decide +kernel
theorem d_C_still_26 : decode b_C_still 26 = .ok (.getfield 75, 3) := by decide +kernel
theorem d_C_still_29 : decode b_C_still 29 = .ok (.istore_n 3, 1) := by decide +kernel
theorem d_C_still_30 : decode b_C_still 30 = .ok (.iload_n 3, 1) := by decide +kernel
theorem d_C_still_31 : decode b_C_still 31 = .ok (.ifCond .le 37, 3) := by decide +kernel
theorem d_C_still_34 : decode b_C_still 34 = .ok (.aload_n 0, 1) := by decide +kernel
theorem d_C_still_35 : decode b_C_still 35 = .ok (.aload_n 0, 1) := by decide +kernel
theorem d_C_still_36 : decode b_C_still 36 = .ok (.getfield 47, 3) := by decide +kernel
theorem d_C_still_39 : decode b_C_still 39 = .ok (.aload_n 2, 1) := by decide +kernel
theorem d_C_still_40 : decode b_C_still 40 = .ok (.iload_n 3, 1) := by decide +kernel
theorem d_C_still_41 : decode b_C_still 41 = .ok (.iconst 1, 1) := by decide +kernel
theorem d_C_still_42 : decode b_C_still 42 = .ok (.isub, 1) := by decide +kernel
theorem d_C_still_43 : decode b_C_still 43 = .ok (.invokevirtual 144, 3) := by decide +kernel
theorem d_C_still_46 : decode b_C_still 46 = .ok (.aload_n 0, 1) := by decide +kernel
theorem d_C_still_47 : decode b_C_still 47 = .ok (.getfield 47, 3) := by decide +kernel
theorem d_C_still_50 : decode b_C_still 50 = .ok (.aload_n 0, 1) := by decide +kernel
theorem d_C_still_51 : decode b_C_still 51 = .ok (.getfield 43, 3) := by decide +kernel
theorem d_C_still_54 : decode b_C_still 54 = .ok (.invokevirtual 148, 3) := by decide +kernel
theorem d_C_still_57 : decode b_C_still 57 = .ok (.ifCond .ne 5, 3) := by decide +kernel
theorem d_C_still_60 : decode b_C_still 60 = .ok (.iload_n 3, 1) := by decide +kernel
theorem d_C_still_61 : decode b_C_still 61 = .ok (.ireturn, 1) := by decide +kernel
theorem d_C_still_62 : decode b_C_still 62 = .ok (.iinc 3 (-1), 3) := by decide +kernel
theorem d_C_still_65 : decode b_C_still 65 = .ok (.goto (-35), 3) := by decide +kernel
theorem d_C_still_68 : decode b_C_still 68 = .ok (.iconst 0, 1) := by decide +kernel
theorem d_C_still_69 : decode b_C_still 69 = .ok (.ireturn, 1) := by decide +kernel
theorem d_C_there_0 : decode b_C_there 0 = .ok (.aload_n 0, 1) := by decide +kernel
theorem d_C_there_1 : decode b_C_there 1 = .ok (.iload_n 1, 1) := by decide +kernel
theorem d_C_there_2 : decode b_C_there 2 = .ok (.invokevirtual 113, 3) := by decide +kernel
theorem d_C_there_5 : decode b_C_there 5 = .ok (.ifCond .eq 13, 3) := by decide +kernel
theorem d_C_there_8 : decode b_C_there 8 = .ok (.iload_n 2, 1) := by decide +kernel
theorem d_C_there_9 : decode b_C_there 9 = .ok (.iload_n 3, 1) := by decide +kernel
theorem d_C_there_10 : decode b_C_there 10 = .ok (.iload 4, 2) := by decide +kernel
theorem d_C_there_12 : decode b_C_there 12 = .ok (.invokestatic 63, 3) := by decide +kernel
theorem d_C_there_15 : decode b_C_there 15 = .ok (.ifCond .ne 5, 3) := by decide +kernel
theorem d_C_there_18 : decode b_C_there 18 = .ok (.iconst (-1), 1) := by decide +kernel
theorem d_C_there_19 : decode b_C_there 19 = .ok (.ireturn, 1) := by decide +kernel
theorem d_C_there_20 : decode b_C_there 20 = .ok (.aload_n 0, 1) := by decide +kernel
theorem d_C_there_21 : decode b_C_there 21 = .ok (.getfield 12, 3) := by decide +kernel
theorem d_C_there_24 : decode b_C_there 24 = .ok (.aload_n 0, 1) := by decide +kernel
theorem d_C_there_25 : decode b_C_there 25 = .ok (.getfield 12, 3) := by decide +kernel
theorem d_C_there_28 : decode b_C_there 28 = .ok (.iload_n 2, 1) := by decide +kernel
theorem d_C_there_29 : decode b_C_there 29 = .ok (.iload_n 3, 1) := by decide +kernel
theorem d_C_there_30 : decode b_C_there 30 = .ok (.iload 4, 2) := by decide +kernel
theorem d_C_there_32 : decode b_C_there 32 = .ok (.invokestatic 71, 3) := by decide +kernel
theorem d_C_there_35 : decode b_C_there 35 = .ok (.iload_n 1, 1) := by decide +kernel
theorem d_C_there_36 : decode b_C_there 36 = .ok (.invokevirtual 78, 3) := by decide +kernel
theorem d_C_there_39 : decode b_C_there 39 = .ok (.invokevirtual 81, 3) := by decide +kernel
theorem d_C_there_42 : decode b_C_there 42 = .ok (.ifCond .eq 7, 3) := by decide +kernel
theorem d_C_there_45 : decode b_C_there 45 = .ok (.iconst 1, 1) := by decide +kernel
theorem d_C_there_46 : decode b_C_there 46 = .ok (.goto 4, 3) := by decide +kernel
theorem d_C_there_49 : decode b_C_there 49 = .ok (.iconst 0, 1) := by decide +kernel
theorem d_C_there_50 : decode b_C_there 50 = .ok (.ireturn, 1) := by decide +kernel
theorem d_C_age_0 : decode b_C_age 0 = .ok (.aload_n 0, 1) := by decide +kernel
theorem d_C_age_1 : decode b_C_age 1 = .ok (.iload_n 1, 1) := by decide +kernel
theorem d_C_age_2 : decode b_C_age 2 = .ok (.invokevirtual 113, 3) := by decide +kernel
theorem d_C_age_5 : decode b_C_age 5 = .ok (.ifCond .eq 13, 3) := by decide +kernel
theorem d_C_age_8 : decode b_C_age 8 = .ok (.iload_n 2, 1) := by decide +kernel
theorem d_C_age_9 : decode b_C_age 9 = .ok (.iload_n 3, 1) := by decide +kernel
theorem d_C_age_10 : decode b_C_age 10 = .ok (.iload 4, 2) := by decide +kernel
theorem d_C_age_12 : decode b_C_age 12 = .ok (.invokestatic 63, 3) := by decide +kernel
theorem d_C_age_15 : decode b_C_age 15 = .ok (.ifCond .ne 5, 3) := by decide +kernel
theorem d_C_age_18 : decode b_C_age 18 = .ok (.iconst (-1), 1) := by decide +kernel
theorem d_C_age_19 : decode b_C_age 19 = .ok (.ireturn, 1) := by decide +kernel
theorem d_C_age_20 : decode b_C_age 20 = .ok (.aload_n 0, 1) := by decide +kernel
theorem d_C_age_21 : decode b_C_age 21 = .ok (.getfield 12, 3) := by decide +kernel
theorem d_C_age_24 : decode b_C_age 24 = .ok (.iload_n 2, 1) := by decide +kernel
theorem d_C_age_25 : decode b_C_age 25 = .ok (.iload_n 3, 1) := by decide +kernel
theorem d_C_age_26 : decode b_C_age 26 = .ok (.iload 4, 2) := by decide +kernel
theorem d_C_age_28 : decode b_C_age 28 = .ok (.invokestatic 71, 3) := by decide +kernel
theorem d_C_age_31 : decode b_C_age 31 = .ok (.iload_n 1, 1) := by decide +kernel
theorem d_C_age_32 : decode b_C_age 32 = .ok (.invokevirtual 78, 3) := by decide +kernel
theorem d_C_age_35 : decode b_C_age 35 = .ok (.istore 5, 2) := by decide +kernel
theorem d_C_age_37 : decode b_C_age 37 = .ok (.aload_n 0, 1) := by decide +kernel
theorem d_C_age_38 : decode b_C_age 38 = .ok (.getfield 12, 3) := by decide +kernel
theorem d_C_age_41 : decode b_C_age 41 = .ok (.iload 5, 2) := by decide +kernel
theorem d_C_age_43 : decode b_C_age 43 = .ok (.invokevirtual 81, 3) := by decide +kernel
theorem d_C_age_46 : decode b_C_age 46 = .ok (.ifCond .eq 17, 3) := by decide +kernel
theorem d_C_age_49 : decode b_C_age 49 = .ok (.iload_n 1, 1) := by decide +kernel
theorem d_C_age_50 : decode b_C_age 50 = .ok (.aload_n 0, 1) := by decide +kernel
theorem d_C_age_51 : decode b_C_age 51 = .ok (.getfield 12, 3) := by decide +kernel
theorem d_C_age_54 : decode b_C_age 54 = .ok (.iload 5, 2) := by decide +kernel
theorem d_C_age_56 : decode b_C_age 56 = .ok (.invokevirtual 152, 3) := by decide +kernel
theorem d_C_age_59 : decode b_C_age 59 = .ok (.isub, 1) := by decide +kernel
theorem d_C_age_60 : decode b_C_age 60 = .ok (.goto 5, 3) := by decide +kernel
theorem d_C_age_63 : decode b_C_age 63 = .ok (.bipush (-2), 2) := by decide +kernel
theorem d_C_age_65 : decode b_C_age 65 = .ok (.ireturn, 1) := by decide +kernel
theorem d_C_latest_0 : decode b_C_latest 0 = .ok (.aload_n 0, 1) := by decide +kernel
theorem d_C_latest_1 : decode b_C_latest 1 = .ok (.getfield 75, 3) := by decide +kernel
theorem d_C_latest_4 : decode b_C_latest 4 = .ok (.ireturn, 1) := by decide +kernel
theorem d_C_isTriple_0 : decode b_C_isTriple 0 = .ok (.iload_n 0, 1) := by decide +kernel
theorem d_C_isTriple_1 : decode b_C_isTriple 1 = .ok (.ifCond .lt 33, 3) := by decide +kernel
theorem d_C_isTriple_4 : decode b_C_isTriple 4 = .ok (.iload_n 0, 1) := by decide +kernel
theorem d_C_isTriple_5 : decode b_C_isTriple 5 = .ok (.bipush 16, 2) := by decide +kernel
theorem d_C_isTriple_7 : decode b_C_isTriple 7 = .ok (.if_icmp .ge 27, 3) := by decide +kernel
theorem d_C_isTriple_10 : decode b_C_isTriple 10 = .ok (.iload_n 1, 1) := by decide +kernel
theorem d_C_isTriple_11 : decode b_C_isTriple 11 = .ok (.ifCond .lt 23, 3) := by decide +kernel
theorem d_C_isTriple_14 : decode b_C_isTriple 14 = .ok (.iload_n 1, 1) := by decide +kernel
theorem d_C_isTriple_15 : decode b_C_isTriple 15 = .ok (.bipush 8, 2) := by decide +kernel
theorem d_C_isTriple_17 : decode b_C_isTriple 17 = .ok (.if_icmp .ge 17, 3) := by decide +kernel
theorem d_C_isTriple_20 : decode b_C_isTriple 20 = .ok (.iload_n 2, 1) := by decide +kernel
theorem d_C_isTriple_21 : decode b_C_isTriple 21 = .ok (.ifCond .lt 13, 3) := by decide +kernel
theorem d_C_isTriple_24 : decode b_C_isTriple 24 = .ok (.iload_n 2, 1) := by decide +kernel
theorem d_C_isTriple_25 : decode b_C_isTriple 25 = .ok (.bipush 16, 2) := by decide +kernel
theorem d_C_isTriple_27 : decode b_C_isTriple 27 = .ok (.if_icmp .ge 7, 3) := by decide +kernel
theorem d_C_isTriple_30 : decode b_C_isTriple 30 = .ok (.iconst 1, 1) := by decide +kernel
theorem d_C_isTriple_31 : decode b_C_isTriple 31 = .ok (.goto 4, 3) := by decide +kernel
theorem d_C_isTriple_34 : decode b_C_isTriple 34 = .ok (.iconst 0, 1) := by decide +kernel
theorem d_C_isTriple_35 : decode b_C_isTriple 35 = .ok (.ireturn, 1) := by decide +kernel
theorem d_C_tripleOf_0 : decode b_C_tripleOf 0 = .ok (.iload_n 0, 1) := by decide +kernel
theorem d_C_tripleOf_1 : decode b_C_tripleOf 1 = .ok (.bipush 8, 2) := by decide +kernel
theorem d_C_tripleOf_3 : decode b_C_tripleOf 3 = .ok (.imul, 1) := by decide +kernel
theorem d_C_tripleOf_4 : decode b_C_tripleOf 4 = .ok (.iload_n 1, 1) := by decide +kernel
theorem d_C_tripleOf_5 : decode b_C_tripleOf 5 = .ok (.iadd, 1) := by decide +kernel
theorem d_C_tripleOf_6 : decode b_C_tripleOf 6 = .ok (.bipush 16, 2) := by decide +kernel
theorem d_C_tripleOf_8 : decode b_C_tripleOf 8 = .ok (.imul, 1) := by decide +kernel
theorem d_C_tripleOf_9 : decode b_C_tripleOf 9 = .ok (.iload_n 2, 1) := by decide +kernel
theorem d_C_tripleOf_10 : decode b_C_tripleOf 10 = .ok (.iadd, 1) := by decide +kernel
theorem d_C_tripleOf_11 : decode b_C_tripleOf 11 = .ok (.ireturn, 1) := by decide +kernel
theorem d_C_isItem_0 : decode b_C_isItem 0 = .ok (.iload_n 0, 1) := by decide +kernel
theorem d_C_isItem_1 : decode b_C_isItem 1 = .ok (.bipush (-4), 2) := by decide +kernel
theorem d_C_isItem_3 : decode b_C_isItem 3 = .ok (.if_icmp .lt 12, 3) := by decide +kernel
theorem d_C_isItem_6 : decode b_C_isItem 6 = .ok (.iload_n 0, 1) := by decide +kernel
theorem d_C_isItem_7 : decode b_C_isItem 7 = .ok (.iload_n 1, 1) := by decide +kernel
theorem d_C_isItem_8 : decode b_C_isItem 8 = .ok (.if_icmp .ge 7, 3) := by decide +kernel
theorem d_C_isItem_11 : decode b_C_isItem 11 = .ok (.iconst 1, 1) := by decide +kernel
theorem d_C_isItem_12 : decode b_C_isItem 12 = .ok (.goto 4, 3) := by decide +kernel
theorem d_C_isItem_15 : decode b_C_isItem 15 = .ok (.iconst 0, 1) := by decide +kernel
theorem d_C_isItem_16 : decode b_C_isItem 16 = .ok (.ireturn, 1) := by decide +kernel
theorem d_C_isWindow_0 : decode b_C_isWindow 0 = .ok (.iload_n 0, 1) := by decide +kernel
theorem d_C_isWindow_1 : decode b_C_isWindow 1 = .ok (.ifCond .lt 13, 3) := by decide +kernel
theorem d_C_isWindow_4 : decode b_C_isWindow 4 = .ok (.iload_n 0, 1) := by decide +kernel
theorem d_C_isWindow_5 : decode b_C_isWindow 5 = .ok (.bipush 62, 2) := by decide +kernel
theorem d_C_isWindow_7 : decode b_C_isWindow 7 = .ok (.if_icmp .gt 7, 3) := by decide +kernel
theorem d_C_isWindow_10 : decode b_C_isWindow 10 = .ok (.iconst 1, 1) := by decide +kernel
theorem d_C_isWindow_11 : decode b_C_isWindow 11 = .ok (.goto 4, 3) := by decide +kernel
theorem d_C_isWindow_14 : decode b_C_isWindow 14 = .ok (.iconst 0, 1) := by decide +kernel
theorem d_C_isWindow_15 : decode b_C_isWindow 15 = .ok (.ireturn, 1) := by decide +kernel
theorem d_C_isPast_0 : decode b_C_isPast 0 = .ok (.iload_n 1, 1) := by decide +kernel
theorem d_C_isPast_1 : decode b_C_isPast 1 = .ok (.ifCond .lt 15, 3) := by decide +kernel
theorem d_C_isPast_4 : decode b_C_isPast 4 = .ok (.iload_n 1, 1) := by decide +kernel
theorem d_C_isPast_5 : decode b_C_isPast 5 = .ok (.aload_n 0, 1) := by decide +kernel
theorem d_C_isPast_6 : decode b_C_isPast 6 = .ok (.getfield 75, 3) := by decide +kernel
theorem d_C_isPast_9 : decode b_C_isPast 9 = .ok (.if_icmp .gt 7, 3) := by decide +kernel
theorem d_C_isPast_12 : decode b_C_isPast 12 = .ok (.iconst 1, 1) := by decide +kernel
theorem d_C_isPast_13 : decode b_C_isPast 13 = .ok (.goto 4, 3) := by decide +kernel
theorem d_C_isPast_16 : decode b_C_isPast 16 = .ok (.iconst 0, 1) := by decide +kernel
theorem d_C_isPast_17 : decode b_C_isPast 17 = .ok (.ireturn, 1) := by decide +kernel
theorem d_C_find_0 : decode b_C_find 0 = .ok (.iload_n 1, 1) := by decide +kernel
theorem d_C_find_1 : decode b_C_find 1 = .ok (.ifCond .lt 20, 3) := by decide +kernel
theorem d_C_find_4 : decode b_C_find 4 = .ok (.iload_n 1, 1) := by decide +kernel
theorem d_C_find_5 : decode b_C_find 5 = .ok (.aload_n 0, 1) := by decide +kernel
theorem d_C_find_6 : decode b_C_find 6 = .ok (.getfield 92, 3) := by decide +kernel
theorem d_C_find_9 : decode b_C_find 9 = .ok (.if_icmp .ge 12, 3) := by decide +kernel
theorem d_C_find_12 : decode b_C_find 12 = .ok (.aload_n 0, 1) := by decide +kernel
theorem d_C_find_13 : decode b_C_find 13 = .ok (.getfield 18, 3) := by decide +kernel
theorem d_C_find_16 : decode b_C_find 16 = .ok (.iload_n 1, 1) := by decide +kernel
theorem d_C_find_17 : decode b_C_find 17 = .ok (.aaload, 1) := by decide +kernel
theorem d_C_find_18 : decode b_C_find 18 = .ok (.goto 4, 3) := by decide +kernel
theorem d_C_find_21 : decode b_C_find 21 = .ok (.aconst_null, 1) := by decide +kernel
theorem d_C_find_22 : decode b_C_find 22 = .ok (.areturn, 1) := by decide +kernel
theorem d_C_fill_0 : decode b_C_fill 0 = .ok (.aload_n 1, 1) := by decide +kernel
theorem d_C_fill_1 : decode b_C_fill 1 = .ok (.invokevirtual 155, 3) := by decide +kernel
theorem d_C_fill_4 : decode b_C_fill 4 = .ok (.aload_n 0, 1) := by decide +kernel
theorem d_C_fill_5 : decode b_C_fill 5 = .ok (.getfield 25, 3) := by decide +kernel
theorem d_C_fill_8 : decode b_C_fill 8 = .ok (.aload_n 0, 1) := by decide +kernel
theorem d_C_fill_9 : decode b_C_fill 9 = .ok (.getfield 12, 3) := by decide +kernel
theorem d_C_fill_12 : decode b_C_fill 12 = .ok (.iload_n 3, 1) := by decide +kernel
theorem d_C_fill_13 : decode b_C_fill 13 = .ok (.aload_n 2, 1) := by decide +kernel
theorem d_C_fill_14 : decode b_C_fill 14 = .ok (.getfield 110, 3) := by decide +kernel
theorem d_C_fill_17 : decode b_C_fill 17 = .ok (.invokevirtual 158, 3) := by decide +kernel
theorem d_C_fill_20 : decode b_C_fill 20 = .ok (.aload_n 0, 1) := by decide +kernel
theorem d_C_fill_21 : decode b_C_fill 21 = .ok (.getfield 34, 3) := by decide +kernel
theorem d_C_fill_24 : decode b_C_fill 24 = .ok (.aload_n 2, 1) := by decide +kernel
theorem d_C_fill_25 : decode b_C_fill 25 = .ok (.invokevirtual 162, 3) := by decide +kernel
theorem d_C_fill_28 : decode b_C_fill 28 = .ok (.aload_n 0, 1) := by decide +kernel
theorem d_C_fill_29 : decode b_C_fill 29 = .ok (.getfield 34, 3) := by decide +kernel
theorem d_C_fill_32 : decode b_C_fill 32 = .ok (.aload_n 2, 1) := by decide +kernel
theorem d_C_fill_33 : decode b_C_fill 33 = .ok (.aload_n 1, 1) := by decide +kernel
theorem d_C_fill_34 : decode b_C_fill 34 = .ok (.invokevirtual 166, 3) := by decide +kernel
theorem d_C_fill_37 : decode b_C_fill 37 = .ok (.return_, 1) := by decide +kernel
theorem d_C_findRows_0 : decode b_C_findRows 0 = .ok (.aload_n 0, 1) := by decide +kernel
theorem d_C_findRows_1 : decode b_C_findRows 1 = .ok (.aload_n 0, 1) := by decide +kernel
theorem d_C_findRows_2 : decode b_C_findRows 2 = .ok (.getfield 43, 3) := by decide +kernel
theorem d_C_findRows_5 : decode b_C_findRows 5 = .ok (.aload_n 1, 1) := by decide +kernel
theorem d_C_findRows_6 : decode b_C_findRows 6 = .ok (.iload_n 2, 1) := by decide +kernel
theorem d_C_findRows_7 : decode b_C_findRows 7 = .ok (.invokevirtual 144, 3) := by decide +kernel
theorem d_C_findRows_10 : decode b_C_findRows 10 = .ok (.iload_n 3, 1) := by decide +kernel
theorem d_C_findRows_11 : decode b_C_findRows 11 = .ok (.ifCond .ne 8, 3) := by decide +kernel
theorem d_C_findRows_14 : decode b_C_findRows 14 = .ok (.aload_n 0, 1) := by decide +kernel
theorem d_C_findRows_15 : decode b_C_findRows 15 = .ok (.getfield 43, 3) := by decide +kernel
theorem d_C_findRows_18 : decode b_C_findRows 18 = .ok (.areturn, 1) := by decide +kernel
theorem d_C_findRows_19 : decode b_C_findRows 19 = .ok (.aload_n 0, 1) := by decide +kernel
theorem d_C_findRows_20 : decode b_C_findRows 20 = .ok (.getfield 47, 3) := by decide +kernel
theorem d_C_findRows_23 : decode b_C_findRows 23 = .ok (.invokevirtual 155, 3) := by decide +kernel
theorem d_C_findRows_26 : decode b_C_findRows 26 = .ok (.iload_n 2, 1) := by decide +kernel
theorem d_C_findRows_27 : decode b_C_findRows 27 = .ok (.ifCond .le 15, 3) := by decide +kernel
theorem d_C_findRows_30 : decode b_C_findRows 30 = .ok (.aload_n 0, 1) := by decide +kernel
theorem d_C_findRows_31 : decode b_C_findRows 31 = .ok (.aload_n 0, 1) := by decide +kernel
theorem d_C_findRows_32 : decode b_C_findRows 32 = .ok (.getfield 47, 3) := by decide +kernel
theorem d_C_findRows_35 : decode b_C_findRows 35 = .ok (.aload_n 1, 1) := by decide +kernel
theorem d_C_findRows_36 : decode b_C_findRows 36 = .ok (.iload_n 2, 1) := by decide +kernel
theorem d_C_findRows_37 : decode b_C_findRows 37 = .ok (.iconst 1, 1) := by decide +kernel
theorem d_C_findRows_38 : decode b_C_findRows 38 = .ok (.isub, 1) := by decide +kernel
theorem d_C_findRows_39 : decode b_C_findRows 39 = .ok (.invokevirtual 144, 3) := by decide +kernel
theorem d_C_findRows_42 : decode b_C_findRows 42 = .ok (.iload_n 3, 1) := by decide +kernel
theorem d_C_findRows_43 : decode b_C_findRows 43 = .ok (.iconst 1, 1) := by decide +kernel
theorem d_C_findRows_44 : decode b_C_findRows 44 = .ok (.if_icmp .ne 19, 3) := by decide +kernel
theorem d_C_findRows_47 : decode b_C_findRows 47 = .ok (.aload_n 0, 1) := by decide +kernel
theorem d_C_findRows_48 : decode b_C_findRows 48 = .ok (.getfield 43, 3) := by decide +kernel
theorem d_C_findRows_51 : decode b_C_findRows 51 = .ok (.aload_n 0, 1) := by decide +kernel
theorem d_C_findRows_52 : decode b_C_findRows 52 = .ok (.getfield 47, 3) := by decide +kernel
theorem d_C_findRows_55 : decode b_C_findRows 55 = .ok (.invokevirtual 170, 3) := by decide +kernel
theorem d_C_findRows_58 : decode b_C_findRows 58 = .ok (.aload_n 0, 1) := by decide +kernel
theorem d_C_findRows_59 : decode b_C_findRows 59 = .ok (.getfield 43, 3) := by decide +kernel
theorem d_C_findRows_62 : decode b_C_findRows 62 = .ok (.areturn, 1) := by decide +kernel
theorem d_C_findRows_63 : decode b_C_findRows 63 = .ok (.aload_n 0, 1) := by decide +kernel
theorem d_C_findRows_64 : decode b_C_findRows 64 = .ok (.getfield 47, 3) := by decide +kernel
theorem d_C_findRows_67 : decode b_C_findRows 67 = .ok (.aload_n 0, 1) := by decide +kernel
theorem d_C_findRows_68 : decode b_C_findRows 68 = .ok (.getfield 43, 3) := by decide +kernel
theorem d_C_findRows_71 : decode b_C_findRows 71 = .ok (.invokevirtual 170, 3) := by decide +kernel
theorem d_C_findRows_74 : decode b_C_findRows 74 = .ok (.aload_n 0, 1) := by decide +kernel
theorem d_C_findRows_75 : decode b_C_findRows 75 = .ok (.getfield 47, 3) := by decide +kernel
theorem d_C_findRows_78 : decode b_C_findRows 78 = .ok (.areturn, 1) := by decide +kernel
theorem d_C_areRowsOthers_0 : decode b_C_areRowsOthers 0 = .ok (.iconst 0, 1) := by decide +kernel
theorem d_C_areRowsOthers_1 : decode b_C_areRowsOthers 1 = .ok (.istore 5, 2) := by decide +kernel
theorem d_C_areRowsOthers_3 : decode b_C_areRowsOthers 3 = .ok (.iload 5, 2) := by decide +kernel
theorem d_C_areRowsOthers_5 : decode b_C_areRowsOthers 5 = .ok (.aload_n 0, 1) := by decide +kernel
theorem d_C_areRowsOthers_6 : decode b_C_areRowsOthers 6 = .ok (.getfield 92, 3) := by decide +kernel
theorem d_C_areRowsOthers_9 : decode b_C_areRowsOthers 9 = .ok (.if_icmp .ge 68, 3) := by decide +kernel
theorem d_C_areRowsOthers_12 : decode b_C_areRowsOthers 12 = .ok (.aload_n 0, 1) := by decide +kernel
theorem d_C_areRowsOthers_13 : decode b_C_areRowsOthers 13 = .ok (.getfield 18, 3) := by decide +kernel
theorem d_C_areRowsOthers_16 : decode b_C_areRowsOthers 16 = .ok (.iload 5, 2) := by decide +kernel
theorem d_C_areRowsOthers_18 : decode b_C_areRowsOthers 18 = .ok (.aaload, 1) := by decide +kernel
theorem d_C_areRowsOthers_19 : decode b_C_areRowsOthers 19 = .ok (.astore 6, 2) := by decide +kernel
theorem d_C_areRowsOthers_21 : decode b_C_areRowsOthers 21 = .ok (.aload 6, 2) := by decide +kernel
theorem d_C_areRowsOthers_23 : decode b_C_areRowsOthers 23 = .ok (.ifnull 48, 3) := by decide +kernel
theorem d_C_areRowsOthers_26 : decode b_C_areRowsOthers 26 = .ok (.aload_n 0, 1) := by decide +kernel
theorem d_C_areRowsOthers_27 : decode b_C_areRowsOthers 27 = .ok (.getfield 12, 3) := by decide +kernel
theorem d_C_areRowsOthers_30 : decode b_C_areRowsOthers 30 = .ok (.iload_n 3, 1) := by decide +kernel
theorem d_C_areRowsOthers_31 : decode b_C_areRowsOthers 31 = .ok (.iload_n 1, 1) := by decide +kernel
theorem d_C_areRowsOthers_32 : decode b_C_areRowsOthers 32 = .ok (.aload 6, 2) := by decide +kernel
theorem d_C_areRowsOthers_34 : decode b_C_areRowsOthers 34 = .ok (.getfield 110, 3) := by decide +kernel
theorem d_C_areRowsOthers_37 : decode b_C_areRowsOthers 37 = .ok (.invokevirtual 174, 3) := by decide +kernel
theorem d_C_areRowsOthers_40 : decode b_C_areRowsOthers 40 = .ok (.aload_n 0, 1) := by decide +kernel
theorem d_C_areRowsOthers_41 : decode b_C_areRowsOthers 41 = .ok (.getfield 12, 3) := by decide +kernel
theorem d_C_areRowsOthers_44 : decode b_C_areRowsOthers 44 = .ok (.iload 4, 2) := by decide +kernel
theorem d_C_areRowsOthers_46 : decode b_C_areRowsOthers 46 = .ok (.iload_n 1, 1) := by decide +kernel
theorem d_C_areRowsOthers_47 : decode b_C_areRowsOthers 47 = .ok (.aload 6, 2) := by decide +kernel
theorem d_C_areRowsOthers_49 : decode b_C_areRowsOthers 49 = .ok (.getfield 110, 3) := by decide +kernel
theorem d_C_areRowsOthers_52 : decode b_C_areRowsOthers 52 = .ok (.invokevirtual 174, 3) := by decide +kernel
theorem d_C_areRowsOthers_55 : decode b_C_areRowsOthers 55 = .ok (.if_icmp .eq 16, 3) := by decide +kernel
theorem d_C_areRowsOthers_58 : decode b_C_areRowsOthers 58 = .ok (.aload_n 0, 1) := by decide +kernel
theorem d_C_areRowsOthers_59 : decode b_C_areRowsOthers 59 = .ok (.aload 6, 2) := by decide +kernel
theorem d_C_areRowsOthers_61 : decode b_C_areRowsOthers 61 = .ok (.iload_n 1, 1) := by decide +kernel
theorem d_C_areRowsOthers_62 : decode b_C_areRowsOthers 62 = .ok (.iload_n 2, 1) := by decide +kernel
theorem d_C_areRowsOthers_63 : decode b_C_areRowsOthers 63 = .ok (.invokevirtual 177, 3) := by decide +kernel
theorem d_C_areRowsOthers_66 : decode b_C_areRowsOthers 66 = .ok (.ifCond .eq 5, 3) := by decide +kernel
theorem d_C_areRowsOthers_69 : decode b_C_areRowsOthers 69 = .ok (.iconst 1, 1) := by decide +kernel
theorem d_C_areRowsOthers_70 : decode b_C_areRowsOthers 70 = .ok (.ireturn, 1) := by decide +kernel
theorem d_C_areRowsOthers_71 : decode b_C_areRowsOthers 71 = .ok (.iinc 5 1, 3) := by decide +kernel
theorem d_C_areRowsOthers_74 : decode b_C_areRowsOthers 74 = .ok (.goto (-71), 3) := by decide +kernel
theorem d_C_areRowsOthers_77 : decode b_C_areRowsOthers 77 = .ok (.iconst 0, 1) := by decide +kernel
theorem d_C_areRowsOthers_78 : decode b_C_areRowsOthers 78 = .ok (.ireturn, 1) := by decide +kernel
theorem d_C_hasRowThrough_0 : decode b_C_hasRowThrough 0 = .ok (.iconst 0, 1) := by decide +kernel
theorem d_C_hasRowThrough_1 : decode b_C_hasRowThrough 1 = .ok (.istore 4, 2) := by decide +kernel
theorem d_C_hasRowThrough_3 : decode b_C_hasRowThrough 3 = .ok (.iload 4, 2) := by decide +kernel
theorem d_C_hasRowThrough_5 : decode b_C_hasRowThrough 5 = .ok (.aload_n 1, 1) := by decide +kernel
theorem d_C_hasRowThrough_6 : decode b_C_hasRowThrough 6 = .ok (.getfield 107, 3) := by decide +kernel
theorem d_C_hasRowThrough_9 : decode b_C_hasRowThrough 9 = .ok (.if_icmp .ge 87, 3) := by decide +kernel
theorem d_C_hasRowThrough_12 : decode b_C_hasRowThrough 12 = .ok (.aload_n 0, 1) := by decide +kernel
theorem d_C_hasRowThrough_13 : decode b_C_hasRowThrough 13 = .ok (.getfield 34, 3) := by decide +kernel
theorem d_C_hasRowThrough_16 : decode b_C_hasRowThrough 16 = .ok (.aload_n 1, 1) := by decide +kernel
theorem d_C_hasRowThrough_17 : decode b_C_hasRowThrough 17 = .ok (.invokevirtual 162, 3) := by decide +kernel
theorem d_C_hasRowThrough_20 : decode b_C_hasRowThrough 20 = .ok (.aload_n 0, 1) := by decide +kernel
theorem d_C_hasRowThrough_21 : decode b_C_hasRowThrough 21 = .ok (.getfield 34, 3) := by decide +kernel
theorem d_C_hasRowThrough_24 : decode b_C_hasRowThrough 24 = .ok (.aload_n 1, 1) := by decide +kernel
theorem d_C_hasRowThrough_25 : decode b_C_hasRowThrough 25 = .ok (.iload 4, 2) := by decide +kernel
theorem d_C_hasRowThrough_27 : decode b_C_hasRowThrough 27 = .ok (.iload_n 3, 1) := by decide +kernel
theorem d_C_hasRowThrough_28 : decode b_C_hasRowThrough 28 = .ok (.invokevirtual 181, 3) := by decide +kernel
theorem d_C_hasRowThrough_31 : decode b_C_hasRowThrough 31 = .ok (.ifCond .eq 59, 3) := by decide +kernel
theorem d_C_hasRowThrough_34 : decode b_C_hasRowThrough 34 = .ok (.aload_n 0, 1) := by decide +kernel
theorem d_C_hasRowThrough_35 : decode b_C_hasRowThrough 35 = .ok (.getfield 50, 3) := by decide +kernel
theorem d_C_hasRowThrough_38 : decode b_C_hasRowThrough 38 = .ok (.invokevirtual 155, 3) := by decide +kernel
theorem d_C_hasRowThrough_41 : decode b_C_hasRowThrough 41 = .ok (.aload_n 0, 1) := by decide +kernel
theorem d_C_hasRowThrough_42 : decode b_C_hasRowThrough 42 = .ok (.getfield 25, 3) := by decide +kernel
theorem d_C_hasRowThrough_45 : decode b_C_hasRowThrough 45 = .ok (.aload_n 0, 1) := by decide +kernel
theorem d_C_hasRowThrough_46 : decode b_C_hasRowThrough 46 = .ok (.getfield 12, 3) := by decide +kernel
theorem d_C_hasRowThrough_49 : decode b_C_hasRowThrough 49 = .ok (.iload_n 2, 1) := by decide +kernel
theorem d_C_hasRowThrough_50 : decode b_C_hasRowThrough 50 = .ok (.aload_n 1, 1) := by decide +kernel
theorem d_C_hasRowThrough_51 : decode b_C_hasRowThrough 51 = .ok (.getfield 110, 3) := by decide +kernel
theorem d_C_hasRowThrough_54 : decode b_C_hasRowThrough 54 = .ok (.invokevirtual 158, 3) := by decide +kernel
theorem d_C_hasRowThrough_57 : decode b_C_hasRowThrough 57 = .ok (.aload_n 0, 1) := by decide +kernel
theorem d_C_hasRowThrough_58 : decode b_C_hasRowThrough 58 = .ok (.getfield 25, 3) := by decide +kernel
theorem d_C_hasRowThrough_61 : decode b_C_hasRowThrough 61 = .ok (.iload_n 3, 1) := by decide +kernel
theorem d_C_hasRowThrough_62 : decode b_C_hasRowThrough 62 = .ok (.iconst 1, 1) := by decide +kernel
theorem d_C_hasRowThrough_63 : decode b_C_hasRowThrough 63 = .ok (.invokevirtual 184, 3) := by decide +kernel
theorem d_C_hasRowThrough_66 : decode b_C_hasRowThrough 66 = .ok (.aload_n 0, 1) := by decide +kernel
theorem d_C_hasRowThrough_67 : decode b_C_hasRowThrough 67 = .ok (.getfield 34, 3) := by decide +kernel
theorem d_C_hasRowThrough_70 : decode b_C_hasRowThrough 70 = .ok (.aload_n 1, 1) := by decide +kernel
theorem d_C_hasRowThrough_71 : decode b_C_hasRowThrough 71 = .ok (.aload_n 0, 1) := by decide +kernel
theorem d_C_hasRowThrough_72 : decode b_C_hasRowThrough 72 = .ok (.getfield 50, 3) := by decide +kernel
theorem d_C_hasRowThrough_75 : decode b_C_hasRowThrough 75 = .ok (.invokevirtual 166, 3) := by decide +kernel
theorem d_C_hasRowThrough_78 : decode b_C_hasRowThrough 78 = .ok (.aload_n 0, 1) := by decide +kernel
theorem d_C_hasRowThrough_79 : decode b_C_hasRowThrough 79 = .ok (.getfield 50, 3) := by decide +kernel
theorem d_C_hasRowThrough_82 : decode b_C_hasRowThrough 82 = .ok (.getfield 188, 3) := by decide +kernel
theorem d_C_hasRowThrough_85 : decode b_C_hasRowThrough 85 = .ok (.ifCond .le 5, 3) := by decide +kernel
theorem d_C_hasRowThrough_88 : decode b_C_hasRowThrough 88 = .ok (.iconst 1, 1) := by decide +kernel
theorem d_C_hasRowThrough_89 : decode b_C_hasRowThrough 89 = .ok (.ireturn, 1) := by decide +kernel
theorem d_C_hasRowThrough_90 : decode b_C_hasRowThrough 90 = .ok (.iinc 4 1, 3) := by decide +kernel
theorem d_C_hasRowThrough_93 : decode b_C_hasRowThrough 93 = .ok (.goto (-90), 3) := by decide +kernel
theorem d_C_hasRowThrough_96 : decode b_C_hasRowThrough 96 = .ok (.iconst 0, 1) := by decide +kernel
theorem d_C_hasRowThrough_97 : decode b_C_hasRowThrough 97 = .ok (.ireturn, 1) := by decide +kernel

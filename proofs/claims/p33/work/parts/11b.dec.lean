/-! decoded instructions -/
theorem dX8_init_0 : decode cX8_init 0 = .ok (.aload_n 0, 1) := by decide +kernel
theorem dX8_init_1 : decode cX8_init 1 = .ok (.invokespecial 1, 3) := by decide +kernel
theorem dX8_init_4 : decode cX8_init 4 = .ok (.aload_n 0, 1) := by decide +kernel
theorem dX8_init_5 : decode cX8_init 5 = .ok (.new 7, 3) := by decide +kernel
theorem dX8_init_8 : decode cX8_init 8 = .ok (.dup, 1) := by decide +kernel
theorem dX8_init_9 : decode cX8_init 9 = .ok (.invokespecial 9, 3) := by decide +kernel
theorem dX8_init_12 : decode cX8_init 12 = .ok (.putfield 10, 3) := by decide +kernel
theorem dX8_init_15 : decode cX8_init 15 = .ok (.aload_n 0, 1) := by decide +kernel
theorem dX8_init_16 : decode cX8_init 16 = .ok (.new 7, 3) := by decide +kernel
theorem dX8_init_19 : decode cX8_init 19 = .ok (.dup, 1) := by decide +kernel
theorem dX8_init_20 : decode cX8_init 20 = .ok (.invokespecial 9, 3) := by decide +kernel
theorem dX8_init_23 : decode cX8_init 23 = .ok (.putfield 16, 3) := by decide +kernel
theorem dX8_init_26 : decode cX8_init 26 = .ok (.aload_n 0, 1) := by decide +kernel
theorem dX8_init_27 : decode cX8_init 27 = .ok (.new 7, 3) := by decide +kernel
theorem dX8_init_30 : decode cX8_init 30 = .ok (.dup, 1) := by decide +kernel
theorem dX8_init_31 : decode cX8_init 31 = .ok (.invokespecial 9, 3) := by decide +kernel
theorem dX8_init_34 : decode cX8_init 34 = .ok (.putfield 19, 3) := by decide +kernel
theorem dX8_init_37 : decode cX8_init 37 = .ok (.aload_n 0, 1) := by decide +kernel
theorem dX8_init_38 : decode cX8_init 38 = .ok (.new 7, 3) := by decide +kernel
theorem dX8_init_41 : decode cX8_init 41 = .ok (.dup, 1) := by decide +kernel
theorem dX8_init_42 : decode cX8_init 42 = .ok (.invokespecial 9, 3) := by decide +kernel
theorem dX8_init_45 : decode cX8_init 45 = .ok (.putfield 22, 3) := by decide +kernel
theorem dX8_init_48 : decode cX8_init 48 = .ok (.aload_n 0, 1) := by decide +kernel
theorem dX8_init_49 : decode cX8_init 49 = .ok (.lconst 0, 1) := by decide +kernel
theorem dX8_init_50 : decode cX8_init 50 = .ok (.putfield 25, 3) := by decide +kernel
theorem dX8_init_53 : decode cX8_init 53 = .ok (.return_, 1) := by decide +kernel
theorem dX8_riddle_0 : decode cX8_riddle 0 = .ok (.iload_n 1, 1) := by decide +kernel
theorem dX8_riddle_1 : decode cX8_riddle 1 = .ok (.iconst 3, 1) := by decide +kernel
theorem dX8_riddle_2 : decode cX8_riddle 2 = .ok (.if_icmp .lt 9, 3) := by decide +kernel
theorem dX8_riddle_5 : decode cX8_riddle 5 = .ok (.iload_n 1, 1) := by decide +kernel
theorem dX8_riddle_6 : decode cX8_riddle 6 = .ok (.bipush 6, 2) := by decide +kernel
theorem dX8_riddle_8 : decode cX8_riddle 8 = .ok (.if_icmp .le 13, 3) := by decide +kernel
theorem dX8_riddle_11 : decode cX8_riddle 11 = .ok (.new 29, 3) := by decide +kernel
theorem dX8_riddle_14 : decode cX8_riddle 14 = .ok (.dup, 1) := by decide +kernel
theorem dX8_riddle_15 : decode cX8_riddle 15 = .ok (.ldc 31, 2) := by decide +kernel
theorem dX8_riddle_17 : decode cX8_riddle 17 = .ok (.invokespecial 33, 3) := by decide +kernel
theorem dX8_riddle_20 : decode cX8_riddle 20 = .ok (.athrow, 1) := by decide +kernel
theorem dX8_riddle_21 : decode cX8_riddle 21 = .ok (.aload_n 0, 1) := by decide +kernel
theorem dX8_riddle_22 : decode cX8_riddle 22 = .ok (.getfield 10, 3) := by decide +kernel
theorem dX8_riddle_25 : decode cX8_riddle 25 = .ok (.invokeinterface 36 1, 5) := by decide +kernel
theorem dX8_riddle_30 : decode cX8_riddle 30 = .ok (.bipush 20, 2) := by decide +kernel
theorem dX8_riddle_32 : decode cX8_riddle 32 = .ok (.if_icmp .lt 13, 3) := by decide +kernel
theorem dX8_riddle_35 : decode cX8_riddle 35 = .ok (.new 42, 3) := by decide +kernel
theorem dX8_riddle_38 : decode cX8_riddle 38 = .ok (.dup, 1) := by decide +kernel
theorem dX8_riddle_39 : decode cX8_riddle 39 = .ok (.ldc 44, 2) := by decide +kernel
theorem dX8_riddle_41 : decode cX8_riddle 41 = .ok (.invokespecial 46, 3) := by decide +kernel
theorem dX8_riddle_44 : decode cX8_riddle 44 = .ok (.athrow, 1) := by decide +kernel
theorem dX8_riddle_45 : decode cX8_riddle 45 = .ok (.aload_n 0, 1) := by decide +kernel
theorem dX8_riddle_46 : decode cX8_riddle 46 = .ok (.getfield 10, 3) := by decide +kernel
theorem dX8_riddle_49 : decode cX8_riddle 49 = .ok (.new 47, 3) := by decide +kernel
theorem dX8_riddle_52 : decode cX8_riddle 52 = .ok (.dup, 1) := by decide +kernel
theorem dX8_riddle_53 : decode cX8_riddle 53 = .ok (.iload_n 1, 1) := by decide +kernel
theorem dX8_riddle_54 : decode cX8_riddle 54 = .ok (.invokespecial 49, 3) := by decide +kernel
theorem dX8_riddle_57 : decode cX8_riddle 57 = .ok (.invokeinterface 52 2, 5) := by decide +kernel
theorem dX8_riddle_62 : decode cX8_riddle 62 = .ok (.pop, 1) := by decide +kernel
theorem dX8_riddle_63 : decode cX8_riddle 63 = .ok (.aload_n 0, 1) := by decide +kernel
theorem dX8_riddle_64 : decode cX8_riddle 64 = .ok (.getfield 10, 3) := by decide +kernel
theorem dX8_riddle_67 : decode cX8_riddle 67 = .ok (.invokeinterface 36 1, 5) := by decide +kernel
theorem dX8_riddle_72 : decode cX8_riddle 72 = .ok (.iconst 1, 1) := by decide +kernel
theorem dX8_riddle_73 : decode cX8_riddle 73 = .ok (.isub, 1) := by decide +kernel
theorem dX8_riddle_74 : decode cX8_riddle 74 = .ok (.ireturn, 1) := by decide +kernel
theorem dX8_clue_0 : decode cX8_clue 0 = .ok (.aload_n 0, 1) := by decide +kernel
theorem dX8_clue_1 : decode cX8_clue 1 = .ok (.iload_n 1, 1) := by decide +kernel
theorem dX8_clue_2 : decode cX8_clue 2 = .ok (.invokevirtual 56, 3) := by decide +kernel
theorem dX8_clue_5 : decode cX8_clue 5 = .ok (.astore 6, 2) := by decide +kernel
theorem dX8_clue_7 : decode cX8_clue 7 = .ok (.new 60, 3) := by decide +kernel
theorem dX8_clue_10 : decode cX8_clue 10 = .ok (.dup, 1) := by decide +kernel
theorem dX8_clue_11 : decode cX8_clue 11 = .ok (.iload_n 2, 1) := by decide +kernel
theorem dX8_clue_12 : decode cX8_clue 12 = .ok (.iload_n 3, 1) := by decide +kernel
theorem dX8_clue_13 : decode cX8_clue 13 = .ok (.iload 4, 2) := by decide +kernel
theorem dX8_clue_15 : decode cX8_clue 15 = .ok (.iload 5, 2) := by decide +kernel
theorem dX8_clue_17 : decode cX8_clue 17 = .ok (.invokespecial 62, 3) := by decide +kernel
theorem dX8_clue_20 : decode cX8_clue 20 = .ok (.astore 7, 2) := by decide +kernel
theorem dX8_clue_22 : decode cX8_clue 22 = .ok (.aload 7, 2) := by decide +kernel
theorem dX8_clue_24 : decode cX8_clue 24 = .ok (.aload 6, 2) := by decide +kernel
theorem dX8_clue_26 : decode cX8_clue 26 = .ok (.getfield 65, 3) := by decide +kernel
theorem dX8_clue_29 : decode cX8_clue 29 = .ok (.invokevirtual 69, 3) := by decide +kernel
theorem dX8_clue_32 : decode cX8_clue 32 = .ok (.ifCond .ne 13, 3) := by decide +kernel
theorem dX8_clue_35 : decode cX8_clue 35 = .ok (.new 29, 3) := by decide +kernel
theorem dX8_clue_38 : decode cX8_clue 38 = .ok (.dup, 1) := by decide +kernel
theorem dX8_clue_39 : decode cX8_clue 39 = .ok (.ldc 73, 2) := by decide +kernel
theorem dX8_clue_41 : decode cX8_clue 41 = .ok (.invokespecial 33, 3) := by decide +kernel
theorem dX8_clue_44 : decode cX8_clue 44 = .ok (.athrow, 1) := by decide +kernel
theorem dX8_clue_45 : decode cX8_clue 45 = .ok (.aload 6, 2) := by decide +kernel
theorem dX8_clue_47 : decode cX8_clue 47 = .ok (.getfield 75, 3) := by decide +kernel
theorem dX8_clue_50 : decode cX8_clue 50 = .ok (.getfield 79, 3) := by decide +kernel
theorem dX8_clue_53 : decode cX8_clue 53 = .ok (.bipush 45, 2) := by decide +kernel
theorem dX8_clue_55 : decode cX8_clue 55 = .ok (.if_icmp .eq 13, 3) := by decide +kernel
theorem dX8_clue_58 : decode cX8_clue 58 = .ok (.new 85, 3) := by decide +kernel
theorem dX8_clue_61 : decode cX8_clue 61 = .ok (.dup, 1) := by decide +kernel
theorem dX8_clue_62 : decode cX8_clue 62 = .ok (.ldc 87, 2) := by decide +kernel
theorem dX8_clue_64 : decode cX8_clue 64 = .ok (.invokespecial 89, 3) := by decide +kernel
theorem dX8_clue_67 : decode cX8_clue 67 = .ok (.athrow, 1) := by decide +kernel
theorem dX8_clue_68 : decode cX8_clue 68 = .ok (.aload 6, 2) := by decide +kernel
theorem dX8_clue_70 : decode cX8_clue 70 = .ok (.getfield 90, 3) := by decide +kernel
theorem dX8_clue_73 : decode cX8_clue 73 = .ok (.invokeinterface 36 1, 5) := by decide +kernel
theorem dX8_clue_78 : decode cX8_clue 78 = .ok (.bipush 8, 2) := by decide +kernel
theorem dX8_clue_80 : decode cX8_clue 80 = .ok (.if_icmp .lt 13, 3) := by decide +kernel
theorem dX8_clue_83 : decode cX8_clue 83 = .ok (.new 42, 3) := by decide +kernel
theorem dX8_clue_86 : decode cX8_clue 86 = .ok (.dup, 1) := by decide +kernel
theorem dX8_clue_87 : decode cX8_clue 87 = .ok (.ldc 93, 2) := by decide +kernel
theorem dX8_clue_89 : decode cX8_clue 89 = .ok (.invokespecial 46, 3) := by decide +kernel
theorem dX8_clue_92 : decode cX8_clue 92 = .ok (.athrow, 1) := by decide +kernel
theorem dX8_clue_93 : decode cX8_clue 93 = .ok (.aload 6, 2) := by decide +kernel
theorem dX8_clue_95 : decode cX8_clue 95 = .ok (.aload 7, 2) := by decide +kernel
theorem dX8_clue_97 : decode cX8_clue 97 = .ok (.invokevirtual 95, 3) := by decide +kernel
theorem dX8_clue_100 : decode cX8_clue 100 = .ok (.aload 6, 2) := by decide +kernel
theorem dX8_clue_102 : decode cX8_clue 102 = .ok (.getfield 90, 3) := by decide +kernel
theorem dX8_clue_105 : decode cX8_clue 105 = .ok (.invokeinterface 36 1, 5) := by decide +kernel
theorem dX8_clue_110 : decode cX8_clue 110 = .ok (.ireturn, 1) := by decide +kernel
theorem dX8_answers_0 : decode cX8_answers 0 = .ok (.aload_n 0, 1) := by decide +kernel
theorem dX8_answers_1 : decode cX8_answers 1 = .ok (.iload_n 1, 1) := by decide +kernel
theorem dX8_answers_2 : decode cX8_answers 2 = .ok (.invokevirtual 56, 3) := by decide +kernel
theorem dX8_answers_5 : decode cX8_answers 5 = .ok (.astore_n 2, 1) := by decide +kernel
theorem dX8_answers_6 : decode cX8_answers 6 = .ok (.aload_n 2, 1) := by decide +kernel
theorem dX8_answers_7 : decode cX8_answers 7 = .ok (.invokevirtual 99, 3) := by decide +kernel
theorem dX8_answers_10 : decode cX8_answers 10 = .ok (.aload_n 2, 1) := by decide +kernel
theorem dX8_answers_11 : decode cX8_answers 11 = .ok (.getfield 102, 3) := by decide +kernel
theorem dX8_answers_14 : decode cX8_answers 14 = .ok (.ireturn, 1) := by decide +kernel
theorem dX8_answer_0 : decode cX8_answer 0 = .ok (.aload_n 0, 1) := by decide +kernel
theorem dX8_answer_1 : decode cX8_answer 1 = .ok (.iload_n 1, 1) := by decide +kernel
theorem dX8_answer_2 : decode cX8_answer 2 = .ok (.invokevirtual 56, 3) := by decide +kernel
theorem dX8_answer_5 : decode cX8_answer 5 = .ok (.astore_n 3, 1) := by decide +kernel
theorem dX8_answer_6 : decode cX8_answer 6 = .ok (.iload_n 2, 1) := by decide +kernel
theorem dX8_answer_7 : decode cX8_answer 7 = .ok (.ifCond .lt 12, 3) := by decide +kernel
theorem dX8_answer_10 : decode cX8_answer 10 = .ok (.iload_n 2, 1) := by decide +kernel
theorem dX8_answer_11 : decode cX8_answer 11 = .ok (.aload_n 3, 1) := by decide +kernel
theorem dX8_answer_12 : decode cX8_answer 12 = .ok (.getfield 105, 3) := by decide +kernel
theorem dX8_answer_15 : decode cX8_answer 15 = .ok (.arraylength, 1) := by decide +kernel
theorem dX8_answer_16 : decode cX8_answer 16 = .ok (.if_icmp .lt 13, 3) := by decide +kernel
theorem dX8_answer_19 : decode cX8_answer 19 = .ok (.new 109, 3) := by decide +kernel
theorem dX8_answer_22 : decode cX8_answer 22 = .ok (.dup, 1) := by decide +kernel
theorem dX8_answer_23 : decode cX8_answer 23 = .ok (.ldc 111, 2) := by decide +kernel
theorem dX8_answer_25 : decode cX8_answer 25 = .ok (.invokespecial 113, 3) := by decide +kernel
theorem dX8_answer_28 : decode cX8_answer 28 = .ok (.athrow, 1) := by decide +kernel
theorem dX8_answer_29 : decode cX8_answer 29 = .ok (.aload_n 3, 1) := by decide +kernel
theorem dX8_answer_30 : decode cX8_answer 30 = .ok (.invokevirtual 99, 3) := by decide +kernel
theorem dX8_answer_33 : decode cX8_answer 33 = .ok (.aload_n 3, 1) := by decide +kernel
theorem dX8_answer_34 : decode cX8_answer 34 = .ok (.getfield 102, 3) := by decide +kernel
theorem dX8_answer_37 : decode cX8_answer 37 = .ok (.ifCond .ne 13, 3) := by decide +kernel
theorem dX8_answer_40 : decode cX8_answer 40 = .ok (.new 114, 3) := by decide +kernel
theorem dX8_answer_43 : decode cX8_answer 43 = .ok (.dup, 1) := by decide +kernel
theorem dX8_answer_44 : decode cX8_answer 44 = .ok (.ldc 116, 2) := by decide +kernel
theorem dX8_answer_46 : decode cX8_answer 46 = .ok (.invokespecial 118, 3) := by decide +kernel
theorem dX8_answer_49 : decode cX8_answer 49 = .ok (.athrow, 1) := by decide +kernel
theorem dX8_answer_50 : decode cX8_answer 50 = .ok (.aload_n 3, 1) := by decide +kernel
theorem dX8_answer_51 : decode cX8_answer 51 = .ok (.getfield 105, 3) := by decide +kernel
theorem dX8_answer_54 : decode cX8_answer 54 = .ok (.iload_n 2, 1) := by decide +kernel
theorem dX8_answer_55 : decode cX8_answer 55 = .ok (.iaload, 1) := by decide +kernel
theorem dX8_answer_56 : decode cX8_answer 56 = .ok (.ireturn, 1) := by decide +kernel
theorem dX8_prove_0 : decode cX8_prove 0 = .ok (.aload_n 0, 1) := by decide +kernel
theorem dX8_prove_1 : decode cX8_prove 1 = .ok (.iload_n 1, 1) := by decide +kernel
theorem dX8_prove_2 : decode cX8_prove 2 = .ok (.invokevirtual 56, 3) := by decide +kernel
theorem dX8_prove_5 : decode cX8_prove 5 = .ok (.astore_n 2, 1) := by decide +kernel
theorem dX8_prove_6 : decode cX8_prove 6 = .ok (.aload_n 2, 1) := by decide +kernel
theorem dX8_prove_7 : decode cX8_prove 7 = .ok (.getfield 119, 3) := by decide +kernel
theorem dX8_prove_10 : decode cX8_prove 10 = .ok (.bipush 105, 2) := by decide +kernel
theorem dX8_prove_12 : decode cX8_prove 12 = .ok (.if_icmp .eq 21, 3) := by decide +kernel
theorem dX8_prove_15 : decode cX8_prove 15 = .ok (.aload_n 2, 1) := by decide +kernel
theorem dX8_prove_16 : decode cX8_prove 16 = .ok (.getfield 119, 3) := by decide +kernel
theorem dX8_prove_19 : decode cX8_prove 19 = .ok (.bipush 115, 2) := by decide +kernel
theorem dX8_prove_21 : decode cX8_prove 21 = .ok (.if_icmp .eq 12, 3) := by decide +kernel
theorem dX8_prove_24 : decode cX8_prove 24 = .ok (.aload_n 2, 1) := by decide +kernel
theorem dX8_prove_25 : decode cX8_prove 25 = .ok (.getfield 119, 3) := by decide +kernel
theorem dX8_prove_28 : decode cX8_prove 28 = .ok (.bipush 98, 2) := by decide +kernel
theorem dX8_prove_30 : decode cX8_prove 30 = .ok (.if_icmp .ne 13, 3) := by decide +kernel
theorem dX8_prove_33 : decode cX8_prove 33 = .ok (.new 85, 3) := by decide +kernel
theorem dX8_prove_36 : decode cX8_prove 36 = .ok (.dup, 1) := by decide +kernel
theorem dX8_prove_37 : decode cX8_prove 37 = .ok (.ldc 122, 2) := by decide +kernel
theorem dX8_prove_39 : decode cX8_prove 39 = .ok (.invokespecial 89, 3) := by decide +kernel
theorem dX8_prove_42 : decode cX8_prove 42 = .ok (.athrow, 1) := by decide +kernel
theorem dX8_prove_43 : decode cX8_prove 43 = .ok (.aload_n 2, 1) := by decide +kernel
theorem dX8_prove_44 : decode cX8_prove 44 = .ok (.getfield 75, 3) := by decide +kernel
theorem dX8_prove_47 : decode cX8_prove 47 = .ok (.aload_n 2, 1) := by decide +kernel
theorem dX8_prove_48 : decode cX8_prove 48 = .ok (.getfield 90, 3) := by decide +kernel
theorem dX8_prove_51 : decode cX8_prove 51 = .ok (.aload_n 0, 1) := by decide +kernel
theorem dX8_prove_52 : decode cX8_prove 52 = .ok (.getfield 16, 3) := by decide +kernel
theorem dX8_prove_55 : decode cX8_prove 55 = .ok (.invokevirtual 124, 3) := by decide +kernel
theorem dX8_prove_58 : decode cX8_prove 58 = .ok (.aload_n 2, 1) := by decide +kernel
theorem dX8_prove_59 : decode cX8_prove 59 = .ok (.getfield 75, 3) := by decide +kernel
theorem dX8_prove_62 : decode cX8_prove 62 = .ok (.getfield 79, 3) := by decide +kernel
theorem dX8_prove_65 : decode cX8_prove 65 = .ok (.bipush 119, 2) := by decide +kernel
theorem dX8_prove_67 : decode cX8_prove 67 = .ok (.if_icmp .ne 12, 3) := by decide +kernel
theorem dX8_prove_70 : decode cX8_prove 70 = .ok (.aload_n 2, 1) := by decide +kernel
theorem dX8_prove_71 : decode cX8_prove 71 = .ok (.bipush 119, 2) := by decide +kernel
theorem dX8_prove_73 : decode cX8_prove 73 = .ok (.putfield 119, 3) := by decide +kernel
theorem dX8_prove_76 : decode cX8_prove 76 = .ok (.goto 18, 3) := by decide +kernel
theorem dX8_prove_79 : decode cX8_prove 79 = .ok (.aload_n 2, 1) := by decide +kernel
theorem dX8_prove_80 : decode cX8_prove 80 = .ok (.getfield 119, 3) := by decide +kernel
theorem dX8_prove_83 : decode cX8_prove 83 = .ok (.bipush 104, 2) := by decide +kernel
theorem dX8_prove_85 : decode cX8_prove 85 = .ok (.if_icmp .eq 9, 3) := by decide +kernel
theorem dX8_prove_88 : decode cX8_prove 88 = .ok (.aload_n 2, 1) := by decide +kernel
theorem dX8_prove_89 : decode cX8_prove 89 = .ok (.bipush 111, 2) := by decide +kernel
theorem dX8_prove_91 : decode cX8_prove 91 = .ok (.putfield 119, 3) := by decide +kernel
theorem dX8_prove_94 : decode cX8_prove 94 = .ok (.aload_n 2, 1) := by decide +kernel
theorem dX8_prove_95 : decode cX8_prove 95 = .ok (.getfield 75, 3) := by decide +kernel
theorem dX8_prove_98 : decode cX8_prove 98 = .ok (.getfield 79, 3) := by decide +kernel
theorem dX8_prove_101 : decode cX8_prove 101 = .ok (.ireturn, 1) := by decide +kernel
theorem dX8_steps_0 : decode cX8_steps 0 = .ok (.aload_n 0, 1) := by decide +kernel
theorem dX8_steps_1 : decode cX8_steps 1 = .ok (.iload_n 1, 1) := by decide +kernel
theorem dX8_steps_2 : decode cX8_steps 2 = .ok (.invokevirtual 56, 3) := by decide +kernel
theorem dX8_steps_5 : decode cX8_steps 5 = .ok (.getfield 75, 3) := by decide +kernel
theorem dX8_steps_8 : decode cX8_steps 8 = .ok (.astore_n 2, 1) := by decide +kernel
theorem dX8_steps_9 : decode cX8_steps 9 = .ok (.aload_n 2, 1) := by decide +kernel
theorem dX8_steps_10 : decode cX8_steps 10 = .ok (.getfield 79, 3) := by decide +kernel
theorem dX8_steps_13 : decode cX8_steps 13 = .ok (.bipush 45, 2) := by decide +kernel
theorem dX8_steps_15 : decode cX8_steps 15 = .ok (.if_icmp .ne 13, 3) := by decide +kernel
theorem dX8_steps_18 : decode cX8_steps 18 = .ok (.new 114, 3) := by decide +kernel
theorem dX8_steps_21 : decode cX8_steps 21 = .ok (.dup, 1) := by decide +kernel
theorem dX8_steps_22 : decode cX8_steps 22 = .ok (.ldc 128, 2) := by decide +kernel
theorem dX8_steps_24 : decode cX8_steps 24 = .ok (.invokespecial 118, 3) := by decide +kernel
theorem dX8_steps_27 : decode cX8_steps 27 = .ok (.athrow, 1) := by decide +kernel
theorem dX8_steps_28 : decode cX8_steps 28 = .ok (.aload_n 2, 1) := by decide +kernel
theorem dX8_steps_29 : decode cX8_steps 29 = .ok (.getfield 130, 3) := by decide +kernel
theorem dX8_steps_32 : decode cX8_steps 32 = .ok (.ireturn, 1) := by decide +kernel
theorem dX8_ruleAt_0 : decode cX8_ruleAt 0 = .ok (.aload_n 0, 1) := by decide +kernel
theorem dX8_ruleAt_1 : decode cX8_ruleAt 1 = .ok (.iload_n 1, 1) := by decide +kernel
theorem dX8_ruleAt_2 : decode cX8_ruleAt 2 = .ok (.invokevirtual 56, 3) := by decide +kernel
theorem dX8_ruleAt_5 : decode cX8_ruleAt 5 = .ok (.getfield 75, 3) := by decide +kernel
theorem dX8_ruleAt_8 : decode cX8_ruleAt 8 = .ok (.astore_n 3, 1) := by decide +kernel
theorem dX8_ruleAt_9 : decode cX8_ruleAt 9 = .ok (.aload_n 3, 1) := by decide +kernel
theorem dX8_ruleAt_10 : decode cX8_ruleAt 10 = .ok (.iload_n 2, 1) := by decide +kernel
theorem dX8_ruleAt_11 : decode cX8_ruleAt 11 = .ok (.invokevirtual 133, 3) := by decide +kernel
theorem dX8_ruleAt_14 : decode cX8_ruleAt 14 = .ok (.ifCond .ne 13, 3) := by decide +kernel
theorem dX8_ruleAt_17 : decode cX8_ruleAt 17 = .ok (.new 114, 3) := by decide +kernel
theorem dX8_ruleAt_20 : decode cX8_ruleAt 20 = .ok (.dup, 1) := by decide +kernel
theorem dX8_ruleAt_21 : decode cX8_ruleAt 21 = .ok (.ldc 136, 2) := by decide +kernel
theorem dX8_ruleAt_23 : decode cX8_ruleAt 23 = .ok (.invokespecial 118, 3) := by decide +kernel
theorem dX8_ruleAt_26 : decode cX8_ruleAt 26 = .ok (.athrow, 1) := by decide +kernel
theorem dX8_ruleAt_27 : decode cX8_ruleAt 27 = .ok (.aload_n 3, 1) := by decide +kernel
theorem dX8_ruleAt_28 : decode cX8_ruleAt 28 = .ok (.getfield 138, 3) := by decide +kernel
theorem dX8_ruleAt_31 : decode cX8_ruleAt 31 = .ok (.iload_n 2, 1) := by decide +kernel
theorem dX8_ruleAt_32 : decode cX8_ruleAt 32 = .ok (.iaload, 1) := by decide +kernel
theorem dX8_ruleAt_33 : decode cX8_ruleAt 33 = .ok (.ireturn, 1) := by decide +kernel
theorem dX8_causeAt_0 : decode cX8_causeAt 0 = .ok (.aload_n 0, 1) := by decide +kernel
theorem dX8_causeAt_1 : decode cX8_causeAt 1 = .ok (.iload_n 1, 1) := by decide +kernel
theorem dX8_causeAt_2 : decode cX8_causeAt 2 = .ok (.invokevirtual 56, 3) := by decide +kernel
theorem dX8_causeAt_5 : decode cX8_causeAt 5 = .ok (.getfield 75, 3) := by decide +kernel
theorem dX8_causeAt_8 : decode cX8_causeAt 8 = .ok (.astore_n 3, 1) := by decide +kernel
theorem dX8_causeAt_9 : decode cX8_causeAt 9 = .ok (.aload_n 3, 1) := by decide +kernel
theorem dX8_causeAt_10 : decode cX8_causeAt 10 = .ok (.iload_n 2, 1) := by decide +kernel
theorem dX8_causeAt_11 : decode cX8_causeAt 11 = .ok (.invokevirtual 133, 3) := by decide +kernel
theorem dX8_causeAt_14 : decode cX8_causeAt 14 = .ok (.ifCond .ne 13, 3) := by decide +kernel
theorem dX8_causeAt_17 : decode cX8_causeAt 17 = .ok (.new 114, 3) := by decide +kernel
theorem dX8_causeAt_20 : decode cX8_causeAt 20 = .ok (.dup, 1) := by decide +kernel
theorem dX8_causeAt_21 : decode cX8_causeAt 21 = .ok (.ldc 136, 2) := by decide +kernel
theorem dX8_causeAt_23 : decode cX8_causeAt 23 = .ok (.invokespecial 118, 3) := by decide +kernel
theorem dX8_causeAt_26 : decode cX8_causeAt 26 = .ok (.athrow, 1) := by decide +kernel
theorem dX8_causeAt_27 : decode cX8_causeAt 27 = .ok (.aload_n 3, 1) := by decide +kernel
theorem dX8_causeAt_28 : decode cX8_causeAt 28 = .ok (.getfield 141, 3) := by decide +kernel
theorem dX8_causeAt_31 : decode cX8_causeAt 31 = .ok (.iload_n 2, 1) := by decide +kernel
theorem dX8_causeAt_32 : decode cX8_causeAt 32 = .ok (.iaload, 1) := by decide +kernel
theorem dX8_causeAt_33 : decode cX8_causeAt 33 = .ok (.ireturn, 1) := by decide +kernel
theorem dX8_takenAt_0 : decode cX8_takenAt 0 = .ok (.aload_n 0, 1) := by decide +kernel
theorem dX8_takenAt_1 : decode cX8_takenAt 1 = .ok (.iload_n 1, 1) := by decide +kernel
theorem dX8_takenAt_2 : decode cX8_takenAt 2 = .ok (.invokevirtual 56, 3) := by decide +kernel
theorem dX8_takenAt_5 : decode cX8_takenAt 5 = .ok (.getfield 75, 3) := by decide +kernel
theorem dX8_takenAt_8 : decode cX8_takenAt 8 = .ok (.astore_n 3, 1) := by decide +kernel
theorem dX8_takenAt_9 : decode cX8_takenAt 9 = .ok (.aload_n 3, 1) := by decide +kernel
theorem dX8_takenAt_10 : decode cX8_takenAt 10 = .ok (.iload_n 2, 1) := by decide +kernel
theorem dX8_takenAt_11 : decode cX8_takenAt 11 = .ok (.invokevirtual 133, 3) := by decide +kernel
theorem dX8_takenAt_14 : decode cX8_takenAt 14 = .ok (.ifCond .ne 13, 3) := by decide +kernel
theorem dX8_takenAt_17 : decode cX8_takenAt 17 = .ok (.new 114, 3) := by decide +kernel
theorem dX8_takenAt_20 : decode cX8_takenAt 20 = .ok (.dup, 1) := by decide +kernel
theorem dX8_takenAt_21 : decode cX8_takenAt 21 = .ok (.ldc 136, 2) := by decide +kernel
theorem dX8_takenAt_23 : decode cX8_takenAt 23 = .ok (.invokespecial 118, 3) := by decide +kernel
theorem dX8_takenAt_26 : decode cX8_takenAt 26 = .ok (.athrow, 1) := by decide +kernel
theorem dX8_takenAt_27 : decode cX8_takenAt 27 = .ok (.aload_n 3, 1) := by decide +kernel
theorem dX8_takenAt_28 : decode cX8_takenAt 28 = .ok (.getfield 144, 3) := by decide +kernel
theorem dX8_takenAt_31 : decode cX8_takenAt 31 = .ok (.iload_n 2, 1) := by decide +kernel
theorem dX8_takenAt_32 : decode cX8_takenAt 32 = .ok (.iaload, 1) := by decide +kernel
theorem dX8_takenAt_33 : decode cX8_takenAt 33 = .ok (.ireturn, 1) := by decide +kernel
theorem dX8_leansOn_0 : decode cX8_leansOn 0 = .ok (.aload_n 0, 1) := by decide +kernel
theorem dX8_leansOn_1 : decode cX8_leansOn 1 = .ok (.iload_n 1, 1) := by decide +kernel
theorem dX8_leansOn_2 : decode cX8_leansOn 2 = .ok (.invokevirtual 56, 3) := by decide +kernel
theorem dX8_leansOn_5 : decode cX8_leansOn 5 = .ok (.astore_n 3, 1) := by decide +kernel
theorem dX8_leansOn_6 : decode cX8_leansOn 6 = .ok (.aload_n 0, 1) := by decide +kernel
theorem dX8_leansOn_7 : decode cX8_leansOn 7 = .ok (.iload_n 2, 1) := by decide +kernel
theorem dX8_leansOn_8 : decode cX8_leansOn 8 = .ok (.invokevirtual 147, 3) := by decide +kernel
theorem dX8_leansOn_11 : decode cX8_leansOn 11 = .ok (.aload_n 3, 1) := by decide +kernel
theorem dX8_leansOn_12 : decode cX8_leansOn 12 = .ok (.getfield 75, 3) := by decide +kernel
theorem dX8_leansOn_15 : decode cX8_leansOn 15 = .ok (.iload_n 2, 1) := by decide +kernel
theorem dX8_leansOn_16 : decode cX8_leansOn 16 = .ok (.invokevirtual 150, 3) := by decide +kernel
theorem dX8_leansOn_19 : decode cX8_leansOn 19 = .ok (.ireturn, 1) := by decide +kernel
theorem dX8_state_0 : decode cX8_state 0 = .ok (.aload_n 0, 1) := by decide +kernel
theorem dX8_state_1 : decode cX8_state 1 = .ok (.iload_n 1, 1) := by decide +kernel
theorem dX8_state_2 : decode cX8_state 2 = .ok (.invokevirtual 56, 3) := by decide +kernel
theorem dX8_state_5 : decode cX8_state 5 = .ok (.getfield 119, 3) := by decide +kernel
theorem dX8_state_8 : decode cX8_state 8 = .ok (.ireturn, 1) := by decide +kernel
theorem dX8_rule_0 : decode cX8_rule 0 = .ok (.ldc 153, 2) := by decide +kernel
theorem dX8_rule_2 : decode cX8_rule 2 = .ok (.iload_n 1, 1) := by decide +kernel
theorem dX8_rule_3 : decode cX8_rule 3 = .ok (.invokevirtual 155, 3) := by decide +kernel
theorem dX8_rule_6 : decode cX8_rule 6 = .ok (.ifCond .lt 23, 3) := by decide +kernel
theorem dX8_rule_9 : decode cX8_rule 9 = .ok (.iload_n 1, 1) := by decide +kernel
theorem dX8_rule_10 : decode cX8_rule 10 = .ok (.iload_n 2, 1) := by decide +kernel
theorem dX8_rule_11 : decode cX8_rule 11 = .ok (.invokestatic 161, 3) := by decide +kernel
theorem dX8_rule_14 : decode cX8_rule 14 = .ok (.ifCond .eq 15, 3) := by decide +kernel
theorem dX8_rule_17 : decode cX8_rule 17 = .ok (.iload 4, 2) := by decide +kernel
theorem dX8_rule_19 : decode cX8_rule 19 = .ok (.iconst 1, 1) := by decide +kernel
theorem dX8_rule_20 : decode cX8_rule 20 = .ok (.if_icmp .lt 9, 3) := by decide +kernel
theorem dX8_rule_23 : decode cX8_rule 23 = .ok (.iload 4, 2) := by decide +kernel
theorem dX8_rule_25 : decode cX8_rule 25 = .ok (.iconst 5, 1) := by decide +kernel
theorem dX8_rule_26 : decode cX8_rule 26 = .ok (.if_icmp .le 13, 3) := by decide +kernel
theorem dX8_rule_29 : decode cX8_rule 29 = .ok (.new 29, 3) := by decide +kernel
theorem dX8_rule_32 : decode cX8_rule 32 = .ok (.dup, 1) := by decide +kernel
theorem dX8_rule_33 : decode cX8_rule 33 = .ok (.ldc 165, 2) := by decide +kernel
theorem dX8_rule_35 : decode cX8_rule 35 = .ok (.invokespecial 33, 3) := by decide +kernel
theorem dX8_rule_38 : decode cX8_rule 38 = .ok (.athrow, 1) := by decide +kernel
theorem dX8_rule_39 : decode cX8_rule 39 = .ok (.aload_n 0, 1) := by decide +kernel
theorem dX8_rule_40 : decode cX8_rule 40 = .ok (.getfield 16, 3) := by decide +kernel
theorem dX8_rule_43 : decode cX8_rule 43 = .ok (.invokeinterface 36 1, 5) := by decide +kernel
theorem dX8_rule_48 : decode cX8_rule 48 = .ok (.bipush 6, 2) := by decide +kernel
theorem dX8_rule_50 : decode cX8_rule 50 = .ok (.if_icmp .lt 13, 3) := by decide +kernel
theorem dX8_rule_53 : decode cX8_rule 53 = .ok (.new 42, 3) := by decide +kernel
theorem dX8_rule_56 : decode cX8_rule 56 = .ok (.dup, 1) := by decide +kernel
theorem dX8_rule_57 : decode cX8_rule 57 = .ok (.ldc 167, 2) := by decide +kernel
theorem dX8_rule_59 : decode cX8_rule 59 = .ok (.invokespecial 46, 3) := by decide +kernel
theorem dX8_rule_62 : decode cX8_rule 62 = .ok (.athrow, 1) := by decide +kernel
theorem dX8_rule_63 : decode cX8_rule 63 = .ok (.new 169, 3) := by decide +kernel
theorem dX8_rule_66 : decode cX8_rule 66 = .ok (.dup, 1) := by decide +kernel
theorem dX8_rule_67 : decode cX8_rule 67 = .ok (.iload_n 1, 1) := by decide +kernel
theorem dX8_rule_68 : decode cX8_rule 68 = .ok (.iload_n 2, 1) := by decide +kernel
theorem dX8_rule_69 : decode cX8_rule 69 = .ok (.iload_n 3, 1) := by decide +kernel
theorem dX8_rule_70 : decode cX8_rule 70 = .ok (.iload 4, 2) := by decide +kernel
theorem dX8_rule_72 : decode cX8_rule 72 = .ok (.invokespecial 171, 3) := by decide +kernel
theorem dX8_rule_75 : decode cX8_rule 75 = .ok (.astore 5, 2) := by decide +kernel
theorem dX8_rule_77 : decode cX8_rule 77 = .ok (.aload 5, 2) := by decide +kernel
theorem dX8_rule_79 : decode cX8_rule 79 = .ok (.invokevirtual 174, 3) := by decide +kernel
theorem dX8_rule_82 : decode cX8_rule 82 = .ok (.aload_n 0, 1) := by decide +kernel
theorem dX8_rule_83 : decode cX8_rule 83 = .ok (.getfield 16, 3) := by decide +kernel
theorem dX8_rule_86 : decode cX8_rule 86 = .ok (.aload 5, 2) := by decide +kernel
theorem dX8_rule_88 : decode cX8_rule 88 = .ok (.invokeinterface 52 2, 5) := by decide +kernel
theorem dX8_rule_93 : decode cX8_rule 93 = .ok (.pop, 1) := by decide +kernel
theorem dX8_rule_94 : decode cX8_rule 94 = .ok (.bipush 10, 2) := by decide +kernel
theorem dX8_rule_96 : decode cX8_rule 96 = .ok (.aload_n 0, 1) := by decide +kernel
theorem dX8_rule_97 : decode cX8_rule 97 = .ok (.getfield 16, 3) := by decide +kernel
theorem dX8_rule_100 : decode cX8_rule 100 = .ok (.invokeinterface 36 1, 5) := by decide +kernel
theorem dX8_rule_105 : decode cX8_rule 105 = .ok (.iadd, 1) := by decide +kernel
theorem dX8_rule_106 : decode cX8_rule 106 = .ok (.iconst 1, 1) := by decide +kernel
theorem dX8_rule_107 : decode cX8_rule 107 = .ok (.isub, 1) := by decide +kernel
theorem dX8_rule_108 : decode cX8_rule 108 = .ok (.ireturn, 1) := by decide +kernel
theorem dX8_stands_0 : decode cX8_stands 0 = .ok (.aload_n 0, 1) := by decide +kernel
theorem dX8_stands_1 : decode cX8_stands 1 = .ok (.iload_n 1, 1) := by decide +kernel
theorem dX8_stands_2 : decode cX8_stands 2 = .ok (.invokevirtual 147, 3) := by decide +kernel
theorem dX8_stands_5 : decode cX8_stands 5 = .ok (.iload_n 1, 1) := by decide +kernel
theorem dX8_stands_6 : decode cX8_stands 6 = .ok (.bipush 10, 2) := by decide +kernel
theorem dX8_stands_8 : decode cX8_stands 8 = .ok (.if_icmp .lt 14, 3) := by decide +kernel
theorem dX8_stands_11 : decode cX8_stands 11 = .ok (.aload_n 0, 1) := by decide +kernel
theorem dX8_stands_12 : decode cX8_stands 12 = .ok (.iload_n 1, 1) := by decide +kernel
theorem dX8_stands_13 : decode cX8_stands 13 = .ok (.invokevirtual 177, 3) := by decide +kernel
theorem dX8_stands_16 : decode cX8_stands 16 = .ok (.getfield 181, 3) := by decide +kernel
theorem dX8_stands_19 : decode cX8_stands 19 = .ok (.ifCond .eq 7, 3) := by decide +kernel
theorem dX8_stands_22 : decode cX8_stands 22 = .ok (.iconst 1, 1) := by decide +kernel
theorem dX8_stands_23 : decode cX8_stands 23 = .ok (.goto 4, 3) := by decide +kernel
theorem dX8_stands_26 : decode cX8_stands 26 = .ok (.iconst 0, 1) := by decide +kernel
theorem dX8_stands_27 : decode cX8_stands 27 = .ok (.ireturn, 1) := by decide +kernel
theorem dX8_counterexample_0 : decode cX8_counterexample 0 = .ok (.aload_n 0, 1) := by decide +kernel
theorem dX8_counterexample_1 : decode cX8_counterexample 1 = .ok (.iload_n 1, 1) := by decide +kernel
theorem dX8_counterexample_2 : decode cX8_counterexample 2 = .ok (.invokevirtual 177, 3) := by decide +kernel
theorem dX8_counterexample_5 : decode cX8_counterexample 5 = .ok (.getfield 185, 3) := by decide +kernel
theorem dX8_counterexample_8 : decode cX8_counterexample 8 = .ok (.istore_n 2, 1) := by decide +kernel
theorem dX8_counterexample_9 : decode cX8_counterexample 9 = .ok (.iload_n 2, 1) := by decide +kernel
theorem dX8_counterexample_10 : decode cX8_counterexample 10 = .ok (.ifCond .ne 13, 3) := by decide +kernel
theorem dX8_counterexample_13 : decode cX8_counterexample 13 = .ok (.new 114, 3) := by decide +kernel
theorem dX8_counterexample_16 : decode cX8_counterexample 16 = .ok (.dup, 1) := by decide +kernel
theorem dX8_counterexample_17 : decode cX8_counterexample 17 = .ok (.ldc 188, 2) := by decide +kernel
theorem dX8_counterexample_19 : decode cX8_counterexample 19 = .ok (.invokespecial 118, 3) := by decide +kernel
theorem dX8_counterexample_22 : decode cX8_counterexample 22 = .ok (.athrow, 1) := by decide +kernel
theorem dX8_counterexample_23 : decode cX8_counterexample 23 = .ok (.iload_n 2, 1) := by decide +kernel
theorem dX8_counterexample_24 : decode cX8_counterexample 24 = .ok (.ireturn, 1) := by decide +kernel
theorem dX8_fall_0 : decode cX8_fall 0 = .ok (.aload_n 0, 1) := by decide +kernel
theorem dX8_fall_1 : decode cX8_fall 1 = .ok (.iload_n 1, 1) := by decide +kernel
theorem dX8_fall_2 : decode cX8_fall 2 = .ok (.invokevirtual 177, 3) := by decide +kernel
theorem dX8_fall_5 : decode cX8_fall 5 = .ok (.astore_n 2, 1) := by decide +kernel
theorem dX8_fall_6 : decode cX8_fall 6 = .ok (.aload_n 2, 1) := by decide +kernel
theorem dX8_fall_7 : decode cX8_fall 7 = .ok (.getfield 185, 3) := by decide +kernel
theorem dX8_fall_10 : decode cX8_fall 10 = .ok (.ifCond .eq 10, 3) := by decide +kernel
theorem dX8_fall_13 : decode cX8_fall 13 = .ok (.aload_n 2, 1) := by decide +kernel
theorem dX8_fall_14 : decode cX8_fall 14 = .ok (.getfield 181, 3) := by decide +kernel
theorem dX8_fall_17 : decode cX8_fall 17 = .ok (.ifCond .ne 13, 3) := by decide +kernel
theorem dX8_fall_20 : decode cX8_fall 20 = .ok (.new 85, 3) := by decide +kernel
theorem dX8_fall_23 : decode cX8_fall 23 = .ok (.dup, 1) := by decide +kernel
theorem dX8_fall_24 : decode cX8_fall 24 = .ok (.ldc 190, 2) := by decide +kernel
theorem dX8_fall_26 : decode cX8_fall 26 = .ok (.invokespecial 89, 3) := by decide +kernel
theorem dX8_fall_29 : decode cX8_fall 29 = .ok (.athrow, 1) := by decide +kernel
theorem dX8_fall_30 : decode cX8_fall 30 = .ok (.aload_n 2, 1) := by decide +kernel
theorem dX8_fall_31 : decode cX8_fall 31 = .ok (.iconst 0, 1) := by decide +kernel
theorem dX8_fall_32 : decode cX8_fall 32 = .ok (.putfield 181, 3) := by decide +kernel
theorem dX8_fall_35 : decode cX8_fall 35 = .ok (.iconst 0, 1) := by decide +kernel
theorem dX8_fall_36 : decode cX8_fall 36 = .ok (.istore_n 3, 1) := by decide +kernel
theorem dX8_fall_37 : decode cX8_fall 37 = .ok (.iconst 0, 1) := by decide +kernel
theorem dX8_fall_38 : decode cX8_fall 38 = .ok (.istore 4, 2) := by decide +kernel
theorem dX8_fall_40 : decode cX8_fall 40 = .ok (.iload 4, 2) := by decide +kernel
theorem dX8_fall_42 : decode cX8_fall 42 = .ok (.aload_n 0, 1) := by decide +kernel
theorem dX8_fall_43 : decode cX8_fall 43 = .ok (.getfield 19, 3) := by decide +kernel
theorem dX8_fall_46 : decode cX8_fall 46 = .ok (.invokeinterface 36 1, 5) := by decide +kernel
theorem dX8_fall_51 : decode cX8_fall 51 = .ok (.if_icmp .ge 95, 3) := by decide +kernel
theorem dX8_fall_54 : decode cX8_fall 54 = .ok (.aload_n 0, 1) := by decide +kernel
theorem dX8_fall_55 : decode cX8_fall 55 = .ok (.aload_n 0, 1) := by decide +kernel
theorem dX8_fall_56 : decode cX8_fall 56 = .ok (.getfield 19, 3) := by decide +kernel
theorem dX8_fall_59 : decode cX8_fall 59 = .ok (.iload 4, 2) := by decide +kernel
theorem dX8_fall_61 : decode cX8_fall 61 = .ok (.invokeinterface 192 2, 5) := by decide +kernel
theorem dX8_fall_66 : decode cX8_fall 66 = .ok (.checkcast 196, 3) := by decide +kernel
theorem dX8_fall_69 : decode cX8_fall 69 = .ok (.iload_n 1, 1) := by decide +kernel
theorem dX8_fall_70 : decode cX8_fall 70 = .ok (.invokevirtual 198, 3) := by decide +kernel
theorem dX8_fall_73 : decode cX8_fall 73 = .ok (.ifCond .eq 67, 3) := by decide +kernel
theorem dX8_fall_76 : decode cX8_fall 76 = .ok (.aload_n 0, 1) := by decide +kernel
theorem dX8_fall_77 : decode cX8_fall 77 = .ok (.getfield 19, 3) := by decide +kernel
theorem dX8_fall_80 : decode cX8_fall 80 = .ok (.iload 4, 2) := by decide +kernel
theorem dX8_fall_82 : decode cX8_fall 82 = .ok (.invokeinterface 192 2, 5) := by decide +kernel
theorem dX8_fall_87 : decode cX8_fall 87 = .ok (.checkcast 196, 3) := by decide +kernel
theorem dX8_fall_90 : decode cX8_fall 90 = .ok (.bipush 114, 2) := by decide +kernel
theorem dX8_fall_92 : decode cX8_fall 92 = .ok (.putfield 202, 3) := by decide +kernel
theorem dX8_fall_95 : decode cX8_fall 95 = .ok (.aload_n 0, 1) := by decide +kernel
theorem dX8_fall_96 : decode cX8_fall 96 = .ok (.iload 4, 2) := by decide +kernel
theorem dX8_fall_98 : decode cX8_fall 98 = .ok (.aload_n 0, 1) := by decide +kernel
theorem dX8_fall_99 : decode cX8_fall 99 = .ok (.getfield 19, 3) := by decide +kernel
theorem dX8_fall_102 : decode cX8_fall 102 = .ok (.iload 4, 2) := by decide +kernel
theorem dX8_fall_104 : decode cX8_fall 104 = .ok (.invokeinterface 192 2, 5) := by decide +kernel
theorem dX8_fall_109 : decode cX8_fall 109 = .ok (.checkcast 196, 3) := by decide +kernel
theorem dX8_fall_112 : decode cX8_fall 112 = .ok (.getfield 203, 3) := by decide +kernel
theorem dX8_fall_115 : decode cX8_fall 115 = .ok (.invokevirtual 206, 3) := by decide +kernel
theorem dX8_fall_118 : decode cX8_fall 118 = .ok (.aload_n 0, 1) := by decide +kernel
theorem dX8_fall_119 : decode cX8_fall 119 = .ok (.aload_n 0, 1) := by decide +kernel
theorem dX8_fall_120 : decode cX8_fall 120 = .ok (.getfield 19, 3) := by decide +kernel
theorem dX8_fall_123 : decode cX8_fall 123 = .ok (.iload 4, 2) := by decide +kernel
theorem dX8_fall_125 : decode cX8_fall 125 = .ok (.invokeinterface 192 2, 5) := by decide +kernel
theorem dX8_fall_130 : decode cX8_fall 130 = .ok (.checkcast 196, 3) := by decide +kernel
theorem dX8_fall_133 : decode cX8_fall 133 = .ok (.iload_n 1, 1) := by decide +kernel
theorem dX8_fall_134 : decode cX8_fall 134 = .ok (.invokevirtual 210, 3) := by decide +kernel
theorem dX8_fall_137 : decode cX8_fall 137 = .ok (.iinc 3 1, 3) := by decide +kernel
theorem dX8_fall_140 : decode cX8_fall 140 = .ok (.iinc 4 1, 3) := by decide +kernel
theorem dX8_fall_143 : decode cX8_fall 143 = .ok (.goto (-103), 3) := by decide +kernel
theorem dX8_fall_146 : decode cX8_fall 146 = .ok (.aload_n 0, 1) := by decide +kernel
theorem dX8_fall_147 : decode cX8_fall 147 = .ok (.iload_n 1, 1) := by decide +kernel
theorem dX8_fall_148 : decode cX8_fall 148 = .ok (.invokevirtual 214, 3) := by decide +kernel
theorem dX8_fall_151 : decode cX8_fall 151 = .ok (.iload_n 3, 1) := by decide +kernel
theorem dX8_fall_152 : decode cX8_fall 152 = .ok (.ireturn, 1) := by decide +kernel
theorem dX8_issue_0 : decode cX8_issue 0 = .ok (.aload_n 0, 1) := by decide +kernel
theorem dX8_issue_1 : decode cX8_issue 1 = .ok (.getfield 19, 3) := by decide +kernel
theorem dX8_issue_4 : decode cX8_issue 4 = .ok (.invokeinterface 36 1, 5) := by decide +kernel
theorem dX8_issue_9 : decode cX8_issue 9 = .ok (.bipush 12, 2) := by decide +kernel
theorem dX8_issue_11 : decode cX8_issue 11 = .ok (.if_icmp .lt 13, 3) := by decide +kernel
theorem dX8_issue_14 : decode cX8_issue 14 = .ok (.new 42, 3) := by decide +kernel
theorem dX8_issue_17 : decode cX8_issue 17 = .ok (.dup, 1) := by decide +kernel
theorem dX8_issue_18 : decode cX8_issue 18 = .ok (.ldc 217, 2) := by decide +kernel
theorem dX8_issue_20 : decode cX8_issue 20 = .ok (.invokespecial 46, 3) := by decide +kernel
theorem dX8_issue_23 : decode cX8_issue 23 = .ok (.athrow, 1) := by decide +kernel
theorem dX8_issue_24 : decode cX8_issue 24 = .ok (.aload_n 0, 1) := by decide +kernel
theorem dX8_issue_25 : decode cX8_issue 25 = .ok (.getfield 19, 3) := by decide +kernel
theorem dX8_issue_28 : decode cX8_issue 28 = .ok (.new 196, 3) := by decide +kernel
theorem dX8_issue_31 : decode cX8_issue 31 = .ok (.dup, 1) := by decide +kernel
theorem dX8_issue_32 : decode cX8_issue 32 = .ok (.invokespecial 219, 3) := by decide +kernel
theorem dX8_issue_35 : decode cX8_issue 35 = .ok (.invokeinterface 52 2, 5) := by decide +kernel
theorem dX8_issue_40 : decode cX8_issue 40 = .ok (.pop, 1) := by decide +kernel
theorem dX8_issue_41 : decode cX8_issue 41 = .ok (.aload_n 0, 1) := by decide +kernel
theorem dX8_issue_42 : decode cX8_issue 42 = .ok (.getfield 19, 3) := by decide +kernel
theorem dX8_issue_45 : decode cX8_issue 45 = .ok (.invokeinterface 36 1, 5) := by decide +kernel
theorem dX8_issue_50 : decode cX8_issue 50 = .ok (.iconst 1, 1) := by decide +kernel
theorem dX8_issue_51 : decode cX8_issue 51 = .ok (.isub, 1) := by decide +kernel
theorem dX8_issue_52 : decode cX8_issue 52 = .ok (.ireturn, 1) := by decide +kernel
theorem dX8_put_0 : decode cX8_put 0 = .ok (.aload_n 0, 1) := by decide +kernel
theorem dX8_put_1 : decode cX8_put 1 = .ok (.iload_n 1, 1) := by decide +kernel
theorem dX8_put_2 : decode cX8_put 2 = .ok (.invokevirtual 220, 3) := by decide +kernel
theorem dX8_put_5 : decode cX8_put 5 = .ok (.astore_n 3, 1) := by decide +kernel
theorem dX8_put_6 : decode cX8_put 6 = .ok (.aload_n 0, 1) := by decide +kernel
theorem dX8_put_7 : decode cX8_put 7 = .ok (.iload_n 2, 1) := by decide +kernel
theorem dX8_put_8 : decode cX8_put 8 = .ok (.invokevirtual 56, 3) := by decide +kernel
theorem dX8_put_11 : decode cX8_put 11 = .ok (.astore 4, 2) := by decide +kernel
theorem dX8_put_13 : decode cX8_put 13 = .ok (.aload_n 3, 1) := by decide +kernel
theorem dX8_put_14 : decode cX8_put 14 = .ok (.getfield 202, 3) := by decide +kernel
theorem dX8_put_17 : decode cX8_put 17 = .ok (.bipush 109, 2) := by decide +kernel
theorem dX8_put_19 : decode cX8_put 19 = .ok (.if_icmp .ne 11, 3) := by decide +kernel
theorem dX8_put_22 : decode cX8_put 22 = .ok (.aload 4, 2) := by decide +kernel
theorem dX8_put_24 : decode cX8_put 24 = .ok (.invokestatic 224, 3) := by decide +kernel
theorem dX8_put_27 : decode cX8_put 27 = .ok (.ifCond .ne 13, 3) := by decide +kernel
theorem dX8_put_30 : decode cX8_put 30 = .ok (.new 85, 3) := by decide +kernel
theorem dX8_put_33 : decode cX8_put 33 = .ok (.dup, 1) := by decide +kernel
theorem dX8_put_34 : decode cX8_put 34 = .ok (.ldc 228, 2) := by decide +kernel
theorem dX8_put_36 : decode cX8_put 36 = .ok (.invokespecial 89, 3) := by decide +kernel
theorem dX8_put_39 : decode cX8_put 39 = .ok (.athrow, 1) := by decide +kernel
theorem dX8_put_40 : decode cX8_put 40 = .ok (.aload_n 0, 1) := by decide +kernel
theorem dX8_put_41 : decode cX8_put 41 = .ok (.aload_n 3, 1) := by decide +kernel
theorem dX8_put_42 : decode cX8_put 42 = .ok (.invokevirtual 230, 3) := by decide +kernel
theorem dX8_put_45 : decode cX8_put 45 = .ok (.istore 5, 2) := by decide +kernel
theorem dX8_put_47 : decode cX8_put 47 = .ok (.iload 5, 2) := by decide +kernel
theorem dX8_put_49 : decode cX8_put 49 = .ok (.iconst 4, 1) := by decide +kernel
theorem dX8_put_50 : decode cX8_put 50 = .ok (.if_icmp .lt 13, 3) := by decide +kernel
theorem dX8_put_53 : decode cX8_put 53 = .ok (.new 42, 3) := by decide +kernel
theorem dX8_put_56 : decode cX8_put 56 = .ok (.dup, 1) := by decide +kernel
theorem dX8_put_57 : decode cX8_put 57 = .ok (.ldc 234, 2) := by decide +kernel
theorem dX8_put_59 : decode cX8_put 59 = .ok (.invokespecial 46, 3) := by decide +kernel
theorem dX8_put_62 : decode cX8_put 62 = .ok (.athrow, 1) := by decide +kernel
theorem dX8_put_63 : decode cX8_put 63 = .ok (.aload 4, 2) := by decide +kernel
theorem dX8_put_65 : decode cX8_put 65 = .ok (.bipush 105, 2) := by decide +kernel
theorem dX8_put_67 : decode cX8_put 67 = .ok (.putfield 119, 3) := by decide +kernel
theorem dX8_put_70 : decode cX8_put 70 = .ok (.aload 4, 2) := by decide +kernel
theorem dX8_put_72 : decode cX8_put 72 = .ok (.aload_n 3, 1) := by decide +kernel
theorem dX8_put_73 : decode cX8_put 73 = .ok (.putfield 236, 3) := by decide +kernel
theorem dX8_put_76 : decode cX8_put 76 = .ok (.iload 5, 2) := by decide +kernel
theorem dX8_put_78 : decode cX8_put 78 = .ok (.iconst 1, 1) := by decide +kernel
theorem dX8_put_79 : decode cX8_put 79 = .ok (.iadd, 1) := by decide +kernel
theorem dX8_put_80 : decode cX8_put 80 = .ok (.ireturn, 1) := by decide +kernel
theorem dX8_publish_0 : decode cX8_publish 0 = .ok (.aload_n 0, 1) := by decide +kernel
theorem dX8_publish_1 : decode cX8_publish 1 = .ok (.iload_n 1, 1) := by decide +kernel
theorem dX8_publish_2 : decode cX8_publish 2 = .ok (.invokevirtual 220, 3) := by decide +kernel
theorem dX8_publish_5 : decode cX8_publish 5 = .ok (.astore_n 3, 1) := by decide +kernel
theorem dX8_publish_6 : decode cX8_publish 6 = .ok (.iload_n 2, 1) := by decide +kernel
theorem dX8_publish_7 : decode cX8_publish 7 = .ok (.ifCond .lt 10, 3) := by decide +kernel
theorem dX8_publish_10 : decode cX8_publish 10 = .ok (.iload_n 2, 1) := by decide +kernel
theorem dX8_publish_11 : decode cX8_publish 11 = .ok (.sipush 1000, 3) := by decide +kernel
theorem dX8_publish_14 : decode cX8_publish 14 = .ok (.if_icmp .le 13, 3) := by decide +kernel
theorem dX8_publish_17 : decode cX8_publish 17 = .ok (.new 29, 3) := by decide +kernel
theorem dX8_publish_20 : decode cX8_publish 20 = .ok (.dup, 1) := by decide +kernel
theorem dX8_publish_21 : decode cX8_publish 21 = .ok (.ldc 240, 2) := by decide +kernel
theorem dX8_publish_23 : decode cX8_publish 23 = .ok (.invokespecial 33, 3) := by decide +kernel
theorem dX8_publish_26 : decode cX8_publish 26 = .ok (.athrow, 1) := by decide +kernel
theorem dX8_publish_27 : decode cX8_publish 27 = .ok (.aload_n 3, 1) := by decide +kernel
theorem dX8_publish_28 : decode cX8_publish 28 = .ok (.getfield 202, 3) := by decide +kernel
theorem dX8_publish_31 : decode cX8_publish 31 = .ok (.bipush 109, 2) := by decide +kernel
theorem dX8_publish_33 : decode cX8_publish 33 = .ok (.if_icmp .ne 11, 3) := by decide +kernel
theorem dX8_publish_36 : decode cX8_publish 36 = .ok (.aload_n 0, 1) := by decide +kernel
theorem dX8_publish_37 : decode cX8_publish 37 = .ok (.aload_n 3, 1) := by decide +kernel
theorem dX8_publish_38 : decode cX8_publish 38 = .ok (.invokevirtual 230, 3) := by decide +kernel
theorem dX8_publish_41 : decode cX8_publish 41 = .ok (.ifCond .ne 13, 3) := by decide +kernel
theorem dX8_publish_44 : decode cX8_publish 44 = .ok (.new 85, 3) := by decide +kernel
theorem dX8_publish_47 : decode cX8_publish 47 = .ok (.dup, 1) := by decide +kernel
theorem dX8_publish_48 : decode cX8_publish 48 = .ok (.ldc 242, 2) := by decide +kernel
theorem dX8_publish_50 : decode cX8_publish 50 = .ok (.invokespecial 89, 3) := by decide +kernel
theorem dX8_publish_53 : decode cX8_publish 53 = .ok (.athrow, 1) := by decide +kernel
theorem dX8_publish_54 : decode cX8_publish 54 = .ok (.aload_n 3, 1) := by decide +kernel
theorem dX8_publish_55 : decode cX8_publish 55 = .ok (.bipush 115, 2) := by decide +kernel
theorem dX8_publish_57 : decode cX8_publish 57 = .ok (.putfield 202, 3) := by decide +kernel
theorem dX8_publish_60 : decode cX8_publish 60 = .ok (.aload_n 3, 1) := by decide +kernel
theorem dX8_publish_61 : decode cX8_publish 61 = .ok (.iload_n 2, 1) := by decide +kernel
theorem dX8_publish_62 : decode cX8_publish 62 = .ok (.putfield 203, 3) := by decide +kernel
theorem dX8_publish_65 : decode cX8_publish 65 = .ok (.iconst 0, 1) := by decide +kernel
theorem dX8_publish_66 : decode cX8_publish 66 = .ok (.istore 4, 2) := by decide +kernel
theorem dX8_publish_68 : decode cX8_publish 68 = .ok (.iload 4, 2) := by decide +kernel
theorem dX8_publish_70 : decode cX8_publish 70 = .ok (.aload_n 0, 1) := by decide +kernel
theorem dX8_publish_71 : decode cX8_publish 71 = .ok (.getfield 10, 3) := by decide +kernel
theorem dX8_publish_74 : decode cX8_publish 74 = .ok (.invokeinterface 36 1, 5) := by decide +kernel
theorem dX8_publish_79 : decode cX8_publish 79 = .ok (.if_icmp .ge 49, 3) := by decide +kernel
theorem dX8_publish_82 : decode cX8_publish 82 = .ok (.aload_n 0, 1) := by decide +kernel
theorem dX8_publish_83 : decode cX8_publish 83 = .ok (.getfield 10, 3) := by decide +kernel
theorem dX8_publish_86 : decode cX8_publish 86 = .ok (.iload 4, 2) := by decide +kernel
theorem dX8_publish_88 : decode cX8_publish 88 = .ok (.invokeinterface 192 2, 5) := by decide +kernel
theorem dX8_publish_93 : decode cX8_publish 93 = .ok (.checkcast 47, 3) := by decide +kernel
theorem dX8_publish_96 : decode cX8_publish 96 = .ok (.getfield 236, 3) := by decide +kernel
theorem dX8_publish_99 : decode cX8_publish 99 = .ok (.aload_n 3, 1) := by decide +kernel
theorem dX8_publish_100 : decode cX8_publish 100 = .ok (.if_acmp .ne 22, 3) := by decide +kernel
theorem dX8_publish_103 : decode cX8_publish 103 = .ok (.aload_n 0, 1) := by decide +kernel
theorem dX8_publish_104 : decode cX8_publish 104 = .ok (.getfield 10, 3) := by decide +kernel
theorem dX8_publish_107 : decode cX8_publish 107 = .ok (.iload 4, 2) := by decide +kernel
theorem dX8_publish_109 : decode cX8_publish 109 = .ok (.invokeinterface 192 2, 5) := by decide +kernel
theorem dX8_publish_114 : decode cX8_publish 114 = .ok (.checkcast 47, 3) := by decide +kernel
theorem dX8_publish_117 : decode cX8_publish 117 = .ok (.bipush 115, 2) := by decide +kernel
theorem dX8_publish_119 : decode cX8_publish 119 = .ok (.putfield 119, 3) := by decide +kernel
theorem dX8_publish_122 : decode cX8_publish 122 = .ok (.iinc 4 1, 3) := by decide +kernel
theorem dX8_publish_125 : decode cX8_publish 125 = .ok (.goto (-57), 3) := by decide +kernel
theorem dX8_publish_128 : decode cX8_publish 128 = .ok (.aload_n 0, 1) := by decide +kernel
theorem dX8_publish_129 : decode cX8_publish 129 = .ok (.iload_n 1, 1) := by decide +kernel
theorem dX8_publish_130 : decode cX8_publish 130 = .ok (.iload_n 2, 1) := by decide +kernel
theorem dX8_publish_131 : decode cX8_publish 131 = .ok (.invokevirtual 244, 3) := by decide +kernel
theorem dX8_publish_134 : decode cX8_publish 134 = .ok (.ireturn, 1) := by decide +kernel
theorem dX8_issueState_0 : decode cX8_issueState 0 = .ok (.aload_n 0, 1) := by decide +kernel
theorem dX8_issueState_1 : decode cX8_issueState 1 = .ok (.iload_n 1, 1) := by decide +kernel
theorem dX8_issueState_2 : decode cX8_issueState 2 = .ok (.invokevirtual 220, 3) := by decide +kernel
theorem dX8_issueState_5 : decode cX8_issueState 5 = .ok (.getfield 202, 3) := by decide +kernel
theorem dX8_issueState_8 : decode cX8_issueState 8 = .ok (.ireturn, 1) := by decide +kernel
theorem dX8_indexed_0 : decode cX8_indexed 0 = .ok (.aload_n 0, 1) := by decide +kernel
theorem dX8_indexed_1 : decode cX8_indexed 1 = .ok (.iload_n 1, 1) := by decide +kernel
theorem dX8_indexed_2 : decode cX8_indexed 2 = .ok (.invokevirtual 147, 3) := by decide +kernel
theorem dX8_indexed_5 : decode cX8_indexed 5 = .ok (.iconst 0, 1) := by decide +kernel
theorem dX8_indexed_6 : decode cX8_indexed 6 = .ok (.istore_n 2, 1) := by decide +kernel
theorem dX8_indexed_7 : decode cX8_indexed 7 = .ok (.iconst 0, 1) := by decide +kernel
theorem dX8_indexed_8 : decode cX8_indexed 8 = .ok (.istore_n 3, 1) := by decide +kernel
theorem dX8_indexed_9 : decode cX8_indexed 9 = .ok (.iload_n 3, 1) := by decide +kernel
theorem dX8_indexed_10 : decode cX8_indexed 10 = .ok (.aload_n 0, 1) := by decide +kernel
theorem dX8_indexed_11 : decode cX8_indexed 11 = .ok (.getfield 19, 3) := by decide +kernel
theorem dX8_indexed_14 : decode cX8_indexed 14 = .ok (.invokeinterface 36 1, 5) := by decide +kernel
theorem dX8_indexed_19 : decode cX8_indexed 19 = .ok (.if_icmp .ge 33, 3) := by decide +kernel
theorem dX8_indexed_22 : decode cX8_indexed 22 = .ok (.aload_n 0, 1) := by decide +kernel
theorem dX8_indexed_23 : decode cX8_indexed 23 = .ok (.aload_n 0, 1) := by decide +kernel
theorem dX8_indexed_24 : decode cX8_indexed 24 = .ok (.getfield 19, 3) := by decide +kernel
theorem dX8_indexed_27 : decode cX8_indexed 27 = .ok (.iload_n 3, 1) := by decide +kernel
theorem dX8_indexed_28 : decode cX8_indexed 28 = .ok (.invokeinterface 192 2, 5) := by decide +kernel
theorem dX8_indexed_33 : decode cX8_indexed 33 = .ok (.checkcast 196, 3) := by decide +kernel
theorem dX8_indexed_36 : decode cX8_indexed 36 = .ok (.iload_n 1, 1) := by decide +kernel
theorem dX8_indexed_37 : decode cX8_indexed 37 = .ok (.invokevirtual 198, 3) := by decide +kernel
theorem dX8_indexed_40 : decode cX8_indexed 40 = .ok (.ifCond .eq 6, 3) := by decide +kernel
theorem dX8_indexed_43 : decode cX8_indexed 43 = .ok (.iinc 2 1, 3) := by decide +kernel
theorem dX8_indexed_46 : decode cX8_indexed 46 = .ok (.iinc 3 1, 3) := by decide +kernel
theorem dX8_indexed_49 : decode cX8_indexed 49 = .ok (.goto (-40), 3) := by decide +kernel
theorem dX8_indexed_52 : decode cX8_indexed 52 = .ok (.iload_n 2, 1) := by decide +kernel
theorem dX8_indexed_53 : decode cX8_indexed 53 = .ok (.ireturn, 1) := by decide +kernel
theorem dX8_customer_0 : decode cX8_customer 0 = .ok (.aload_n 0, 1) := by decide +kernel
theorem dX8_customer_1 : decode cX8_customer 1 = .ok (.getfield 22, 3) := by decide +kernel
theorem dX8_customer_4 : decode cX8_customer 4 = .ok (.invokeinterface 36 1, 5) := by decide +kernel
theorem dX8_customer_9 : decode cX8_customer 9 = .ok (.bipush 8, 2) := by decide +kernel
theorem dX8_customer_11 : decode cX8_customer 11 = .ok (.if_icmp .lt 13, 3) := by decide +kernel
theorem dX8_customer_14 : decode cX8_customer 14 = .ok (.new 42, 3) := by decide +kernel
theorem dX8_customer_17 : decode cX8_customer 17 = .ok (.dup, 1) := by decide +kernel
theorem dX8_customer_18 : decode cX8_customer 18 = .ok (.ldc 248, 2) := by decide +kernel
theorem dX8_customer_20 : decode cX8_customer 20 = .ok (.invokespecial 46, 3) := by decide +kernel
theorem dX8_customer_23 : decode cX8_customer 23 = .ok (.athrow, 1) := by decide +kernel
theorem dX8_customer_24 : decode cX8_customer 24 = .ok (.aload_n 0, 1) := by decide +kernel
theorem dX8_customer_25 : decode cX8_customer 25 = .ok (.getfield 22, 3) := by decide +kernel
theorem dX8_customer_28 : decode cX8_customer 28 = .ok (.new 250, 3) := by decide +kernel
theorem dX8_customer_31 : decode cX8_customer 31 = .ok (.dup, 1) := by decide +kernel
theorem dX8_customer_32 : decode cX8_customer 32 = .ok (.invokespecial 252, 3) := by decide +kernel
theorem dX8_customer_35 : decode cX8_customer 35 = .ok (.invokeinterface 52 2, 5) := by decide +kernel
theorem dX8_customer_40 : decode cX8_customer 40 = .ok (.pop, 1) := by decide +kernel
theorem dX8_customer_41 : decode cX8_customer 41 = .ok (.aload_n 0, 1) := by decide +kernel
theorem dX8_customer_42 : decode cX8_customer 42 = .ok (.getfield 22, 3) := by decide +kernel
theorem dX8_customer_45 : decode cX8_customer 45 = .ok (.invokeinterface 36 1, 5) := by decide +kernel
theorem dX8_customer_50 : decode cX8_customer 50 = .ok (.iconst 1, 1) := by decide +kernel
theorem dX8_customer_51 : decode cX8_customer 51 = .ok (.isub, 1) := by decide +kernel
theorem dX8_customer_52 : decode cX8_customer 52 = .ok (.ireturn, 1) := by decide +kernel
theorem dX8_deposit_0 : decode cX8_deposit 0 = .ok (.aload_n 0, 1) := by decide +kernel
theorem dX8_deposit_1 : decode cX8_deposit 1 = .ok (.iload_n 1, 1) := by decide +kernel
theorem dX8_deposit_2 : decode cX8_deposit 2 = .ok (.invokevirtual 253, 3) := by decide +kernel
theorem dX8_deposit_5 : decode cX8_deposit 5 = .ok (.astore_n 3, 1) := by decide +kernel
theorem dX8_deposit_6 : decode cX8_deposit 6 = .ok (.iload_n 2, 1) := by decide +kernel
theorem dX8_deposit_7 : decode cX8_deposit 7 = .ok (.iconst 1, 1) := by decide +kernel
theorem dX8_deposit_8 : decode cX8_deposit 8 = .ok (.if_icmp .lt 10, 3) := by decide +kernel
theorem dX8_deposit_11 : decode cX8_deposit 11 = .ok (.iload_n 2, 1) := by decide +kernel
theorem dX8_deposit_12 : decode cX8_deposit 12 = .ok (.ldc_w 257, 3) := by decide +kernel
theorem dX8_deposit_15 : decode cX8_deposit 15 = .ok (.if_icmp .le 14, 3) := by decide +kernel
theorem dX8_deposit_18 : decode cX8_deposit 18 = .ok (.new 29, 3) := by decide +kernel
theorem dX8_deposit_21 : decode cX8_deposit 21 = .ok (.dup, 1) := by decide +kernel
theorem dX8_deposit_22 : decode cX8_deposit 22 = .ok (.ldc_w 258, 3) := by decide +kernel
theorem dX8_deposit_25 : decode cX8_deposit 25 = .ok (.invokespecial 33, 3) := by decide +kernel
theorem dX8_deposit_28 : decode cX8_deposit 28 = .ok (.athrow, 1) := by decide +kernel
theorem dX8_deposit_29 : decode cX8_deposit 29 = .ok (.aload_n 3, 1) := by decide +kernel
theorem dX8_deposit_30 : decode cX8_deposit 30 = .ok (.getfield 260, 3) := by decide +kernel
theorem dX8_deposit_33 : decode cX8_deposit 33 = .ok (.ldc_w 263, 3) := by decide +kernel
theorem dX8_deposit_36 : decode cX8_deposit 36 = .ok (.iload_n 2, 1) := by decide +kernel
theorem dX8_deposit_37 : decode cX8_deposit 37 = .ok (.isub, 1) := by decide +kernel
theorem dX8_deposit_38 : decode cX8_deposit 38 = .ok (.if_icmp .le 14, 3) := by decide +kernel
theorem dX8_deposit_41 : decode cX8_deposit 41 = .ok (.new 264, 3) := by decide +kernel
theorem dX8_deposit_44 : decode cX8_deposit 44 = .ok (.dup, 1) := by decide +kernel
theorem dX8_deposit_45 : decode cX8_deposit 45 = .ok (.ldc_w 266, 3) := by decide +kernel
theorem dX8_deposit_48 : decode cX8_deposit 48 = .ok (.invokespecial 268, 3) := by decide +kernel
theorem dX8_deposit_51 : decode cX8_deposit 51 = .ok (.athrow, 1) := by decide +kernel
theorem dX8_deposit_52 : decode cX8_deposit 52 = .ok (.aload_n 3, 1) := by decide +kernel
theorem dX8_deposit_53 : decode cX8_deposit 53 = .ok (.dup, 1) := by decide +kernel
theorem dX8_deposit_54 : decode cX8_deposit 54 = .ok (.getfield 260, 3) := by decide +kernel
theorem dX8_deposit_57 : decode cX8_deposit 57 = .ok (.iload_n 2, 1) := by decide +kernel
theorem dX8_deposit_58 : decode cX8_deposit 58 = .ok (.iadd, 1) := by decide +kernel
theorem dX8_deposit_59 : decode cX8_deposit 59 = .ok (.putfield 260, 3) := by decide +kernel
theorem dX8_deposit_62 : decode cX8_deposit 62 = .ok (.aload_n 3, 1) := by decide +kernel
theorem dX8_deposit_63 : decode cX8_deposit 63 = .ok (.getfield 260, 3) := by decide +kernel
theorem dX8_deposit_66 : decode cX8_deposit 66 = .ok (.ireturn, 1) := by decide +kernel
theorem dX8_subscribe_0 : decode cX8_subscribe 0 = .ok (.aload_n 0, 1) := by decide +kernel
theorem dX8_subscribe_1 : decode cX8_subscribe 1 = .ok (.iload_n 1, 1) := by decide +kernel
theorem dX8_subscribe_2 : decode cX8_subscribe 2 = .ok (.invokevirtual 253, 3) := by decide +kernel
theorem dX8_subscribe_5 : decode cX8_subscribe 5 = .ok (.astore_n 3, 1) := by decide +kernel
theorem dX8_subscribe_6 : decode cX8_subscribe 6 = .ok (.iload_n 2, 1) := by decide +kernel
theorem dX8_subscribe_7 : decode cX8_subscribe 7 = .ok (.iconst 1, 1) := by decide +kernel
theorem dX8_subscribe_8 : decode cX8_subscribe 8 = .ok (.if_icmp .lt 9, 3) := by decide +kernel
theorem dX8_subscribe_11 : decode cX8_subscribe 11 = .ok (.iload_n 2, 1) := by decide +kernel
theorem dX8_subscribe_12 : decode cX8_subscribe 12 = .ok (.bipush 12, 2) := by decide +kernel
theorem dX8_subscribe_14 : decode cX8_subscribe 14 = .ok (.if_icmp .le 14, 3) := by decide +kernel
theorem dX8_subscribe_17 : decode cX8_subscribe 17 = .ok (.new 29, 3) := by decide +kernel
theorem dX8_subscribe_20 : decode cX8_subscribe 20 = .ok (.dup, 1) := by decide +kernel
theorem dX8_subscribe_21 : decode cX8_subscribe 21 = .ok (.ldc_w 269, 3) := by decide +kernel
theorem dX8_subscribe_24 : decode cX8_subscribe 24 = .ok (.invokespecial 33, 3) := by decide +kernel
theorem dX8_subscribe_27 : decode cX8_subscribe 27 = .ok (.athrow, 1) := by decide +kernel
theorem dX8_subscribe_28 : decode cX8_subscribe 28 = .ok (.aload_n 3, 1) := by decide +kernel
theorem dX8_subscribe_29 : decode cX8_subscribe 29 = .ok (.dup, 1) := by decide +kernel
theorem dX8_subscribe_30 : decode cX8_subscribe 30 = .ok (.getfield 271, 3) := by decide +kernel
theorem dX8_subscribe_33 : decode cX8_subscribe 33 = .ok (.iload_n 2, 1) := by decide +kernel
theorem dX8_subscribe_34 : decode cX8_subscribe 34 = .ok (.iadd, 1) := by decide +kernel
theorem dX8_subscribe_35 : decode cX8_subscribe 35 = .ok (.putfield 271, 3) := by decide +kernel
theorem dX8_subscribe_38 : decode cX8_subscribe 38 = .ok (.aload_n 3, 1) := by decide +kernel
theorem dX8_subscribe_39 : decode cX8_subscribe 39 = .ok (.getfield 271, 3) := by decide +kernel
theorem dX8_subscribe_42 : decode cX8_subscribe 42 = .ok (.ireturn, 1) := by decide +kernel
theorem dX8_buy_0 : decode cX8_buy 0 = .ok (.aload_n 0, 1) := by decide +kernel
theorem dX8_buy_1 : decode cX8_buy 1 = .ok (.iload_n 1, 1) := by decide +kernel
theorem dX8_buy_2 : decode cX8_buy 2 = .ok (.invokevirtual 253, 3) := by decide +kernel
theorem dX8_buy_5 : decode cX8_buy 5 = .ok (.astore_n 3, 1) := by decide +kernel
theorem dX8_buy_6 : decode cX8_buy 6 = .ok (.aload_n 0, 1) := by decide +kernel
theorem dX8_buy_7 : decode cX8_buy 7 = .ok (.iload_n 2, 1) := by decide +kernel
theorem dX8_buy_8 : decode cX8_buy 8 = .ok (.invokevirtual 220, 3) := by decide +kernel
theorem dX8_buy_11 : decode cX8_buy 11 = .ok (.astore 4, 2) := by decide +kernel
theorem dX8_buy_13 : decode cX8_buy 13 = .ok (.aload 4, 2) := by decide +kernel
theorem dX8_buy_15 : decode cX8_buy 15 = .ok (.getfield 202, 3) := by decide +kernel
theorem dX8_buy_18 : decode cX8_buy 18 = .ok (.bipush 115, 2) := by decide +kernel
theorem dX8_buy_20 : decode cX8_buy 20 = .ok (.if_icmp .ne 23, 3) := by decide +kernel
theorem dX8_buy_23 : decode cX8_buy 23 = .ok (.aload_n 3, 1) := by decide +kernel
theorem dX8_buy_24 : decode cX8_buy 24 = .ok (.iload_n 2, 1) := by decide +kernel
theorem dX8_buy_25 : decode cX8_buy 25 = .ok (.invokevirtual 274, 3) := by decide +kernel
theorem dX8_buy_28 : decode cX8_buy 28 = .ok (.ifCond .ne 15, 3) := by decide +kernel
theorem dX8_buy_31 : decode cX8_buy 31 = .ok (.aload_n 3, 1) := by decide +kernel
theorem dX8_buy_32 : decode cX8_buy 32 = .ok (.getfield 260, 3) := by decide +kernel
theorem dX8_buy_35 : decode cX8_buy 35 = .ok (.aload 4, 2) := by decide +kernel
theorem dX8_buy_37 : decode cX8_buy 37 = .ok (.getfield 203, 3) := by decide +kernel
theorem dX8_buy_40 : decode cX8_buy 40 = .ok (.if_icmp .ge 14, 3) := by decide +kernel
theorem dX8_buy_43 : decode cX8_buy 43 = .ok (.new 85, 3) := by decide +kernel
theorem dX8_buy_46 : decode cX8_buy 46 = .ok (.dup, 1) := by decide +kernel
theorem dX8_buy_47 : decode cX8_buy 47 = .ok (.ldc_w 277, 3) := by decide +kernel
theorem dX8_buy_50 : decode cX8_buy 50 = .ok (.invokespecial 89, 3) := by decide +kernel
theorem dX8_buy_53 : decode cX8_buy 53 = .ok (.athrow, 1) := by decide +kernel
theorem dX8_buy_54 : decode cX8_buy 54 = .ok (.aload_n 0, 1) := by decide +kernel
theorem dX8_buy_55 : decode cX8_buy 55 = .ok (.aload_n 3, 1) := by decide +kernel
theorem dX8_buy_56 : decode cX8_buy 56 = .ok (.iload_n 2, 1) := by decide +kernel
theorem dX8_buy_57 : decode cX8_buy 57 = .ok (.aload 4, 2) := by decide +kernel
theorem dX8_buy_59 : decode cX8_buy 59 = .ok (.getfield 203, 3) := by decide +kernel
theorem dX8_buy_62 : decode cX8_buy 62 = .ok (.invokevirtual 279, 3) := by decide +kernel
theorem dX8_buy_65 : decode cX8_buy 65 = .ok (.aload_n 3, 1) := by decide +kernel
theorem dX8_buy_66 : decode cX8_buy 66 = .ok (.getfield 260, 3) := by decide +kernel
theorem dX8_buy_69 : decode cX8_buy 69 = .ok (.ireturn, 1) := by decide +kernel
theorem dX8_credits_0 : decode cX8_credits 0 = .ok (.aload_n 0, 1) := by decide +kernel
theorem dX8_credits_1 : decode cX8_credits 1 = .ok (.iload_n 1, 1) := by decide +kernel
theorem dX8_credits_2 : decode cX8_credits 2 = .ok (.invokevirtual 253, 3) := by decide +kernel
theorem dX8_credits_5 : decode cX8_credits 5 = .ok (.getfield 260, 3) := by decide +kernel
theorem dX8_credits_8 : decode cX8_credits 8 = .ok (.ireturn, 1) := by decide +kernel
theorem dX8_has_0 : decode cX8_has 0 = .ok (.aload_n 0, 1) := by decide +kernel
theorem dX8_has_1 : decode cX8_has 1 = .ok (.iload_n 1, 1) := by decide +kernel
theorem dX8_has_2 : decode cX8_has 2 = .ok (.invokevirtual 253, 3) := by decide +kernel
theorem dX8_has_5 : decode cX8_has 5 = .ok (.astore_n 3, 1) := by decide +kernel
theorem dX8_has_6 : decode cX8_has 6 = .ok (.aload_n 0, 1) := by decide +kernel
theorem dX8_has_7 : decode cX8_has 7 = .ok (.iload_n 2, 1) := by decide +kernel
theorem dX8_has_8 : decode cX8_has 8 = .ok (.invokevirtual 220, 3) := by decide +kernel
theorem dX8_has_11 : decode cX8_has 11 = .ok (.pop, 1) := by decide +kernel
theorem dX8_has_12 : decode cX8_has 12 = .ok (.aload_n 3, 1) := by decide +kernel
theorem dX8_has_13 : decode cX8_has 13 = .ok (.iload_n 2, 1) := by decide +kernel
theorem dX8_has_14 : decode cX8_has 14 = .ok (.invokevirtual 274, 3) := by decide +kernel
theorem dX8_has_17 : decode cX8_has 17 = .ok (.ireturn, 1) := by decide +kernel
theorem dX8_press_0 : decode cX8_press 0 = .ok (.aload_n 0, 1) := by decide +kernel
theorem dX8_press_1 : decode cX8_press 1 = .ok (.getfield 25, 3) := by decide +kernel
theorem dX8_press_4 : decode cX8_press 4 = .ok (.lreturn, 1) := by decide +kernel
theorem dX8_isClean_0 : decode cX8_isClean 0 = .ok (.iconst 0, 1) := by decide +kernel
theorem dX8_isClean_1 : decode cX8_isClean 1 = .ok (.istore_n 1, 1) := by decide +kernel
theorem dX8_isClean_2 : decode cX8_isClean 2 = .ok (.iload_n 1, 1) := by decide +kernel
theorem dX8_isClean_3 : decode cX8_isClean 3 = .ok (.aload_n 0, 1) := by decide +kernel
theorem dX8_isClean_4 : decode cX8_isClean 4 = .ok (.getfield 10, 3) := by decide +kernel
theorem dX8_isClean_7 : decode cX8_isClean 7 = .ok (.invokeinterface 36 1, 5) := by decide +kernel
theorem dX8_isClean_12 : decode cX8_isClean 12 = .ok (.if_icmp .ge 52, 3) := by decide +kernel
theorem dX8_isClean_15 : decode cX8_isClean 15 = .ok (.aload_n 0, 1) := by decide +kernel
theorem dX8_isClean_16 : decode cX8_isClean 16 = .ok (.getfield 10, 3) := by decide +kernel
theorem dX8_isClean_19 : decode cX8_isClean 19 = .ok (.iload_n 1, 1) := by decide +kernel
theorem dX8_isClean_20 : decode cX8_isClean 20 = .ok (.invokeinterface 192 2, 5) := by decide +kernel
theorem dX8_isClean_25 : decode cX8_isClean 25 = .ok (.checkcast 47, 3) := by decide +kernel
theorem dX8_isClean_28 : decode cX8_isClean 28 = .ok (.getfield 119, 3) := by decide +kernel
theorem dX8_isClean_31 : decode cX8_isClean 31 = .ok (.bipush 115, 2) := by decide +kernel
theorem dX8_isClean_33 : decode cX8_isClean 33 = .ok (.if_icmp .ne 25, 3) := by decide +kernel
theorem dX8_isClean_36 : decode cX8_isClean 36 = .ok (.aload_n 0, 1) := by decide +kernel
theorem dX8_isClean_37 : decode cX8_isClean 37 = .ok (.aload_n 0, 1) := by decide +kernel
theorem dX8_isClean_38 : decode cX8_isClean 38 = .ok (.getfield 10, 3) := by decide +kernel
theorem dX8_isClean_41 : decode cX8_isClean 41 = .ok (.iload_n 1, 1) := by decide +kernel
theorem dX8_isClean_42 : decode cX8_isClean 42 = .ok (.invokeinterface 192 2, 5) := by decide +kernel
theorem dX8_isClean_47 : decode cX8_isClean 47 = .ok (.checkcast 47, 3) := by decide +kernel
theorem dX8_isClean_50 : decode cX8_isClean 50 = .ok (.invokevirtual 283, 3) := by decide +kernel
theorem dX8_isClean_53 : decode cX8_isClean 53 = .ok (.ifCond .ne 5, 3) := by decide +kernel
theorem dX8_isClean_56 : decode cX8_isClean 56 = .ok (.iconst 0, 1) := by decide +kernel
theorem dX8_isClean_57 : decode cX8_isClean 57 = .ok (.ireturn, 1) := by decide +kernel
theorem dX8_isClean_58 : decode cX8_isClean 58 = .ok (.iinc 1 1, 3) := by decide +kernel
theorem dX8_isClean_61 : decode cX8_isClean 61 = .ok (.goto (-59), 3) := by decide +kernel
theorem dX8_isClean_64 : decode cX8_isClean 64 = .ok (.iconst 1, 1) := by decide +kernel
theorem dX8_isClean_65 : decode cX8_isClean 65 = .ok (.ireturn, 1) := by decide +kernel
theorem dX8_provedShare_0 : decode cX8_provedShare 0 = .ok (.aload_n 0, 1) := by decide +kernel
theorem dX8_provedShare_1 : decode cX8_provedShare 1 = .ok (.getfield 10, 3) := by decide +kernel
theorem dX8_provedShare_4 : decode cX8_provedShare 4 = .ok (.invokeinterface 286 1, 5) := by decide +kernel
theorem dX8_provedShare_9 : decode cX8_provedShare 9 = .ok (.ifCond .eq 14, 3) := by decide +kernel
theorem dX8_provedShare_12 : decode cX8_provedShare 12 = .ok (.new 264, 3) := by decide +kernel
theorem dX8_provedShare_15 : decode cX8_provedShare 15 = .ok (.dup, 1) := by decide +kernel
theorem dX8_provedShare_16 : decode cX8_provedShare 16 = .ok (.ldc_w 290, 3) := by decide +kernel
theorem dX8_provedShare_19 : decode cX8_provedShare 19 = .ok (.invokespecial 268, 3) := by decide +kernel
theorem dX8_provedShare_22 : decode cX8_provedShare 22 = .ok (.athrow, 1) := by decide +kernel
theorem dX8_provedShare_23 : decode cX8_provedShare 23 = .ok (.aload_n 0, 1) := by decide +kernel
theorem dX8_provedShare_24 : decode cX8_provedShare 24 = .ok (.invokevirtual 292, 3) := by decide +kernel
theorem dX8_provedShare_27 : decode cX8_provedShare 27 = .ok (.i2f, 1) := by decide +kernel
theorem dX8_provedShare_28 : decode cX8_provedShare 28 = .ok (.aload_n 0, 1) := by decide +kernel
theorem dX8_provedShare_29 : decode cX8_provedShare 29 = .ok (.getfield 10, 3) := by decide +kernel
theorem dX8_provedShare_32 : decode cX8_provedShare 32 = .ok (.invokeinterface 36 1, 5) := by decide +kernel
theorem dX8_provedShare_37 : decode cX8_provedShare 37 = .ok (.i2f, 1) := by decide +kernel
theorem dX8_provedShare_38 : decode cX8_provedShare 38 = .ok (.fdiv, 1) := by decide +kernel
theorem dX8_provedShare_39 : decode cX8_provedShare 39 = .ok (.freturn, 1) := by decide +kernel
theorem dX8_meanSteps_0 : decode cX8_meanSteps 0 = .ok (.aload_n 0, 1) := by decide +kernel
theorem dX8_meanSteps_1 : decode cX8_meanSteps 1 = .ok (.invokevirtual 292, 3) := by decide +kernel
theorem dX8_meanSteps_4 : decode cX8_meanSteps 4 = .ok (.istore_n 1, 1) := by decide +kernel
theorem dX8_meanSteps_5 : decode cX8_meanSteps 5 = .ok (.iload_n 1, 1) := by decide +kernel
theorem dX8_meanSteps_6 : decode cX8_meanSteps 6 = .ok (.ifCond .ne 14, 3) := by decide +kernel
theorem dX8_meanSteps_9 : decode cX8_meanSteps 9 = .ok (.new 264, 3) := by decide +kernel
theorem dX8_meanSteps_12 : decode cX8_meanSteps 12 = .ok (.dup, 1) := by decide +kernel
theorem dX8_meanSteps_13 : decode cX8_meanSteps 13 = .ok (.ldc_w 295, 3) := by decide +kernel
theorem dX8_meanSteps_16 : decode cX8_meanSteps 16 = .ok (.invokespecial 268, 3) := by decide +kernel
theorem dX8_meanSteps_19 : decode cX8_meanSteps 19 = .ok (.athrow, 1) := by decide +kernel
theorem dX8_meanSteps_20 : decode cX8_meanSteps 20 = .ok (.iconst 0, 1) := by decide +kernel
theorem dX8_meanSteps_21 : decode cX8_meanSteps 21 = .ok (.istore_n 2, 1) := by decide +kernel
theorem dX8_meanSteps_22 : decode cX8_meanSteps 22 = .ok (.iconst 0, 1) := by decide +kernel
theorem dX8_meanSteps_23 : decode cX8_meanSteps 23 = .ok (.istore_n 3, 1) := by decide +kernel
theorem dX8_meanSteps_24 : decode cX8_meanSteps 24 = .ok (.iload_n 3, 1) := by decide +kernel
theorem dX8_meanSteps_25 : decode cX8_meanSteps 25 = .ok (.aload_n 0, 1) := by decide +kernel
theorem dX8_meanSteps_26 : decode cX8_meanSteps 26 = .ok (.getfield 10, 3) := by decide +kernel
theorem dX8_meanSteps_29 : decode cX8_meanSteps 29 = .ok (.invokeinterface 36 1, 5) := by decide +kernel
theorem dX8_meanSteps_34 : decode cX8_meanSteps 34 = .ok (.if_icmp .ge 55, 3) := by decide +kernel
theorem dX8_meanSteps_37 : decode cX8_meanSteps 37 = .ok (.aload_n 0, 1) := by decide +kernel
theorem dX8_meanSteps_38 : decode cX8_meanSteps 38 = .ok (.getfield 10, 3) := by decide +kernel
theorem dX8_meanSteps_41 : decode cX8_meanSteps 41 = .ok (.iload_n 3, 1) := by decide +kernel
theorem dX8_meanSteps_42 : decode cX8_meanSteps 42 = .ok (.invokeinterface 192 2, 5) := by decide +kernel
theorem dX8_meanSteps_47 : decode cX8_meanSteps 47 = .ok (.checkcast 47, 3) := by decide +kernel
theorem dX8_meanSteps_50 : decode cX8_meanSteps 50 = .ok (.getfield 75, 3) := by decide +kernel
theorem dX8_meanSteps_53 : decode cX8_meanSteps 53 = .ok (.getfield 79, 3) := by decide +kernel
theorem dX8_meanSteps_56 : decode cX8_meanSteps 56 = .ok (.bipush 119, 2) := by decide +kernel
theorem dX8_meanSteps_58 : decode cX8_meanSteps 58 = .ok (.if_icmp .ne 25, 3) := by decide +kernel
theorem dX8_meanSteps_61 : decode cX8_meanSteps 61 = .ok (.iload_n 2, 1) := by decide +kernel
theorem dX8_meanSteps_62 : decode cX8_meanSteps 62 = .ok (.aload_n 0, 1) := by decide +kernel
theorem dX8_meanSteps_63 : decode cX8_meanSteps 63 = .ok (.getfield 10, 3) := by decide +kernel
theorem dX8_meanSteps_66 : decode cX8_meanSteps 66 = .ok (.iload_n 3, 1) := by decide +kernel
theorem dX8_meanSteps_67 : decode cX8_meanSteps 67 = .ok (.invokeinterface 192 2, 5) := by decide +kernel
theorem dX8_meanSteps_72 : decode cX8_meanSteps 72 = .ok (.checkcast 47, 3) := by decide +kernel
theorem dX8_meanSteps_75 : decode cX8_meanSteps 75 = .ok (.getfield 75, 3) := by decide +kernel
theorem dX8_meanSteps_78 : decode cX8_meanSteps 78 = .ok (.getfield 130, 3) := by decide +kernel
theorem dX8_meanSteps_81 : decode cX8_meanSteps 81 = .ok (.iadd, 1) := by decide +kernel
theorem dX8_meanSteps_82 : decode cX8_meanSteps 82 = .ok (.istore_n 2, 1) := by decide +kernel
theorem dX8_meanSteps_83 : decode cX8_meanSteps 83 = .ok (.iinc 3 1, 3) := by decide +kernel
theorem dX8_meanSteps_86 : decode cX8_meanSteps 86 = .ok (.goto (-62), 3) := by decide +kernel
theorem dX8_meanSteps_89 : decode cX8_meanSteps 89 = .ok (.iload_n 2, 1) := by decide +kernel
theorem dX8_meanSteps_90 : decode cX8_meanSteps 90 = .ok (.i2d, 1) := by decide +kernel
theorem dX8_meanSteps_91 : decode cX8_meanSteps 91 = .ok (.iload_n 1, 1) := by decide +kernel
theorem dX8_meanSteps_92 : decode cX8_meanSteps 92 = .ok (.i2d, 1) := by decide +kernel
theorem dX8_meanSteps_93 : decode cX8_meanSteps 93 = .ok (.ddiv, 1) := by decide +kernel
theorem dX8_meanSteps_94 : decode cX8_meanSteps 94 = .ok (.dreturn, 1) := by decide +kernel
theorem dX8_findRiddle_0 : decode cX8_findRiddle 0 = .ok (.iload_n 1, 1) := by decide +kernel
theorem dX8_findRiddle_1 : decode cX8_findRiddle 1 = .ok (.ifCond .lt 16, 3) := by decide +kernel
theorem dX8_findRiddle_4 : decode cX8_findRiddle 4 = .ok (.iload_n 1, 1) := by decide +kernel
theorem dX8_findRiddle_5 : decode cX8_findRiddle 5 = .ok (.aload_n 0, 1) := by decide +kernel
theorem dX8_findRiddle_6 : decode cX8_findRiddle 6 = .ok (.getfield 10, 3) := by decide +kernel
theorem dX8_findRiddle_9 : decode cX8_findRiddle 9 = .ok (.invokeinterface 36 1, 5) := by decide +kernel
theorem dX8_findRiddle_14 : decode cX8_findRiddle 14 = .ok (.if_icmp .lt 14, 3) := by decide +kernel
theorem dX8_findRiddle_17 : decode cX8_findRiddle 17 = .ok (.new 109, 3) := by decide +kernel
theorem dX8_findRiddle_20 : decode cX8_findRiddle 20 = .ok (.dup, 1) := by decide +kernel
theorem dX8_findRiddle_21 : decode cX8_findRiddle 21 = .ok (.ldc_w 297, 3) := by decide +kernel
theorem dX8_findRiddle_24 : decode cX8_findRiddle 24 = .ok (.invokespecial 113, 3) := by decide +kernel
theorem dX8_findRiddle_27 : decode cX8_findRiddle 27 = .ok (.athrow, 1) := by decide +kernel
theorem dX8_findRiddle_28 : decode cX8_findRiddle 28 = .ok (.aload_n 0, 1) := by decide +kernel
theorem dX8_findRiddle_29 : decode cX8_findRiddle 29 = .ok (.getfield 10, 3) := by decide +kernel
theorem dX8_findRiddle_32 : decode cX8_findRiddle 32 = .ok (.iload_n 1, 1) := by decide +kernel
theorem dX8_findRiddle_33 : decode cX8_findRiddle 33 = .ok (.invokeinterface 192 2, 5) := by decide +kernel
theorem dX8_findRiddle_38 : decode cX8_findRiddle 38 = .ok (.checkcast 47, 3) := by decide +kernel
theorem dX8_findRiddle_41 : decode cX8_findRiddle 41 = .ok (.areturn, 1) := by decide +kernel
theorem dX8_checkRule_0 : decode cX8_checkRule 0 = .ok (.iload_n 1, 1) := by decide +kernel
theorem dX8_checkRule_1 : decode cX8_checkRule 1 = .ok (.ifCond .lt 19, 3) := by decide +kernel
theorem dX8_checkRule_4 : decode cX8_checkRule 4 = .ok (.iload_n 1, 1) := by decide +kernel
theorem dX8_checkRule_5 : decode cX8_checkRule 5 = .ok (.bipush 10, 2) := by decide +kernel
theorem dX8_checkRule_7 : decode cX8_checkRule 7 = .ok (.aload_n 0, 1) := by decide +kernel
theorem dX8_checkRule_8 : decode cX8_checkRule 8 = .ok (.getfield 16, 3) := by decide +kernel
theorem dX8_checkRule_11 : decode cX8_checkRule 11 = .ok (.invokeinterface 36 1, 5) := by decide +kernel
theorem dX8_checkRule_16 : decode cX8_checkRule 16 = .ok (.iadd, 1) := by decide +kernel
theorem dX8_checkRule_17 : decode cX8_checkRule 17 = .ok (.if_icmp .lt 14, 3) := by decide +kernel
theorem dX8_checkRule_20 : decode cX8_checkRule 20 = .ok (.new 109, 3) := by decide +kernel
theorem dX8_checkRule_23 : decode cX8_checkRule 23 = .ok (.dup, 1) := by decide +kernel
theorem dX8_checkRule_24 : decode cX8_checkRule 24 = .ok (.ldc_w 299, 3) := by decide +kernel
theorem dX8_checkRule_27 : decode cX8_checkRule 27 = .ok (.invokespecial 113, 3) := by decide +kernel
theorem dX8_checkRule_30 : decode cX8_checkRule 30 = .ok (.athrow, 1) := by decide +kernel
theorem dX8_checkRule_31 : decode cX8_checkRule 31 = .ok (.return_, 1) := by decide +kernel
theorem dX8_findOwnRule_0 : decode cX8_findOwnRule 0 = .ok (.iload_n 1, 1) := by decide +kernel
theorem dX8_findOwnRule_1 : decode cX8_findOwnRule 1 = .ok (.bipush 10, 2) := by decide +kernel
theorem dX8_findOwnRule_3 : decode cX8_findOwnRule 3 = .ok (.isub, 1) := by decide +kernel
theorem dX8_findOwnRule_4 : decode cX8_findOwnRule 4 = .ok (.istore_n 2, 1) := by decide +kernel
theorem dX8_findOwnRule_5 : decode cX8_findOwnRule 5 = .ok (.iload_n 1, 1) := by decide +kernel
theorem dX8_findOwnRule_6 : decode cX8_findOwnRule 6 = .ok (.bipush 10, 2) := by decide +kernel
theorem dX8_findOwnRule_8 : decode cX8_findOwnRule 8 = .ok (.if_icmp .lt 16, 3) := by decide +kernel
theorem dX8_findOwnRule_11 : decode cX8_findOwnRule 11 = .ok (.iload_n 2, 1) := by decide +kernel
theorem dX8_findOwnRule_12 : decode cX8_findOwnRule 12 = .ok (.aload_n 0, 1) := by decide +kernel
theorem dX8_findOwnRule_13 : decode cX8_findOwnRule 13 = .ok (.getfield 16, 3) := by decide +kernel
theorem dX8_findOwnRule_16 : decode cX8_findOwnRule 16 = .ok (.invokeinterface 36 1, 5) := by decide +kernel
theorem dX8_findOwnRule_21 : decode cX8_findOwnRule 21 = .ok (.if_icmp .lt 14, 3) := by decide +kernel
theorem dX8_findOwnRule_24 : decode cX8_findOwnRule 24 = .ok (.new 109, 3) := by decide +kernel
theorem dX8_findOwnRule_27 : decode cX8_findOwnRule 27 = .ok (.dup, 1) := by decide +kernel
theorem dX8_findOwnRule_28 : decode cX8_findOwnRule 28 = .ok (.ldc_w 301, 3) := by decide +kernel
theorem dX8_findOwnRule_31 : decode cX8_findOwnRule 31 = .ok (.invokespecial 113, 3) := by decide +kernel
theorem dX8_findOwnRule_34 : decode cX8_findOwnRule 34 = .ok (.athrow, 1) := by decide +kernel
theorem dX8_findOwnRule_35 : decode cX8_findOwnRule 35 = .ok (.aload_n 0, 1) := by decide +kernel
theorem dX8_findOwnRule_36 : decode cX8_findOwnRule 36 = .ok (.getfield 16, 3) := by decide +kernel
theorem dX8_findOwnRule_39 : decode cX8_findOwnRule 39 = .ok (.iload_n 2, 1) := by decide +kernel
theorem dX8_findOwnRule_40 : decode cX8_findOwnRule 40 = .ok (.invokeinterface 192 2, 5) := by decide +kernel
theorem dX8_findOwnRule_45 : decode cX8_findOwnRule 45 = .ok (.checkcast 169, 3) := by decide +kernel
theorem dX8_findOwnRule_48 : decode cX8_findOwnRule 48 = .ok (.areturn, 1) := by decide +kernel
theorem dX8_findIssue_0 : decode cX8_findIssue 0 = .ok (.iload_n 1, 1) := by decide +kernel
theorem dX8_findIssue_1 : decode cX8_findIssue 1 = .ok (.ifCond .lt 16, 3) := by decide +kernel
theorem dX8_findIssue_4 : decode cX8_findIssue 4 = .ok (.iload_n 1, 1) := by decide +kernel
theorem dX8_findIssue_5 : decode cX8_findIssue 5 = .ok (.aload_n 0, 1) := by decide +kernel
theorem dX8_findIssue_6 : decode cX8_findIssue 6 = .ok (.getfield 19, 3) := by decide +kernel
theorem dX8_findIssue_9 : decode cX8_findIssue 9 = .ok (.invokeinterface 36 1, 5) := by decide +kernel
theorem dX8_findIssue_14 : decode cX8_findIssue 14 = .ok (.if_icmp .lt 14, 3) := by decide +kernel
theorem dX8_findIssue_17 : decode cX8_findIssue 17 = .ok (.new 109, 3) := by decide +kernel
theorem dX8_findIssue_20 : decode cX8_findIssue 20 = .ok (.dup, 1) := by decide +kernel
theorem dX8_findIssue_21 : decode cX8_findIssue 21 = .ok (.ldc_w 303, 3) := by decide +kernel
theorem dX8_findIssue_24 : decode cX8_findIssue 24 = .ok (.invokespecial 113, 3) := by decide +kernel
theorem dX8_findIssue_27 : decode cX8_findIssue 27 = .ok (.athrow, 1) := by decide +kernel
theorem dX8_findIssue_28 : decode cX8_findIssue 28 = .ok (.aload_n 0, 1) := by decide +kernel
theorem dX8_findIssue_29 : decode cX8_findIssue 29 = .ok (.getfield 19, 3) := by decide +kernel
theorem dX8_findIssue_32 : decode cX8_findIssue 32 = .ok (.iload_n 1, 1) := by decide +kernel
theorem dX8_findIssue_33 : decode cX8_findIssue 33 = .ok (.invokeinterface 192 2, 5) := by decide +kernel
theorem dX8_findIssue_38 : decode cX8_findIssue 38 = .ok (.checkcast 196, 3) := by decide +kernel
theorem dX8_findIssue_41 : decode cX8_findIssue 41 = .ok (.areturn, 1) := by decide +kernel
theorem dX8_findCustomer_0 : decode cX8_findCustomer 0 = .ok (.iload_n 1, 1) := by decide +kernel
theorem dX8_findCustomer_1 : decode cX8_findCustomer 1 = .ok (.ifCond .lt 16, 3) := by decide +kernel
theorem dX8_findCustomer_4 : decode cX8_findCustomer 4 = .ok (.iload_n 1, 1) := by decide +kernel
theorem dX8_findCustomer_5 : decode cX8_findCustomer 5 = .ok (.aload_n 0, 1) := by decide +kernel
theorem dX8_findCustomer_6 : decode cX8_findCustomer 6 = .ok (.getfield 22, 3) := by decide +kernel
theorem dX8_findCustomer_9 : decode cX8_findCustomer 9 = .ok (.invokeinterface 36 1, 5) := by decide +kernel
theorem dX8_findCustomer_14 : decode cX8_findCustomer 14 = .ok (.if_icmp .lt 14, 3) := by decide +kernel
theorem dX8_findCustomer_17 : decode cX8_findCustomer 17 = .ok (.new 109, 3) := by decide +kernel
theorem dX8_findCustomer_20 : decode cX8_findCustomer 20 = .ok (.dup, 1) := by decide +kernel
theorem dX8_findCustomer_21 : decode cX8_findCustomer 21 = .ok (.ldc_w 305, 3) := by decide +kernel
theorem dX8_findCustomer_24 : decode cX8_findCustomer 24 = .ok (.invokespecial 113, 3) := by decide +kernel
theorem dX8_findCustomer_27 : decode cX8_findCustomer 27 = .ok (.athrow, 1) := by decide +kernel
theorem dX8_findCustomer_28 : decode cX8_findCustomer 28 = .ok (.aload_n 0, 1) := by decide +kernel
theorem dX8_findCustomer_29 : decode cX8_findCustomer 29 = .ok (.getfield 22, 3) := by decide +kernel
theorem dX8_findCustomer_32 : decode cX8_findCustomer 32 = .ok (.iload_n 1, 1) := by decide +kernel
theorem dX8_findCustomer_33 : decode cX8_findCustomer 33 = .ok (.invokeinterface 192 2, 5) := by decide +kernel
theorem dX8_findCustomer_38 : decode cX8_findCustomer 38 = .ok (.checkcast 250, 3) := by decide +kernel
theorem dX8_findCustomer_41 : decode cX8_findCustomer 41 = .ok (.areturn, 1) := by decide +kernel
theorem dX8_isPersonOf_0 : decode cX8_isPersonOf 0 = .ok (.iload_n 1, 1) := by decide +kernel
theorem dX8_isPersonOf_1 : decode cX8_isPersonOf 1 = .ok (.bipush 97, 2) := by decide +kernel
theorem dX8_isPersonOf_3 : decode cX8_isPersonOf 3 = .ok (.if_icmp .eq 21, 3) := by decide +kernel
theorem dX8_isPersonOf_6 : decode cX8_isPersonOf 6 = .ok (.iload_n 1, 1) := by decide +kernel
theorem dX8_isPersonOf_7 : decode cX8_isPersonOf 7 = .ok (.bipush 98, 2) := by decide +kernel
theorem dX8_isPersonOf_9 : decode cX8_isPersonOf 9 = .ok (.if_icmp .eq 15, 3) := by decide +kernel
theorem dX8_isPersonOf_12 : decode cX8_isPersonOf 12 = .ok (.iload_n 1, 1) := by decide +kernel
theorem dX8_isPersonOf_13 : decode cX8_isPersonOf 13 = .ok (.bipush 99, 2) := by decide +kernel
theorem dX8_isPersonOf_15 : decode cX8_isPersonOf 15 = .ok (.if_icmp .ne 13, 3) := by decide +kernel
theorem dX8_isPersonOf_18 : decode cX8_isPersonOf 18 = .ok (.iload_n 0, 1) := by decide +kernel
theorem dX8_isPersonOf_19 : decode cX8_isPersonOf 19 = .ok (.bipush 109, 2) := by decide +kernel
theorem dX8_isPersonOf_21 : decode cX8_isPersonOf 21 = .ok (.if_icmp .ne 7, 3) := by decide +kernel
theorem dX8_isPersonOf_24 : decode cX8_isPersonOf 24 = .ok (.iconst 1, 1) := by decide +kernel
theorem dX8_isPersonOf_25 : decode cX8_isPersonOf 25 = .ok (.goto 4, 3) := by decide +kernel
theorem dX8_isPersonOf_28 : decode cX8_isPersonOf 28 = .ok (.iconst 0, 1) := by decide +kernel
theorem dX8_isPersonOf_29 : decode cX8_isPersonOf 29 = .ok (.ireturn, 1) := by decide +kernel
theorem dX8_countRiddlesOf_0 : decode cX8_countRiddlesOf 0 = .ok (.iconst 0, 1) := by decide +kernel
theorem dX8_countRiddlesOf_1 : decode cX8_countRiddlesOf 1 = .ok (.istore_n 2, 1) := by decide +kernel
theorem dX8_countRiddlesOf_2 : decode cX8_countRiddlesOf 2 = .ok (.iconst 0, 1) := by decide +kernel
theorem dX8_countRiddlesOf_3 : decode cX8_countRiddlesOf 3 = .ok (.istore_n 3, 1) := by decide +kernel
theorem dX8_countRiddlesOf_4 : decode cX8_countRiddlesOf 4 = .ok (.iload_n 3, 1) := by decide +kernel
theorem dX8_countRiddlesOf_5 : decode cX8_countRiddlesOf 5 = .ok (.aload_n 0, 1) := by decide +kernel
theorem dX8_countRiddlesOf_6 : decode cX8_countRiddlesOf 6 = .ok (.getfield 10, 3) := by decide +kernel
theorem dX8_countRiddlesOf_9 : decode cX8_countRiddlesOf 9 = .ok (.invokeinterface 36 1, 5) := by decide +kernel
theorem dX8_countRiddlesOf_14 : decode cX8_countRiddlesOf 14 = .ok (.if_icmp .ge 32, 3) := by decide +kernel
theorem dX8_countRiddlesOf_17 : decode cX8_countRiddlesOf 17 = .ok (.aload_n 0, 1) := by decide +kernel
theorem dX8_countRiddlesOf_18 : decode cX8_countRiddlesOf 18 = .ok (.getfield 10, 3) := by decide +kernel
theorem dX8_countRiddlesOf_21 : decode cX8_countRiddlesOf 21 = .ok (.iload_n 3, 1) := by decide +kernel
theorem dX8_countRiddlesOf_22 : decode cX8_countRiddlesOf 22 = .ok (.invokeinterface 192 2, 5) := by decide +kernel
theorem dX8_countRiddlesOf_27 : decode cX8_countRiddlesOf 27 = .ok (.checkcast 47, 3) := by decide +kernel
theorem dX8_countRiddlesOf_30 : decode cX8_countRiddlesOf 30 = .ok (.getfield 236, 3) := by decide +kernel
theorem dX8_countRiddlesOf_33 : decode cX8_countRiddlesOf 33 = .ok (.aload_n 1, 1) := by decide +kernel
theorem dX8_countRiddlesOf_34 : decode cX8_countRiddlesOf 34 = .ok (.if_acmp .ne 6, 3) := by decide +kernel
theorem dX8_countRiddlesOf_37 : decode cX8_countRiddlesOf 37 = .ok (.iinc 2 1, 3) := by decide +kernel
theorem dX8_countRiddlesOf_40 : decode cX8_countRiddlesOf 40 = .ok (.iinc 3 1, 3) := by decide +kernel
theorem dX8_countRiddlesOf_43 : decode cX8_countRiddlesOf 43 = .ok (.goto (-39), 3) := by decide +kernel
theorem dX8_countRiddlesOf_46 : decode cX8_countRiddlesOf 46 = .ok (.iload_n 2, 1) := by decide +kernel
theorem dX8_countRiddlesOf_47 : decode cX8_countRiddlesOf 47 = .ok (.ireturn, 1) := by decide +kernel
theorem dX8_isReady_0 : decode cX8_isReady 0 = .ok (.aload_n 0, 1) := by decide +kernel
theorem dX8_isReady_1 : decode cX8_isReady 1 = .ok (.getfield 119, 3) := by decide +kernel
theorem dX8_isReady_4 : decode cX8_isReady 4 = .ok (.bipush 119, 2) := by decide +kernel
theorem dX8_isReady_6 : decode cX8_isReady 6 = .ok (.if_icmp .eq 12, 3) := by decide +kernel
theorem dX8_isReady_9 : decode cX8_isReady 9 = .ok (.aload_n 0, 1) := by decide +kernel
theorem dX8_isReady_10 : decode cX8_isReady 10 = .ok (.getfield 119, 3) := by decide +kernel
theorem dX8_isReady_13 : decode cX8_isReady 13 = .ok (.bipush 98, 2) := by decide +kernel
theorem dX8_isReady_15 : decode cX8_isReady 15 = .ok (.if_icmp .ne 7, 3) := by decide +kernel
theorem dX8_isReady_18 : decode cX8_isReady 18 = .ok (.iconst 1, 1) := by decide +kernel
theorem dX8_isReady_19 : decode cX8_isReady 19 = .ok (.goto 4, 3) := by decide +kernel
theorem dX8_isReady_22 : decode cX8_isReady 22 = .ok (.iconst 0, 1) := by decide +kernel
theorem dX8_isReady_23 : decode cX8_isReady 23 = .ok (.ireturn, 1) := by decide +kernel
theorem dX8_isOnSaleBy_0 : decode cX8_isOnSaleBy 0 = .ok (.aload_n 1, 1) := by decide +kernel
theorem dX8_isOnSaleBy_1 : decode cX8_isOnSaleBy 1 = .ok (.getfield 202, 3) := by decide +kernel
theorem dX8_isOnSaleBy_4 : decode cX8_isOnSaleBy 4 = .ok (.bipush 115, 2) := by decide +kernel
theorem dX8_isOnSaleBy_6 : decode cX8_isOnSaleBy 6 = .ok (.if_icmp .eq 5, 3) := by decide +kernel
theorem dX8_isOnSaleBy_9 : decode cX8_isOnSaleBy 9 = .ok (.iconst 0, 1) := by decide +kernel
theorem dX8_isOnSaleBy_10 : decode cX8_isOnSaleBy 10 = .ok (.ireturn, 1) := by decide +kernel
theorem dX8_isOnSaleBy_11 : decode cX8_isOnSaleBy 11 = .ok (.iconst 0, 1) := by decide +kernel
theorem dX8_isOnSaleBy_12 : decode cX8_isOnSaleBy 12 = .ok (.istore_n 3, 1) := by decide +kernel
theorem dX8_isOnSaleBy_13 : decode cX8_isOnSaleBy 13 = .ok (.iload_n 3, 1) := by decide +kernel
theorem dX8_isOnSaleBy_14 : decode cX8_isOnSaleBy 14 = .ok (.aload_n 0, 1) := by decide +kernel
theorem dX8_isOnSaleBy_15 : decode cX8_isOnSaleBy 15 = .ok (.getfield 10, 3) := by decide +kernel
theorem dX8_isOnSaleBy_18 : decode cX8_isOnSaleBy 18 = .ok (.invokeinterface 36 1, 5) := by decide +kernel
theorem dX8_isOnSaleBy_23 : decode cX8_isOnSaleBy 23 = .ok (.if_icmp .ge 54, 3) := by decide +kernel
theorem dX8_isOnSaleBy_26 : decode cX8_isOnSaleBy 26 = .ok (.aload_n 0, 1) := by decide +kernel
theorem dX8_isOnSaleBy_27 : decode cX8_isOnSaleBy 27 = .ok (.getfield 10, 3) := by decide +kernel
theorem dX8_isOnSaleBy_30 : decode cX8_isOnSaleBy 30 = .ok (.iload_n 3, 1) := by decide +kernel
theorem dX8_isOnSaleBy_31 : decode cX8_isOnSaleBy 31 = .ok (.invokeinterface 192 2, 5) := by decide +kernel
theorem dX8_isOnSaleBy_36 : decode cX8_isOnSaleBy 36 = .ok (.checkcast 47, 3) := by decide +kernel
theorem dX8_isOnSaleBy_39 : decode cX8_isOnSaleBy 39 = .ok (.getfield 236, 3) := by decide +kernel
theorem dX8_isOnSaleBy_42 : decode cX8_isOnSaleBy 42 = .ok (.aload_n 1, 1) := by decide +kernel
theorem dX8_isOnSaleBy_43 : decode cX8_isOnSaleBy 43 = .ok (.if_acmp .ne 28, 3) := by decide +kernel
theorem dX8_isOnSaleBy_46 : decode cX8_isOnSaleBy 46 = .ok (.aload_n 0, 1) := by decide +kernel
theorem dX8_isOnSaleBy_47 : decode cX8_isOnSaleBy 47 = .ok (.getfield 10, 3) := by decide +kernel
theorem dX8_isOnSaleBy_50 : decode cX8_isOnSaleBy 50 = .ok (.iload_n 3, 1) := by decide +kernel
theorem dX8_isOnSaleBy_51 : decode cX8_isOnSaleBy 51 = .ok (.invokeinterface 192 2, 5) := by decide +kernel
theorem dX8_isOnSaleBy_56 : decode cX8_isOnSaleBy 56 = .ok (.checkcast 47, 3) := by decide +kernel
theorem dX8_isOnSaleBy_59 : decode cX8_isOnSaleBy 59 = .ok (.getfield 75, 3) := by decide +kernel
theorem dX8_isOnSaleBy_62 : decode cX8_isOnSaleBy 62 = .ok (.iload_n 2, 1) := by decide +kernel
theorem dX8_isOnSaleBy_63 : decode cX8_isOnSaleBy 63 = .ok (.invokevirtual 150, 3) := by decide +kernel
theorem dX8_isOnSaleBy_66 : decode cX8_isOnSaleBy 66 = .ok (.ifCond .eq 5, 3) := by decide +kernel
theorem dX8_isOnSaleBy_69 : decode cX8_isOnSaleBy 69 = .ok (.iconst 1, 1) := by decide +kernel
theorem dX8_isOnSaleBy_70 : decode cX8_isOnSaleBy 70 = .ok (.ireturn, 1) := by decide +kernel
theorem dX8_isOnSaleBy_71 : decode cX8_isOnSaleBy 71 = .ok (.iinc 3 1, 3) := by decide +kernel
theorem dX8_isOnSaleBy_74 : decode cX8_isOnSaleBy 74 = .ok (.goto (-61), 3) := by decide +kernel
theorem dX8_isOnSaleBy_77 : decode cX8_isOnSaleBy 77 = .ok (.iconst 0, 1) := by decide +kernel
theorem dX8_isOnSaleBy_78 : decode cX8_isOnSaleBy 78 = .ok (.ireturn, 1) := by decide +kernel
theorem dX8_takeBackRiddles_0 : decode cX8_takeBackRiddles 0 = .ok (.iconst 0, 1) := by decide +kernel
theorem dX8_takeBackRiddles_1 : decode cX8_takeBackRiddles 1 = .ok (.istore_n 3, 1) := by decide +kernel
theorem dX8_takeBackRiddles_2 : decode cX8_takeBackRiddles 2 = .ok (.iload_n 3, 1) := by decide +kernel
theorem dX8_takeBackRiddles_3 : decode cX8_takeBackRiddles 3 = .ok (.aload_n 0, 1) := by decide +kernel
theorem dX8_takeBackRiddles_4 : decode cX8_takeBackRiddles 4 = .ok (.getfield 10, 3) := by decide +kernel
theorem dX8_takeBackRiddles_7 : decode cX8_takeBackRiddles 7 = .ok (.invokeinterface 36 1, 5) := by decide +kernel
theorem dX8_takeBackRiddles_12 : decode cX8_takeBackRiddles 12 = .ok (.if_icmp .ge 93, 3) := by decide +kernel
theorem dX8_takeBackRiddles_15 : decode cX8_takeBackRiddles 15 = .ok (.aload_n 0, 1) := by decide +kernel
theorem dX8_takeBackRiddles_16 : decode cX8_takeBackRiddles 16 = .ok (.getfield 10, 3) := by decide +kernel
theorem dX8_takeBackRiddles_19 : decode cX8_takeBackRiddles 19 = .ok (.iload_n 3, 1) := by decide +kernel
theorem dX8_takeBackRiddles_20 : decode cX8_takeBackRiddles 20 = .ok (.invokeinterface 192 2, 5) := by decide +kernel
theorem dX8_takeBackRiddles_25 : decode cX8_takeBackRiddles 25 = .ok (.checkcast 47, 3) := by decide +kernel
theorem dX8_takeBackRiddles_28 : decode cX8_takeBackRiddles 28 = .ok (.astore 4, 2) := by decide +kernel
theorem dX8_takeBackRiddles_30 : decode cX8_takeBackRiddles 30 = .ok (.aload 4, 2) := by decide +kernel
theorem dX8_takeBackRiddles_32 : decode cX8_takeBackRiddles 32 = .ok (.getfield 236, 3) := by decide +kernel
theorem dX8_takeBackRiddles_35 : decode cX8_takeBackRiddles 35 = .ok (.aload_n 1, 1) := by decide +kernel
theorem dX8_takeBackRiddles_36 : decode cX8_takeBackRiddles 36 = .ok (.if_acmp .ne 63, 3) := by decide +kernel
theorem dX8_takeBackRiddles_39 : decode cX8_takeBackRiddles 39 = .ok (.aload 4, 2) := by decide +kernel
theorem dX8_takeBackRiddles_41 : decode cX8_takeBackRiddles 41 = .ok (.aconst_null, 1) := by decide +kernel
theorem dX8_takeBackRiddles_42 : decode cX8_takeBackRiddles 42 = .ok (.putfield 236, 3) := by decide +kernel
theorem dX8_takeBackRiddles_45 : decode cX8_takeBackRiddles 45 = .ok (.aload 4, 2) := by decide +kernel
theorem dX8_takeBackRiddles_47 : decode cX8_takeBackRiddles 47 = .ok (.getfield 75, 3) := by decide +kernel
theorem dX8_takeBackRiddles_50 : decode cX8_takeBackRiddles 50 = .ok (.iload_n 2, 1) := by decide +kernel
theorem dX8_takeBackRiddles_51 : decode cX8_takeBackRiddles 51 = .ok (.invokevirtual 150, 3) := by decide +kernel
theorem dX8_takeBackRiddles_54 : decode cX8_takeBackRiddles 54 = .ok (.ifCond .eq 20, 3) := by decide +kernel
theorem dX8_takeBackRiddles_57 : decode cX8_takeBackRiddles 57 = .ok (.aload 4, 2) := by decide +kernel
theorem dX8_takeBackRiddles_59 : decode cX8_takeBackRiddles 59 = .ok (.getfield 75, 3) := by decide +kernel
theorem dX8_takeBackRiddles_62 : decode cX8_takeBackRiddles 62 = .ok (.aload 4, 2) := by decide +kernel
theorem dX8_takeBackRiddles_64 : decode cX8_takeBackRiddles 64 = .ok (.getfield 90, 3) := by decide +kernel
theorem dX8_takeBackRiddles_67 : decode cX8_takeBackRiddles 67 = .ok (.aload_n 0, 1) := by decide +kernel
theorem dX8_takeBackRiddles_68 : decode cX8_takeBackRiddles 68 = .ok (.getfield 16, 3) := by decide +kernel
theorem dX8_takeBackRiddles_71 : decode cX8_takeBackRiddles 71 = .ok (.invokevirtual 124, 3) := by decide +kernel
theorem dX8_takeBackRiddles_74 : decode cX8_takeBackRiddles 74 = .ok (.aload 4, 2) := by decide +kernel
theorem dX8_takeBackRiddles_76 : decode cX8_takeBackRiddles 76 = .ok (.aload 4, 2) := by decide +kernel
theorem dX8_takeBackRiddles_78 : decode cX8_takeBackRiddles 78 = .ok (.getfield 75, 3) := by decide +kernel
theorem dX8_takeBackRiddles_81 : decode cX8_takeBackRiddles 81 = .ok (.getfield 79, 3) := by decide +kernel
theorem dX8_takeBackRiddles_84 : decode cX8_takeBackRiddles 84 = .ok (.bipush 119, 2) := by decide +kernel
theorem dX8_takeBackRiddles_86 : decode cX8_takeBackRiddles 86 = .ok (.if_icmp .ne 8, 3) := by decide +kernel
theorem dX8_takeBackRiddles_89 : decode cX8_takeBackRiddles 89 = .ok (.bipush 98, 2) := by decide +kernel
theorem dX8_takeBackRiddles_91 : decode cX8_takeBackRiddles 91 = .ok (.goto 5, 3) := by decide +kernel
theorem dX8_takeBackRiddles_94 : decode cX8_takeBackRiddles 94 = .ok (.bipush 104, 2) := by decide +kernel
theorem dX8_takeBackRiddles_96 : decode cX8_takeBackRiddles 96 = .ok (.putfield 119, 3) := by decide +kernel
theorem dX8_takeBackRiddles_99 : decode cX8_takeBackRiddles 99 = .ok (.iinc 3 1, 3) := by decide +kernel
theorem dX8_takeBackRiddles_102 : decode cX8_takeBackRiddles 102 = .ok (.goto (-100), 3) := by decide +kernel
theorem dX8_takeBackRiddles_105 : decode cX8_takeBackRiddles 105 = .ok (.return_, 1) := by decide +kernel
theorem dX8_loseProofsBy_0 : decode cX8_loseProofsBy 0 = .ok (.iconst 0, 1) := by decide +kernel
theorem dX8_loseProofsBy_1 : decode cX8_loseProofsBy 1 = .ok (.istore_n 2, 1) := by decide +kernel
theorem dX8_loseProofsBy_2 : decode cX8_loseProofsBy 2 = .ok (.iload_n 2, 1) := by decide +kernel
theorem dX8_loseProofsBy_3 : decode cX8_loseProofsBy 3 = .ok (.aload_n 0, 1) := by decide +kernel
theorem dX8_loseProofsBy_4 : decode cX8_loseProofsBy 4 = .ok (.getfield 10, 3) := by decide +kernel
theorem dX8_loseProofsBy_7 : decode cX8_loseProofsBy 7 = .ok (.invokeinterface 36 1, 5) := by decide +kernel
theorem dX8_loseProofsBy_12 : decode cX8_loseProofsBy 12 = .ok (.if_icmp .ge 52, 3) := by decide +kernel
theorem dX8_loseProofsBy_15 : decode cX8_loseProofsBy 15 = .ok (.aload_n 0, 1) := by decide +kernel
theorem dX8_loseProofsBy_16 : decode cX8_loseProofsBy 16 = .ok (.getfield 10, 3) := by decide +kernel
theorem dX8_loseProofsBy_19 : decode cX8_loseProofsBy 19 = .ok (.iload_n 2, 1) := by decide +kernel
theorem dX8_loseProofsBy_20 : decode cX8_loseProofsBy 20 = .ok (.invokeinterface 192 2, 5) := by decide +kernel
theorem dX8_loseProofsBy_25 : decode cX8_loseProofsBy 25 = .ok (.checkcast 47, 3) := by decide +kernel
theorem dX8_loseProofsBy_28 : decode cX8_loseProofsBy 28 = .ok (.astore_n 3, 1) := by decide +kernel
theorem dX8_loseProofsBy_29 : decode cX8_loseProofsBy 29 = .ok (.aload_n 3, 1) := by decide +kernel
theorem dX8_loseProofsBy_30 : decode cX8_loseProofsBy 30 = .ok (.getfield 75, 3) := by decide +kernel
theorem dX8_loseProofsBy_33 : decode cX8_loseProofsBy 33 = .ok (.iload_n 1, 1) := by decide +kernel
theorem dX8_loseProofsBy_34 : decode cX8_loseProofsBy 34 = .ok (.invokevirtual 150, 3) := by decide +kernel
theorem dX8_loseProofsBy_37 : decode cX8_loseProofsBy 37 = .ok (.ifCond .eq 21, 3) := by decide +kernel
theorem dX8_loseProofsBy_40 : decode cX8_loseProofsBy 40 = .ok (.aload_n 3, 1) := by decide +kernel
theorem dX8_loseProofsBy_41 : decode cX8_loseProofsBy 41 = .ok (.getfield 75, 3) := by decide +kernel
theorem dX8_loseProofsBy_44 : decode cX8_loseProofsBy 44 = .ok (.invokevirtual 307, 3) := by decide +kernel
theorem dX8_loseProofsBy_47 : decode cX8_loseProofsBy 47 = .ok (.aload_n 3, 1) := by decide +kernel
theorem dX8_loseProofsBy_48 : decode cX8_loseProofsBy 48 = .ok (.bipush 111, 2) := by decide +kernel
theorem dX8_loseProofsBy_50 : decode cX8_loseProofsBy 50 = .ok (.putfield 119, 3) := by decide +kernel
theorem dX8_loseProofsBy_53 : decode cX8_loseProofsBy 53 = .ok (.aload_n 3, 1) := by decide +kernel
theorem dX8_loseProofsBy_54 : decode cX8_loseProofsBy 54 = .ok (.aconst_null, 1) := by decide +kernel
theorem dX8_loseProofsBy_55 : decode cX8_loseProofsBy 55 = .ok (.putfield 236, 3) := by decide +kernel
theorem dX8_loseProofsBy_58 : decode cX8_loseProofsBy 58 = .ok (.iinc 2 1, 3) := by decide +kernel
theorem dX8_loseProofsBy_61 : decode cX8_loseProofsBy 61 = .ok (.goto (-59), 3) := by decide +kernel
theorem dX8_loseProofsBy_64 : decode cX8_loseProofsBy 64 = .ok (.return_, 1) := by decide +kernel
theorem dX8_isSound_0 : decode cX8_isSound 0 = .ok (.iconst 0, 1) := by decide +kernel
theorem dX8_isSound_1 : decode cX8_isSound 1 = .ok (.istore_n 2, 1) := by decide +kernel
theorem dX8_isSound_2 : decode cX8_isSound 2 = .ok (.iconst 0, 1) := by decide +kernel
theorem dX8_isSound_3 : decode cX8_isSound 3 = .ok (.istore_n 3, 1) := by decide +kernel
theorem dX8_isSound_4 : decode cX8_isSound 4 = .ok (.iload_n 3, 1) := by decide +kernel
theorem dX8_isSound_5 : decode cX8_isSound 5 = .ok (.aload_n 0, 1) := by decide +kernel
theorem dX8_isSound_6 : decode cX8_isSound 6 = .ok (.getfield 16, 3) := by decide +kernel
theorem dX8_isSound_9 : decode cX8_isSound 9 = .ok (.invokeinterface 36 1, 5) := by decide +kernel
theorem dX8_isSound_14 : decode cX8_isSound 14 = .ok (.if_icmp .ge 46, 3) := by decide +kernel
theorem dX8_isSound_17 : decode cX8_isSound 17 = .ok (.aload_n 1, 1) := by decide +kernel
theorem dX8_isSound_18 : decode cX8_isSound 18 = .ok (.getfield 75, 3) := by decide +kernel
theorem dX8_isSound_21 : decode cX8_isSound 21 = .ok (.bipush 10, 2) := by decide +kernel
theorem dX8_isSound_23 : decode cX8_isSound 23 = .ok (.iload_n 3, 1) := by decide +kernel
theorem dX8_isSound_24 : decode cX8_isSound 24 = .ok (.iadd, 1) := by decide +kernel
theorem dX8_isSound_25 : decode cX8_isSound 25 = .ok (.invokevirtual 150, 3) := by decide +kernel
theorem dX8_isSound_28 : decode cX8_isSound 28 = .ok (.ifCond .eq 26, 3) := by decide +kernel
theorem dX8_isSound_31 : decode cX8_isSound 31 = .ok (.aload_n 0, 1) := by decide +kernel
theorem dX8_isSound_32 : decode cX8_isSound 32 = .ok (.getfield 16, 3) := by decide +kernel
theorem dX8_isSound_35 : decode cX8_isSound 35 = .ok (.iload_n 3, 1) := by decide +kernel
theorem dX8_isSound_36 : decode cX8_isSound 36 = .ok (.invokeinterface 192 2, 5) := by decide +kernel
theorem dX8_isSound_41 : decode cX8_isSound 41 = .ok (.checkcast 169, 3) := by decide +kernel
theorem dX8_isSound_44 : decode cX8_isSound 44 = .ok (.getfield 181, 3) := by decide +kernel
theorem dX8_isSound_47 : decode cX8_isSound 47 = .ok (.ifCond .ne 5, 3) := by decide +kernel
theorem dX8_isSound_50 : decode cX8_isSound 50 = .ok (.iconst 0, 1) := by decide +kernel
theorem dX8_isSound_51 : decode cX8_isSound 51 = .ok (.ireturn, 1) := by decide +kernel
theorem dX8_isSound_52 : decode cX8_isSound 52 = .ok (.iconst 1, 1) := by decide +kernel
theorem dX8_isSound_53 : decode cX8_isSound 53 = .ok (.istore_n 2, 1) := by decide +kernel
theorem dX8_isSound_54 : decode cX8_isSound 54 = .ok (.iinc 3 1, 3) := by decide +kernel
theorem dX8_isSound_57 : decode cX8_isSound 57 = .ok (.goto (-53), 3) := by decide +kernel
theorem dX8_isSound_60 : decode cX8_isSound 60 = .ok (.iload_n 2, 1) := by decide +kernel
theorem dX8_isSound_61 : decode cX8_isSound 61 = .ok (.ifCond .eq 5, 3) := by decide +kernel
theorem dX8_isSound_64 : decode cX8_isSound 64 = .ok (.iconst 1, 1) := by decide +kernel
theorem dX8_isSound_65 : decode cX8_isSound 65 = .ok (.ireturn, 1) := by decide +kernel
theorem dX8_isSound_66 : decode cX8_isSound 66 = .ok (.aload_n 1, 1) := by decide +kernel
theorem dX8_isSound_67 : decode cX8_isSound 67 = .ok (.invokevirtual 99, 3) := by decide +kernel
theorem dX8_isSound_70 : decode cX8_isSound 70 = .ok (.aload_n 1, 1) := by decide +kernel
theorem dX8_isSound_71 : decode cX8_isSound 71 = .ok (.getfield 102, 3) := by decide +kernel
theorem dX8_isSound_74 : decode cX8_isSound 74 = .ok (.iconst 1, 1) := by decide +kernel
theorem dX8_isSound_75 : decode cX8_isSound 75 = .ok (.if_icmp .ne 7, 3) := by decide +kernel
theorem dX8_isSound_78 : decode cX8_isSound 78 = .ok (.iconst 1, 1) := by decide +kernel
theorem dX8_isSound_79 : decode cX8_isSound 79 = .ok (.goto 4, 3) := by decide +kernel
theorem dX8_isSound_82 : decode cX8_isSound 82 = .ok (.iconst 0, 1) := by decide +kernel
theorem dX8_isSound_83 : decode cX8_isSound 83 = .ok (.ireturn, 1) := by decide +kernel
theorem dX8_countWholeProofs_0 : decode cX8_countWholeProofs 0 = .ok (.iconst 0, 1) := by decide +kernel
theorem dX8_countWholeProofs_1 : decode cX8_countWholeProofs 1 = .ok (.istore_n 1, 1) := by decide +kernel
theorem dX8_countWholeProofs_2 : decode cX8_countWholeProofs 2 = .ok (.iconst 0, 1) := by decide +kernel
theorem dX8_countWholeProofs_3 : decode cX8_countWholeProofs 3 = .ok (.istore_n 2, 1) := by decide +kernel
theorem dX8_countWholeProofs_4 : decode cX8_countWholeProofs 4 = .ok (.iload_n 2, 1) := by decide +kernel
theorem dX8_countWholeProofs_5 : decode cX8_countWholeProofs 5 = .ok (.aload_n 0, 1) := by decide +kernel
theorem dX8_countWholeProofs_6 : decode cX8_countWholeProofs 6 = .ok (.getfield 10, 3) := by decide +kernel
theorem dX8_countWholeProofs_9 : decode cX8_countWholeProofs 9 = .ok (.invokeinterface 36 1, 5) := by decide +kernel
theorem dX8_countWholeProofs_14 : decode cX8_countWholeProofs 14 = .ok (.if_icmp .ge 36, 3) := by decide +kernel
theorem dX8_countWholeProofs_17 : decode cX8_countWholeProofs 17 = .ok (.aload_n 0, 1) := by decide +kernel
theorem dX8_countWholeProofs_18 : decode cX8_countWholeProofs 18 = .ok (.getfield 10, 3) := by decide +kernel
theorem dX8_countWholeProofs_21 : decode cX8_countWholeProofs 21 = .ok (.iload_n 2, 1) := by decide +kernel
theorem dX8_countWholeProofs_22 : decode cX8_countWholeProofs 22 = .ok (.invokeinterface 192 2, 5) := by decide +kernel
theorem dX8_countWholeProofs_27 : decode cX8_countWholeProofs 27 = .ok (.checkcast 47, 3) := by decide +kernel
theorem dX8_countWholeProofs_30 : decode cX8_countWholeProofs 30 = .ok (.getfield 75, 3) := by decide +kernel
theorem dX8_countWholeProofs_33 : decode cX8_countWholeProofs 33 = .ok (.getfield 79, 3) := by decide +kernel
theorem dX8_countWholeProofs_36 : decode cX8_countWholeProofs 36 = .ok (.bipush 119, 2) := by decide +kernel
theorem dX8_countWholeProofs_38 : decode cX8_countWholeProofs 38 = .ok (.if_icmp .ne 6, 3) := by decide +kernel
theorem dX8_countWholeProofs_41 : decode cX8_countWholeProofs 41 = .ok (.iinc 1 1, 3) := by decide +kernel
theorem dX8_countWholeProofs_44 : decode cX8_countWholeProofs 44 = .ok (.iinc 2 1, 3) := by decide +kernel
theorem dX8_countWholeProofs_47 : decode cX8_countWholeProofs 47 = .ok (.goto (-43), 3) := by decide +kernel
theorem dX8_countWholeProofs_50 : decode cX8_countWholeProofs 50 = .ok (.iload_n 1, 1) := by decide +kernel
theorem dX8_countWholeProofs_51 : decode cX8_countWholeProofs 51 = .ok (.ireturn, 1) := by decide +kernel
theorem dX8_sellToSubscribers_0 : decode cX8_sellToSubscribers 0 = .ok (.iconst 0, 1) := by decide +kernel
theorem dX8_sellToSubscribers_1 : decode cX8_sellToSubscribers 1 = .ok (.istore_n 3, 1) := by decide +kernel
theorem dX8_sellToSubscribers_2 : decode cX8_sellToSubscribers 2 = .ok (.iconst 0, 1) := by decide +kernel
theorem dX8_sellToSubscribers_3 : decode cX8_sellToSubscribers 3 = .ok (.istore 4, 2) := by decide +kernel
theorem dX8_sellToSubscribers_5 : decode cX8_sellToSubscribers 5 = .ok (.iload 4, 2) := by decide +kernel
theorem dX8_sellToSubscribers_7 : decode cX8_sellToSubscribers 7 = .ok (.aload_n 0, 1) := by decide +kernel
theorem dX8_sellToSubscribers_8 : decode cX8_sellToSubscribers 8 = .ok (.getfield 22, 3) := by decide +kernel
theorem dX8_sellToSubscribers_11 : decode cX8_sellToSubscribers 11 = .ok (.invokeinterface 36 1, 5) := by decide +kernel
theorem dX8_sellToSubscribers_16 : decode cX8_sellToSubscribers 16 = .ok (.if_icmp .ge 64, 3) := by decide +kernel
theorem dX8_sellToSubscribers_19 : decode cX8_sellToSubscribers 19 = .ok (.aload_n 0, 1) := by decide +kernel
theorem dX8_sellToSubscribers_20 : decode cX8_sellToSubscribers 20 = .ok (.getfield 22, 3) := by decide +kernel
theorem dX8_sellToSubscribers_23 : decode cX8_sellToSubscribers 23 = .ok (.iload 4, 2) := by decide +kernel
theorem dX8_sellToSubscribers_25 : decode cX8_sellToSubscribers 25 = .ok (.invokeinterface 192 2, 5) := by decide +kernel
theorem dX8_sellToSubscribers_30 : decode cX8_sellToSubscribers 30 = .ok (.checkcast 250, 3) := by decide +kernel
theorem dX8_sellToSubscribers_33 : decode cX8_sellToSubscribers 33 = .ok (.astore 5, 2) := by decide +kernel
theorem dX8_sellToSubscribers_35 : decode cX8_sellToSubscribers 35 = .ok (.aload 5, 2) := by decide +kernel
theorem dX8_sellToSubscribers_37 : decode cX8_sellToSubscribers 37 = .ok (.getfield 271, 3) := by decide +kernel
theorem dX8_sellToSubscribers_40 : decode cX8_sellToSubscribers 40 = .ok (.ifCond .le 34, 3) := by decide +kernel
theorem dX8_sellToSubscribers_43 : decode cX8_sellToSubscribers 43 = .ok (.aload 5, 2) := by decide +kernel
theorem dX8_sellToSubscribers_45 : decode cX8_sellToSubscribers 45 = .ok (.getfield 260, 3) := by decide +kernel
theorem dX8_sellToSubscribers_48 : decode cX8_sellToSubscribers 48 = .ok (.iload_n 2, 1) := by decide +kernel
theorem dX8_sellToSubscribers_49 : decode cX8_sellToSubscribers 49 = .ok (.if_icmp .lt 25, 3) := by decide +kernel
theorem dX8_sellToSubscribers_52 : decode cX8_sellToSubscribers 52 = .ok (.aload 5, 2) := by decide +kernel
theorem dX8_sellToSubscribers_54 : decode cX8_sellToSubscribers 54 = .ok (.dup, 1) := by decide +kernel
theorem dX8_sellToSubscribers_55 : decode cX8_sellToSubscribers 55 = .ok (.getfield 271, 3) := by decide +kernel
theorem dX8_sellToSubscribers_58 : decode cX8_sellToSubscribers 58 = .ok (.iconst 1, 1) := by decide +kernel
theorem dX8_sellToSubscribers_59 : decode cX8_sellToSubscribers 59 = .ok (.isub, 1) := by decide +kernel
theorem dX8_sellToSubscribers_60 : decode cX8_sellToSubscribers 60 = .ok (.putfield 271, 3) := by decide +kernel
theorem dX8_sellToSubscribers_63 : decode cX8_sellToSubscribers 63 = .ok (.aload_n 0, 1) := by decide +kernel
theorem dX8_sellToSubscribers_64 : decode cX8_sellToSubscribers 64 = .ok (.aload 5, 2) := by decide +kernel
theorem dX8_sellToSubscribers_66 : decode cX8_sellToSubscribers 66 = .ok (.iload_n 1, 1) := by decide +kernel
theorem dX8_sellToSubscribers_67 : decode cX8_sellToSubscribers 67 = .ok (.iload_n 2, 1) := by decide +kernel
theorem dX8_sellToSubscribers_68 : decode cX8_sellToSubscribers 68 = .ok (.invokevirtual 279, 3) := by decide +kernel
theorem dX8_sellToSubscribers_71 : decode cX8_sellToSubscribers 71 = .ok (.iinc 3 1, 3) := by decide +kernel
theorem dX8_sellToSubscribers_74 : decode cX8_sellToSubscribers 74 = .ok (.iinc 4 1, 3) := by decide +kernel
theorem dX8_sellToSubscribers_77 : decode cX8_sellToSubscribers 77 = .ok (.goto (-72), 3) := by decide +kernel
theorem dX8_sellToSubscribers_80 : decode cX8_sellToSubscribers 80 = .ok (.iload_n 3, 1) := by decide +kernel
theorem dX8_sellToSubscribers_81 : decode cX8_sellToSubscribers 81 = .ok (.ireturn, 1) := by decide +kernel
theorem dX8_sell_0 : decode cX8_sell 0 = .ok (.aload_n 1, 1) := by decide +kernel
theorem dX8_sell_1 : decode cX8_sell 1 = .ok (.dup, 1) := by decide +kernel
theorem dX8_sell_2 : decode cX8_sell 2 = .ok (.getfield 260, 3) := by decide +kernel
theorem dX8_sell_5 : decode cX8_sell 5 = .ok (.iload_n 3, 1) := by decide +kernel
theorem dX8_sell_6 : decode cX8_sell 6 = .ok (.isub, 1) := by decide +kernel
theorem dX8_sell_7 : decode cX8_sell 7 = .ok (.putfield 260, 3) := by decide +kernel
theorem dX8_sell_10 : decode cX8_sell 10 = .ok (.aload_n 0, 1) := by decide +kernel
theorem dX8_sell_11 : decode cX8_sell 11 = .ok (.dup, 1) := by decide +kernel
theorem dX8_sell_12 : decode cX8_sell 12 = .ok (.getfield 25, 3) := by decide +kernel
theorem dX8_sell_15 : decode cX8_sell 15 = .ok (.iload_n 3, 1) := by decide +kernel
theorem dX8_sell_16 : decode cX8_sell 16 = .ok (.i2l, 1) := by decide +kernel
theorem dX8_sell_17 : decode cX8_sell 17 = .ok (.ladd, 1) := by decide +kernel
theorem dX8_sell_18 : decode cX8_sell 18 = .ok (.putfield 25, 3) := by decide +kernel
theorem dX8_sell_21 : decode cX8_sell 21 = .ok (.aload_n 1, 1) := by decide +kernel
theorem dX8_sell_22 : decode cX8_sell 22 = .ok (.iload_n 2, 1) := by decide +kernel
theorem dX8_sell_23 : decode cX8_sell 23 = .ok (.invokevirtual 310, 3) := by decide +kernel
theorem dX8_sell_26 : decode cX8_sell 26 = .ok (.return_, 1) := by decide +kernel
theorem dX8_payBack_0 : decode cX8_payBack 0 = .ok (.iconst 0, 1) := by decide +kernel
theorem dX8_payBack_1 : decode cX8_payBack 1 = .ok (.istore_n 3, 1) := by decide +kernel
theorem dX8_payBack_2 : decode cX8_payBack 2 = .ok (.iload_n 3, 1) := by decide +kernel
theorem dX8_payBack_3 : decode cX8_payBack 3 = .ok (.aload_n 0, 1) := by decide +kernel
theorem dX8_payBack_4 : decode cX8_payBack 4 = .ok (.getfield 22, 3) := by decide +kernel
theorem dX8_payBack_7 : decode cX8_payBack 7 = .ok (.invokeinterface 36 1, 5) := by decide +kernel
theorem dX8_payBack_12 : decode cX8_payBack 12 = .ok (.if_icmp .ge 67, 3) := by decide +kernel
theorem dX8_payBack_15 : decode cX8_payBack 15 = .ok (.aload_n 0, 1) := by decide +kernel
theorem dX8_payBack_16 : decode cX8_payBack 16 = .ok (.getfield 22, 3) := by decide +kernel
theorem dX8_payBack_19 : decode cX8_payBack 19 = .ok (.iload_n 3, 1) := by decide +kernel
theorem dX8_payBack_20 : decode cX8_payBack 20 = .ok (.invokeinterface 192 2, 5) := by decide +kernel
theorem dX8_payBack_25 : decode cX8_payBack 25 = .ok (.checkcast 250, 3) := by decide +kernel
theorem dX8_payBack_28 : decode cX8_payBack 28 = .ok (.astore 4, 2) := by decide +kernel
theorem dX8_payBack_30 : decode cX8_payBack 30 = .ok (.aload 4, 2) := by decide +kernel
theorem dX8_payBack_32 : decode cX8_payBack 32 = .ok (.iload_n 1, 1) := by decide +kernel
theorem dX8_payBack_33 : decode cX8_payBack 33 = .ok (.invokevirtual 274, 3) := by decide +kernel
theorem dX8_payBack_36 : decode cX8_payBack 36 = .ok (.ifCond .eq 37, 3) := by decide +kernel
theorem dX8_payBack_39 : decode cX8_payBack 39 = .ok (.aload 4, 2) := by decide +kernel
theorem dX8_payBack_41 : decode cX8_payBack 41 = .ok (.dup, 1) := by decide +kernel
theorem dX8_payBack_42 : decode cX8_payBack 42 = .ok (.getfield 260, 3) := by decide +kernel
theorem dX8_payBack_45 : decode cX8_payBack 45 = .ok (.iload_n 2, 1) := by decide +kernel
theorem dX8_payBack_46 : decode cX8_payBack 46 = .ok (.ldc_w 263, 3) := by decide +kernel
theorem dX8_payBack_49 : decode cX8_payBack 49 = .ok (.aload 4, 2) := by decide +kernel
theorem dX8_payBack_51 : decode cX8_payBack 51 = .ok (.getfield 260, 3) := by decide +kernel
theorem dX8_payBack_54 : decode cX8_payBack 54 = .ok (.isub, 1) := by decide +kernel
theorem dX8_payBack_55 : decode cX8_payBack 55 = .ok (.invokestatic 313, 3) := by decide +kernel
theorem dX8_payBack_58 : decode cX8_payBack 58 = .ok (.iadd, 1) := by decide +kernel
theorem dX8_payBack_59 : decode cX8_payBack 59 = .ok (.putfield 260, 3) := by decide +kernel
theorem dX8_payBack_62 : decode cX8_payBack 62 = .ok (.aload_n 0, 1) := by decide +kernel
theorem dX8_payBack_63 : decode cX8_payBack 63 = .ok (.dup, 1) := by decide +kernel
theorem dX8_payBack_64 : decode cX8_payBack 64 = .ok (.getfield 25, 3) := by decide +kernel
theorem dX8_payBack_67 : decode cX8_payBack 67 = .ok (.iload_n 2, 1) := by decide +kernel
theorem dX8_payBack_68 : decode cX8_payBack 68 = .ok (.i2l, 1) := by decide +kernel
theorem dX8_payBack_69 : decode cX8_payBack 69 = .ok (.lsub, 1) := by decide +kernel
theorem dX8_payBack_70 : decode cX8_payBack 70 = .ok (.putfield 25, 3) := by decide +kernel
theorem dX8_payBack_73 : decode cX8_payBack 73 = .ok (.iinc 3 1, 3) := by decide +kernel
theorem dX8_payBack_76 : decode cX8_payBack 76 = .ok (.goto (-74), 3) := by decide +kernel
theorem dX8_payBack_79 : decode cX8_payBack 79 = .ok (.return_, 1) := by decide +kernel

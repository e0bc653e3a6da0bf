theorem dX0_init_0 : decode cX0_init 0 = .ok (.aload_n 0, 1) := by decide +kernel
theorem dX0_init_1 : decode cX0_init 1 = .ok (.invokespecial 5, 3) := by decide +kernel
theorem dX0_init_4 : decode cX0_init 4 = .ok (.aload_n 0, 1) := by decide +kernel
theorem dX0_init_5 : decode cX0_init 5 = .ok (.bipush 30, 2) := by decide +kernel
theorem dX0_init_7 : decode cX0_init 7 = .ok (.newarray .int, 2) := by decide +kernel
theorem dX0_init_9 : decode cX0_init 9 = .ok (.putfield 11, 3) := by decide +kernel
theorem dX0_init_12 : decode cX0_init 12 = .ok (.aload_n 0, 1) := by decide +kernel
theorem dX0_init_13 : decode cX0_init 13 = .ok (.bipush 30, 2) := by decide +kernel
theorem dX0_init_15 : decode cX0_init 15 = .ok (.newarray .int, 2) := by decide +kernel
theorem dX0_init_17 : decode cX0_init 17 = .ok (.putfield 15, 3) := by decide +kernel
theorem dX0_init_20 : decode cX0_init 20 = .ok (.aload_n 0, 1) := by decide +kernel
theorem dX0_init_21 : decode cX0_init 21 = .ok (.bipush 30, 2) := by decide +kernel
theorem dX0_init_23 : decode cX0_init 23 = .ok (.newarray .int, 2) := by decide +kernel
theorem dX0_init_25 : decode cX0_init 25 = .ok (.putfield 18, 3) := by decide +kernel
theorem dX0_init_28 : decode cX0_init 28 = .ok (.aload_n 0, 1) := by decide +kernel
theorem dX0_init_29 : decode cX0_init 29 = .ok (.bipush 8, 2) := by decide +kernel
theorem dX0_init_31 : decode cX0_init 31 = .ok (.newarray .int, 2) := by decide +kernel
theorem dX0_init_33 : decode cX0_init 33 = .ok (.putfield 21, 3) := by decide +kernel
theorem dX0_init_36 : decode cX0_init 36 = .ok (.aload_n 0, 1) := by decide +kernel
theorem dX0_init_37 : decode cX0_init 37 = .ok (.bipush 8, 2) := by decide +kernel
theorem dX0_init_39 : decode cX0_init 39 = .ok (.newarray .int, 2) := by decide +kernel
theorem dX0_init_41 : decode cX0_init 41 = .ok (.putfield 24, 3) := by decide +kernel
theorem dX0_init_44 : decode cX0_init 44 = .ok (.aload_n 0, 1) := by decide +kernel
theorem dX0_init_45 : decode cX0_init 45 = .ok (.bipush 96, 2) := by decide +kernel
theorem dX0_init_47 : decode cX0_init 47 = .ok (.newarray .int, 2) := by decide +kernel
theorem dX0_init_49 : decode cX0_init 49 = .ok (.putfield 27, 3) := by decide +kernel
theorem dX0_init_52 : decode cX0_init 52 = .ok (.aload_n 0, 1) := by decide +kernel
theorem dX0_init_53 : decode cX0_init 53 = .ok (.bipush 60, 2) := by decide +kernel
theorem dX0_init_55 : decode cX0_init 55 = .ok (.newarray .int, 2) := by decide +kernel
theorem dX0_init_57 : decode cX0_init 57 = .ok (.putfield 30, 3) := by decide +kernel
theorem dX0_init_60 : decode cX0_init 60 = .ok (.aload_n 0, 1) := by decide +kernel
theorem dX0_init_61 : decode cX0_init 61 = .ok (.bipush 60, 2) := by decide +kernel
theorem dX0_init_63 : decode cX0_init 63 = .ok (.newarray .int, 2) := by decide +kernel
theorem dX0_init_65 : decode cX0_init 65 = .ok (.putfield 33, 3) := by decide +kernel
theorem dX0_init_68 : decode cX0_init 68 = .ok (.aload_n 0, 1) := by decide +kernel
theorem dX0_init_69 : decode cX0_init 69 = .ok (.sipush 720, 3) := by decide +kernel
theorem dX0_init_72 : decode cX0_init 72 = .ok (.newarray .int, 2) := by decide +kernel
theorem dX0_init_74 : decode cX0_init 74 = .ok (.putfield 36, 3) := by decide +kernel
theorem dX0_init_77 : decode cX0_init 77 = .ok (.aload_n 0, 1) := by decide +kernel
theorem dX0_init_78 : decode cX0_init 78 = .ok (.sipush 768, 3) := by decide +kernel
theorem dX0_init_81 : decode cX0_init 81 = .ok (.newarray .int, 2) := by decide +kernel
theorem dX0_init_83 : decode cX0_init 83 = .ok (.putfield 39, 3) := by decide +kernel
theorem dX0_init_86 : decode cX0_init 86 = .ok (.aload_n 0, 1) := by decide +kernel
theorem dX0_init_87 : decode cX0_init 87 = .ok (.bipush 60, 2) := by decide +kernel
theorem dX0_init_89 : decode cX0_init 89 = .ok (.newarray .int, 2) := by decide +kernel
theorem dX0_init_91 : decode cX0_init 91 = .ok (.putfield 42, 3) := by decide +kernel
theorem dX0_init_94 : decode cX0_init 94 = .ok (.aload_n 0, 1) := by decide +kernel
theorem dX0_init_95 : decode cX0_init 95 = .ok (.iconst 4, 1) := by decide +kernel
theorem dX0_init_96 : decode cX0_init 96 = .ok (.newarray .int, 2) := by decide +kernel
theorem dX0_init_98 : decode cX0_init 98 = .ok (.putfield 45, 3) := by decide +kernel
theorem dX0_init_101 : decode cX0_init 101 = .ok (.aload_n 0, 1) := by decide +kernel
theorem dX0_init_102 : decode cX0_init 102 = .ok (.iconst 4, 1) := by decide +kernel
theorem dX0_init_103 : decode cX0_init 103 = .ok (.newarray .int, 2) := by decide +kernel
theorem dX0_init_105 : decode cX0_init 105 = .ok (.putfield 48, 3) := by decide +kernel
theorem dX0_init_108 : decode cX0_init 108 = .ok (.aload_n 0, 1) := by decide +kernel
theorem dX0_init_109 : decode cX0_init 109 = .ok (.getfield 36, 3) := by decide +kernel
theorem dX0_init_112 : decode cX0_init 112 = .ok (.iconst (-1), 1) := by decide +kernel
theorem dX0_init_113 : decode cX0_init 113 = .ok (.invokestatic 51, 3) := by decide +kernel
theorem dX0_init_116 : decode cX0_init 116 = .ok (.aload_n 0, 1) := by decide +kernel
theorem dX0_init_117 : decode cX0_init 117 = .ok (.getfield 39, 3) := by decide +kernel
theorem dX0_init_120 : decode cX0_init 120 = .ok (.iconst (-1), 1) := by decide +kernel
theorem dX0_init_121 : decode cX0_init 121 = .ok (.invokestatic 51, 3) := by decide +kernel
theorem dX0_init_124 : decode cX0_init 124 = .ok (.return_, 1) := by decide +kernel
theorem dX0_question_0 : decode cX0_question 0 = .ok (.iload_n 1, 1) := by decide +kernel
theorem dX0_question_1 : decode cX0_question 1 = .ok (.ifCond .lt 19, 3) := by decide +kernel
theorem dX0_question_4 : decode cX0_question 4 = .ok (.iload_n 1, 1) := by decide +kernel
theorem dX0_question_5 : decode cX0_question 5 = .ok (.iconst 3, 1) := by decide +kernel
theorem dX0_question_6 : decode cX0_question 6 = .ok (.if_icmp .gt 14, 3) := by decide +kernel
theorem dX0_question_9 : decode cX0_question 9 = .ok (.iload_n 2, 1) := by decide +kernel
theorem dX0_question_10 : decode cX0_question 10 = .ok (.iconst 1, 1) := by decide +kernel
theorem dX0_question_11 : decode cX0_question 11 = .ok (.if_icmp .lt 9, 3) := by decide +kernel
theorem dX0_question_14 : decode cX0_question 14 = .ok (.iload_n 2, 1) := by decide +kernel
theorem dX0_question_15 : decode cX0_question 15 = .ok (.bipush 10, 2) := by decide +kernel
theorem dX0_question_17 : decode cX0_question 17 = .ok (.if_icmp .le 6, 3) := by decide +kernel
theorem dX0_question_20 : decode cX0_question 20 = .ok (.bipush (-2), 2) := by decide +kernel
theorem dX0_question_22 : decode cX0_question 22 = .ok (.ireturn, 1) := by decide +kernel
theorem dX0_question_23 : decode cX0_question 23 = .ok (.iload_n 1, 1) := by decide +kernel
theorem dX0_question_24 : decode cX0_question 24 = .ok (.iconst 1, 1) := by decide +kernel
theorem dX0_question_25 : decode cX0_question 25 = .ok (.if_icmp .ne 13, 3) := by decide +kernel
theorem dX0_question_28 : decode cX0_question 28 = .ok (.iload_n 3, 1) := by decide +kernel
theorem dX0_question_29 : decode cX0_question 29 = .ok (.invokestatic 57, 3) := by decide +kernel
theorem dX0_question_32 : decode cX0_question 32 = .ok (.ifCond .ne 13, 3) := by decide +kernel
theorem dX0_question_35 : decode cX0_question 35 = .ok (.goto 7, 3) := by decide +kernel
theorem dX0_question_38 : decode cX0_question 38 = .ok (.iload_n 3, 1) := by decide +kernel
theorem dX0_question_39 : decode cX0_question 39 = .ok (.ifCond .eq 6, 3) := by decide +kernel
theorem dX0_question_42 : decode cX0_question 42 = .ok (.bipush (-2), 2) := by decide +kernel
theorem dX0_question_44 : decode cX0_question 44 = .ok (.ireturn, 1) := by decide +kernel
theorem dX0_question_45 : decode cX0_question 45 = .ok (.aload_n 0, 1) := by decide +kernel
theorem dX0_question_46 : decode cX0_question 46 = .ok (.getfield 61, 3) := by decide +kernel
theorem dX0_question_49 : decode cX0_question 49 = .ok (.bipush 30, 2) := by decide +kernel
theorem dX0_question_51 : decode cX0_question 51 = .ok (.if_icmp .lt 6, 3) := by decide +kernel
theorem dX0_question_54 : decode cX0_question 54 = .ok (.bipush (-4), 2) := by decide +kernel
theorem dX0_question_56 : decode cX0_question 56 = .ok (.ireturn, 1) := by decide +kernel
theorem dX0_question_57 : decode cX0_question 57 = .ok (.aload_n 0, 1) := by decide +kernel
theorem dX0_question_58 : decode cX0_question 58 = .ok (.getfield 61, 3) := by decide +kernel
theorem dX0_question_61 : decode cX0_question 61 = .ok (.istore 4, 2) := by decide +kernel
theorem dX0_question_63 : decode cX0_question 63 = .ok (.aload_n 0, 1) := by decide +kernel
theorem dX0_question_64 : decode cX0_question 64 = .ok (.getfield 11, 3) := by decide +kernel
theorem dX0_question_67 : decode cX0_question 67 = .ok (.iload 4, 2) := by decide +kernel
theorem dX0_question_69 : decode cX0_question 69 = .ok (.iload_n 1, 1) := by decide +kernel
theorem dX0_question_70 : decode cX0_question 70 = .ok (.iastore, 1) := by decide +kernel
theorem dX0_question_71 : decode cX0_question 71 = .ok (.aload_n 0, 1) := by decide +kernel
theorem dX0_question_72 : decode cX0_question 72 = .ok (.getfield 15, 3) := by decide +kernel
theorem dX0_question_75 : decode cX0_question 75 = .ok (.iload 4, 2) := by decide +kernel
theorem dX0_question_77 : decode cX0_question 77 = .ok (.iload_n 2, 1) := by decide +kernel
theorem dX0_question_78 : decode cX0_question 78 = .ok (.iastore, 1) := by decide +kernel
theorem dX0_question_79 : decode cX0_question 79 = .ok (.aload_n 0, 1) := by decide +kernel
theorem dX0_question_80 : decode cX0_question 80 = .ok (.getfield 18, 3) := by decide +kernel
theorem dX0_question_83 : decode cX0_question 83 = .ok (.iload 4, 2) := by decide +kernel
theorem dX0_question_85 : decode cX0_question 85 = .ok (.iload_n 3, 1) := by decide +kernel
theorem dX0_question_86 : decode cX0_question 86 = .ok (.iastore, 1) := by decide +kernel
theorem dX0_question_87 : decode cX0_question 87 = .ok (.iload_n 1, 1) := by decide +kernel
theorem dX0_question_88 : decode cX0_question 88 = .ok (.iconst 3, 1) := by decide +kernel
theorem dX0_question_89 : decode cX0_question 89 = .ok (.if_icmp .ne 16, 3) := by decide +kernel
theorem dX0_question_92 : decode cX0_question 92 = .ok (.aload_n 0, 1) := by decide +kernel
theorem dX0_question_93 : decode cX0_question 93 = .ok (.dup, 1) := by decide +kernel
theorem dX0_question_94 : decode cX0_question 94 = .ok (.getfield 65, 3) := by decide +kernel
theorem dX0_question_97 : decode cX0_question 97 = .ok (.iconst 1, 1) := by decide +kernel
theorem dX0_question_98 : decode cX0_question 98 = .ok (.iload 4, 2) := by decide +kernel
theorem dX0_question_100 : decode cX0_question 100 = .ok (.ishl, 1) := by decide +kernel
theorem dX0_question_101 : decode cX0_question 101 = .ok (.ior, 1) := by decide +kernel
theorem dX0_question_102 : decode cX0_question 102 = .ok (.putfield 65, 3) := by decide +kernel
theorem dX0_question_105 : decode cX0_question 105 = .ok (.aload_n 0, 1) := by decide +kernel
theorem dX0_question_106 : decode cX0_question 106 = .ok (.dup, 1) := by decide +kernel
theorem dX0_question_107 : decode cX0_question 107 = .ok (.getfield 61, 3) := by decide +kernel
theorem dX0_question_110 : decode cX0_question 110 = .ok (.iconst 1, 1) := by decide +kernel
theorem dX0_question_111 : decode cX0_question 111 = .ok (.iadd, 1) := by decide +kernel
theorem dX0_question_112 : decode cX0_question 112 = .ok (.putfield 61, 3) := by decide +kernel
theorem dX0_question_115 : decode cX0_question 115 = .ok (.iload 4, 2) := by decide +kernel
theorem dX0_question_117 : decode cX0_question 117 = .ok (.ireturn, 1) := by decide +kernel
theorem dX0_key_0 : decode cX0_key 0 = .ok (.aload_n 0, 1) := by decide +kernel
theorem dX0_key_1 : decode cX0_key 1 = .ok (.iload_n 1, 1) := by decide +kernel
theorem dX0_key_2 : decode cX0_key 2 = .ok (.invokevirtual 68, 3) := by decide +kernel
theorem dX0_key_5 : decode cX0_key 5 = .ok (.ifCond .ne 5, 3) := by decide +kernel
theorem dX0_key_8 : decode cX0_key 8 = .ok (.iconst (-1), 1) := by decide +kernel
theorem dX0_key_9 : decode cX0_key 9 = .ok (.ireturn, 1) := by decide +kernel
theorem dX0_key_10 : decode cX0_key 10 = .ok (.iload_n 2, 1) := by decide +kernel
theorem dX0_key_11 : decode cX0_key 11 = .ok (.invokestatic 57, 3) := by decide +kernel
theorem dX0_key_14 : decode cX0_key 14 = .ok (.ifCond .ne 6, 3) := by decide +kernel
theorem dX0_key_17 : decode cX0_key 17 = .ok (.bipush (-2), 2) := by decide +kernel
theorem dX0_key_19 : decode cX0_key 19 = .ok (.ireturn, 1) := by decide +kernel
theorem dX0_key_20 : decode cX0_key 20 = .ok (.aload_n 0, 1) := by decide +kernel
theorem dX0_key_21 : decode cX0_key 21 = .ok (.getfield 11, 3) := by decide +kernel
theorem dX0_key_24 : decode cX0_key 24 = .ok (.iload_n 1, 1) := by decide +kernel
theorem dX0_key_25 : decode cX0_key 25 = .ok (.iaload, 1) := by decide +kernel
theorem dX0_key_26 : decode cX0_key 26 = .ok (.iconst 1, 1) := by decide +kernel
theorem dX0_key_27 : decode cX0_key 27 = .ok (.if_icmp .eq 6, 3) := by decide +kernel
theorem dX0_key_30 : decode cX0_key 30 = .ok (.bipush (-3), 2) := by decide +kernel
theorem dX0_key_32 : decode cX0_key 32 = .ok (.ireturn, 1) := by decide +kernel
theorem dX0_key_33 : decode cX0_key 33 = .ok (.aload_n 0, 1) := by decide +kernel
theorem dX0_key_34 : decode cX0_key 34 = .ok (.getfield 18, 3) := by decide +kernel
theorem dX0_key_37 : decode cX0_key 37 = .ok (.iload_n 1, 1) := by decide +kernel
theorem dX0_key_38 : decode cX0_key 38 = .ok (.iaload, 1) := by decide +kernel
theorem dX0_key_39 : decode cX0_key 39 = .ok (.istore_n 3, 1) := by decide +kernel
theorem dX0_key_40 : decode cX0_key 40 = .ok (.aload_n 0, 1) := by decide +kernel
theorem dX0_key_41 : decode cX0_key 41 = .ok (.getfield 18, 3) := by decide +kernel
theorem dX0_key_44 : decode cX0_key 44 = .ok (.iload_n 1, 1) := by decide +kernel
theorem dX0_key_45 : decode cX0_key 45 = .ok (.iload_n 2, 1) := by decide +kernel
theorem dX0_key_46 : decode cX0_key 46 = .ok (.iastore, 1) := by decide +kernel
theorem dX0_key_47 : decode cX0_key 47 = .ok (.iload_n 3, 1) := by decide +kernel
theorem dX0_key_48 : decode cX0_key 48 = .ok (.ireturn, 1) := by decide +kernel
theorem dX0_strike_0 : decode cX0_strike 0 = .ok (.aload_n 0, 1) := by decide +kernel
theorem dX0_strike_1 : decode cX0_strike 1 = .ok (.iload_n 1, 1) := by decide +kernel
theorem dX0_strike_2 : decode cX0_strike 2 = .ok (.invokevirtual 68, 3) := by decide +kernel
theorem dX0_strike_5 : decode cX0_strike 5 = .ok (.ifCond .ne 5, 3) := by decide +kernel
theorem dX0_strike_8 : decode cX0_strike 8 = .ok (.iconst (-1), 1) := by decide +kernel
theorem dX0_strike_9 : decode cX0_strike 9 = .ok (.ireturn, 1) := by decide +kernel
theorem dX0_strike_10 : decode cX0_strike 10 = .ok (.iload_n 2, 1) := by decide +kernel
theorem dX0_strike_11 : decode cX0_strike 11 = .ok (.ifCond .eq 11, 3) := by decide +kernel
theorem dX0_strike_14 : decode cX0_strike 14 = .ok (.iload_n 2, 1) := by decide +kernel
theorem dX0_strike_15 : decode cX0_strike 15 = .ok (.iconst 1, 1) := by decide +kernel
theorem dX0_strike_16 : decode cX0_strike 16 = .ok (.if_icmp .eq 6, 3) := by decide +kernel
theorem dX0_strike_19 : decode cX0_strike 19 = .ok (.bipush (-2), 2) := by decide +kernel
theorem dX0_strike_21 : decode cX0_strike 21 = .ok (.ireturn, 1) := by decide +kernel
theorem dX0_strike_22 : decode cX0_strike 22 = .ok (.aload_n 0, 1) := by decide +kernel
theorem dX0_strike_23 : decode cX0_strike 23 = .ok (.getfield 71, 3) := by decide +kernel
theorem dX0_strike_26 : decode cX0_strike 26 = .ok (.iload_n 1, 1) := by decide +kernel
theorem dX0_strike_27 : decode cX0_strike 27 = .ok (.invokestatic 74, 3) := by decide +kernel
theorem dX0_strike_30 : decode cX0_strike 30 = .ok (.ifCond .eq 7, 3) := by decide +kernel
theorem dX0_strike_33 : decode cX0_strike 33 = .ok (.iconst 1, 1) := by decide +kernel
theorem dX0_strike_34 : decode cX0_strike 34 = .ok (.goto 4, 3) := by decide +kernel
theorem dX0_strike_37 : decode cX0_strike 37 = .ok (.iconst 0, 1) := by decide +kernel
theorem dX0_strike_38 : decode cX0_strike 38 = .ok (.istore_n 3, 1) := by decide +kernel
theorem dX0_strike_39 : decode cX0_strike 39 = .ok (.aload_n 0, 1) := by decide +kernel
theorem dX0_strike_40 : decode cX0_strike 40 = .ok (.aload_n 0, 1) := by decide +kernel
theorem dX0_strike_41 : decode cX0_strike 41 = .ok (.getfield 71, 3) := by decide +kernel
theorem dX0_strike_44 : decode cX0_strike 44 = .ok (.iconst 1, 1) := by decide +kernel
theorem dX0_strike_45 : decode cX0_strike 45 = .ok (.iload_n 1, 1) := by decide +kernel
theorem dX0_strike_46 : decode cX0_strike 46 = .ok (.ishl, 1) := by decide +kernel
theorem dX0_strike_47 : decode cX0_strike 47 = .ok (.iconst (-1), 1) := by decide +kernel
theorem dX0_strike_48 : decode cX0_strike 48 = .ok (.ixor, 1) := by decide +kernel
theorem dX0_strike_49 : decode cX0_strike 49 = .ok (.iand, 1) := by decide +kernel
theorem dX0_strike_50 : decode cX0_strike 50 = .ok (.iload_n 2, 1) := by decide +kernel
theorem dX0_strike_51 : decode cX0_strike 51 = .ok (.iload_n 1, 1) := by decide +kernel
theorem dX0_strike_52 : decode cX0_strike 52 = .ok (.ishl, 1) := by decide +kernel
theorem dX0_strike_53 : decode cX0_strike 53 = .ok (.ior, 1) := by decide +kernel
theorem dX0_strike_54 : decode cX0_strike 54 = .ok (.putfield 71, 3) := by decide +kernel
theorem dX0_strike_57 : decode cX0_strike 57 = .ok (.iload_n 3, 1) := by decide +kernel
theorem dX0_strike_58 : decode cX0_strike 58 = .ok (.ireturn, 1) := by decide +kernel
theorem dX0_paper_0 : decode cX0_paper 0 = .ok (.aload_n 0, 1) := by decide +kernel
theorem dX0_paper_1 : decode cX0_paper 1 = .ok (.getfield 78, 3) := by decide +kernel
theorem dX0_paper_4 : decode cX0_paper 4 = .ok (.bipush 8, 2) := by decide +kernel
theorem dX0_paper_6 : decode cX0_paper 6 = .ok (.if_icmp .lt 6, 3) := by decide +kernel
theorem dX0_paper_9 : decode cX0_paper 9 = .ok (.bipush (-4), 2) := by decide +kernel
theorem dX0_paper_11 : decode cX0_paper 11 = .ok (.ireturn, 1) := by decide +kernel
theorem dX0_paper_12 : decode cX0_paper 12 = .ok (.aload_n 0, 1) := by decide +kernel
theorem dX0_paper_13 : decode cX0_paper 13 = .ok (.getfield 78, 3) := by decide +kernel
theorem dX0_paper_16 : decode cX0_paper 16 = .ok (.istore_n 1, 1) := by decide +kernel
theorem dX0_paper_17 : decode cX0_paper 17 = .ok (.aload_n 0, 1) := by decide +kernel
theorem dX0_paper_18 : decode cX0_paper 18 = .ok (.dup, 1) := by decide +kernel
theorem dX0_paper_19 : decode cX0_paper 19 = .ok (.getfield 78, 3) := by decide +kernel
theorem dX0_paper_22 : decode cX0_paper 22 = .ok (.iconst 1, 1) := by decide +kernel
theorem dX0_paper_23 : decode cX0_paper 23 = .ok (.iadd, 1) := by decide +kernel
theorem dX0_paper_24 : decode cX0_paper 24 = .ok (.putfield 78, 3) := by decide +kernel
theorem dX0_paper_27 : decode cX0_paper 27 = .ok (.iload_n 1, 1) := by decide +kernel
theorem dX0_paper_28 : decode cX0_paper 28 = .ok (.ireturn, 1) := by decide +kernel
theorem dX0_put_0 : decode cX0_put 0 = .ok (.aload_n 0, 1) := by decide +kernel
theorem dX0_put_1 : decode cX0_put 1 = .ok (.iload_n 1, 1) := by decide +kernel
theorem dX0_put_2 : decode cX0_put 2 = .ok (.invokevirtual 81, 3) := by decide +kernel
theorem dX0_put_5 : decode cX0_put 5 = .ok (.ifCond .eq 11, 3) := by decide +kernel
theorem dX0_put_8 : decode cX0_put 8 = .ok (.aload_n 0, 1) := by decide +kernel
theorem dX0_put_9 : decode cX0_put 9 = .ok (.iload_n 2, 1) := by decide +kernel
theorem dX0_put_10 : decode cX0_put 10 = .ok (.invokevirtual 68, 3) := by decide +kernel
theorem dX0_put_13 : decode cX0_put 13 = .ok (.ifCond .ne 5, 3) := by decide +kernel
theorem dX0_put_16 : decode cX0_put 16 = .ok (.iconst (-1), 1) := by decide +kernel
theorem dX0_put_17 : decode cX0_put 17 = .ok (.ireturn, 1) := by decide +kernel
theorem dX0_put_18 : decode cX0_put 18 = .ok (.aload_n 0, 1) := by decide +kernel
theorem dX0_put_19 : decode cX0_put 19 = .ok (.getfield 24, 3) := by decide +kernel
theorem dX0_put_22 : decode cX0_put 22 = .ok (.iload_n 1, 1) := by decide +kernel
theorem dX0_put_23 : decode cX0_put 23 = .ok (.iaload, 1) := by decide +kernel
theorem dX0_put_24 : decode cX0_put 24 = .ok (.iload_n 2, 1) := by decide +kernel
theorem dX0_put_25 : decode cX0_put 25 = .ok (.invokestatic 74, 3) := by decide +kernel
theorem dX0_put_28 : decode cX0_put 28 = .ok (.ifCond .ne 11, 3) := by decide +kernel
theorem dX0_put_31 : decode cX0_put 31 = .ok (.aload_n 0, 1) := by decide +kernel
theorem dX0_put_32 : decode cX0_put 32 = .ok (.iload_n 1, 1) := by decide +kernel
theorem dX0_put_33 : decode cX0_put 33 = .ok (.invokevirtual 84, 3) := by decide +kernel
theorem dX0_put_36 : decode cX0_put 36 = .ok (.ifCond .eq 6, 3) := by decide +kernel
theorem dX0_put_39 : decode cX0_put 39 = .ok (.bipush (-3), 2) := by decide +kernel
theorem dX0_put_41 : decode cX0_put 41 = .ok (.ireturn, 1) := by decide +kernel
theorem dX0_put_42 : decode cX0_put 42 = .ok (.aload_n 0, 1) := by decide +kernel
theorem dX0_put_43 : decode cX0_put 43 = .ok (.getfield 21, 3) := by decide +kernel
theorem dX0_put_46 : decode cX0_put 46 = .ok (.iload_n 1, 1) := by decide +kernel
theorem dX0_put_47 : decode cX0_put 47 = .ok (.iaload, 1) := by decide +kernel
theorem dX0_put_48 : decode cX0_put 48 = .ok (.istore_n 3, 1) := by decide +kernel
theorem dX0_put_49 : decode cX0_put 49 = .ok (.iload_n 3, 1) := by decide +kernel
theorem dX0_put_50 : decode cX0_put 50 = .ok (.bipush 12, 2) := by decide +kernel
theorem dX0_put_52 : decode cX0_put 52 = .ok (.if_icmp .lt 6, 3) := by decide +kernel
theorem dX0_put_55 : decode cX0_put 55 = .ok (.bipush (-4), 2) := by decide +kernel
theorem dX0_put_57 : decode cX0_put 57 = .ok (.ireturn, 1) := by decide +kernel
theorem dX0_put_58 : decode cX0_put 58 = .ok (.aload_n 0, 1) := by decide +kernel
theorem dX0_put_59 : decode cX0_put 59 = .ok (.getfield 27, 3) := by decide +kernel
theorem dX0_put_62 : decode cX0_put 62 = .ok (.iload_n 1, 1) := by decide +kernel
theorem dX0_put_63 : decode cX0_put 63 = .ok (.bipush 12, 2) := by decide +kernel
theorem dX0_put_65 : decode cX0_put 65 = .ok (.imul, 1) := by decide +kernel
theorem dX0_put_66 : decode cX0_put 66 = .ok (.iload_n 3, 1) := by decide +kernel
theorem dX0_put_67 : decode cX0_put 67 = .ok (.iadd, 1) := by decide +kernel
theorem dX0_put_68 : decode cX0_put 68 = .ok (.iload_n 2, 1) := by decide +kernel
theorem dX0_put_69 : decode cX0_put 69 = .ok (.iastore, 1) := by decide +kernel
theorem dX0_put_70 : decode cX0_put 70 = .ok (.aload_n 0, 1) := by decide +kernel
theorem dX0_put_71 : decode cX0_put 71 = .ok (.getfield 24, 3) := by decide +kernel
theorem dX0_put_74 : decode cX0_put 74 = .ok (.iload_n 1, 1) := by decide +kernel
theorem dX0_put_75 : decode cX0_put 75 = .ok (.dup2, 1) := by decide +kernel
theorem dX0_put_76 : decode cX0_put 76 = .ok (.iaload, 1) := by decide +kernel
theorem dX0_put_77 : decode cX0_put 77 = .ok (.iconst 1, 1) := by decide +kernel
theorem dX0_put_78 : decode cX0_put 78 = .ok (.iload_n 2, 1) := by decide +kernel
theorem dX0_put_79 : decode cX0_put 79 = .ok (.ishl, 1) := by decide +kernel
theorem dX0_put_80 : decode cX0_put 80 = .ok (.ior, 1) := by decide +kernel
theorem dX0_put_81 : decode cX0_put 81 = .ok (.iastore, 1) := by decide +kernel
theorem dX0_put_82 : decode cX0_put 82 = .ok (.aload_n 0, 1) := by decide +kernel
theorem dX0_put_83 : decode cX0_put 83 = .ok (.getfield 21, 3) := by decide +kernel
theorem dX0_put_86 : decode cX0_put 86 = .ok (.iload_n 1, 1) := by decide +kernel
theorem dX0_put_87 : decode cX0_put 87 = .ok (.dup2, 1) := by decide +kernel
theorem dX0_put_88 : decode cX0_put 88 = .ok (.iaload, 1) := by decide +kernel
theorem dX0_put_89 : decode cX0_put 89 = .ok (.iconst 1, 1) := by decide +kernel
theorem dX0_put_90 : decode cX0_put 90 = .ok (.iadd, 1) := by decide +kernel
theorem dX0_put_91 : decode cX0_put 91 = .ok (.iastore, 1) := by decide +kernel
theorem dX0_put_92 : decode cX0_put 92 = .ok (.iload_n 3, 1) := by decide +kernel
theorem dX0_put_93 : decode cX0_put 93 = .ok (.ireturn, 1) := by decide +kernel
theorem dX0_at_0 : decode cX0_at 0 = .ok (.aload_n 0, 1) := by decide +kernel
theorem dX0_at_1 : decode cX0_at 1 = .ok (.iload_n 1, 1) := by decide +kernel
theorem dX0_at_2 : decode cX0_at 2 = .ok (.invokevirtual 81, 3) := by decide +kernel
theorem dX0_at_5 : decode cX0_at 5 = .ok (.ifCond .eq 17, 3) := by decide +kernel
theorem dX0_at_8 : decode cX0_at 8 = .ok (.iload_n 2, 1) := by decide +kernel
theorem dX0_at_9 : decode cX0_at 9 = .ok (.ifCond .lt 13, 3) := by decide +kernel
theorem dX0_at_12 : decode cX0_at 12 = .ok (.iload_n 2, 1) := by decide +kernel
theorem dX0_at_13 : decode cX0_at 13 = .ok (.aload_n 0, 1) := by decide +kernel
theorem dX0_at_14 : decode cX0_at 14 = .ok (.getfield 21, 3) := by decide +kernel
theorem dX0_at_17 : decode cX0_at 17 = .ok (.iload_n 1, 1) := by decide +kernel
theorem dX0_at_18 : decode cX0_at 18 = .ok (.iaload, 1) := by decide +kernel
theorem dX0_at_19 : decode cX0_at 19 = .ok (.if_icmp .lt 5, 3) := by decide +kernel
theorem dX0_at_22 : decode cX0_at 22 = .ok (.iconst (-1), 1) := by decide +kernel
theorem dX0_at_23 : decode cX0_at 23 = .ok (.ireturn, 1) := by decide +kernel
theorem dX0_at_24 : decode cX0_at 24 = .ok (.aload_n 0, 1) := by decide +kernel
theorem dX0_at_25 : decode cX0_at 25 = .ok (.getfield 27, 3) := by decide +kernel
theorem dX0_at_28 : decode cX0_at 28 = .ok (.iload_n 1, 1) := by decide +kernel
theorem dX0_at_29 : decode cX0_at 29 = .ok (.bipush 12, 2) := by decide +kernel
theorem dX0_at_31 : decode cX0_at 31 = .ok (.imul, 1) := by decide +kernel
theorem dX0_at_32 : decode cX0_at 32 = .ok (.iload_n 2, 1) := by decide +kernel
theorem dX0_at_33 : decode cX0_at 33 = .ok (.iadd, 1) := by decide +kernel
theorem dX0_at_34 : decode cX0_at 34 = .ok (.iaload, 1) := by decide +kernel
theorem dX0_at_35 : decode cX0_at 35 = .ok (.ireturn, 1) := by decide +kernel
theorem dX0_pupil_0 : decode cX0_pupil 0 = .ok (.aload_n 0, 1) := by decide +kernel
theorem dX0_pupil_1 : decode cX0_pupil 1 = .ok (.iload_n 1, 1) := by decide +kernel
theorem dX0_pupil_2 : decode cX0_pupil 2 = .ok (.invokevirtual 81, 3) := by decide +kernel
theorem dX0_pupil_5 : decode cX0_pupil 5 = .ok (.ifCond .eq 10, 3) := by decide +kernel
theorem dX0_pupil_8 : decode cX0_pupil 8 = .ok (.iload_n 2, 1) := by decide +kernel
theorem dX0_pupil_9 : decode cX0_pupil 9 = .ok (.invokestatic 87, 3) := by decide +kernel
theorem dX0_pupil_12 : decode cX0_pupil 12 = .ok (.ifCond .ne 5, 3) := by decide +kernel
theorem dX0_pupil_15 : decode cX0_pupil 15 = .ok (.iconst (-1), 1) := by decide +kernel
theorem dX0_pupil_16 : decode cX0_pupil 16 = .ok (.ireturn, 1) := by decide +kernel
theorem dX0_pupil_17 : decode cX0_pupil 17 = .ok (.aload_n 0, 1) := by decide +kernel
theorem dX0_pupil_18 : decode cX0_pupil 18 = .ok (.getfield 90, 3) := by decide +kernel
theorem dX0_pupil_21 : decode cX0_pupil 21 = .ok (.bipush 60, 2) := by decide +kernel
theorem dX0_pupil_23 : decode cX0_pupil 23 = .ok (.if_icmp .lt 6, 3) := by decide +kernel
theorem dX0_pupil_26 : decode cX0_pupil 26 = .ok (.bipush (-4), 2) := by decide +kernel
theorem dX0_pupil_28 : decode cX0_pupil 28 = .ok (.ireturn, 1) := by decide +kernel
theorem dX0_pupil_29 : decode cX0_pupil 29 = .ok (.aload_n 0, 1) := by decide +kernel
theorem dX0_pupil_30 : decode cX0_pupil 30 = .ok (.getfield 90, 3) := by decide +kernel
theorem dX0_pupil_33 : decode cX0_pupil 33 = .ok (.istore_n 3, 1) := by decide +kernel
theorem dX0_pupil_34 : decode cX0_pupil 34 = .ok (.aload_n 0, 1) := by decide +kernel
theorem dX0_pupil_35 : decode cX0_pupil 35 = .ok (.getfield 30, 3) := by decide +kernel
theorem dX0_pupil_38 : decode cX0_pupil 38 = .ok (.iload_n 3, 1) := by decide +kernel
theorem dX0_pupil_39 : decode cX0_pupil 39 = .ok (.iload_n 1, 1) := by decide +kernel
theorem dX0_pupil_40 : decode cX0_pupil 40 = .ok (.iastore, 1) := by decide +kernel
theorem dX0_pupil_41 : decode cX0_pupil 41 = .ok (.aload_n 0, 1) := by decide +kernel
theorem dX0_pupil_42 : decode cX0_pupil 42 = .ok (.getfield 33, 3) := by decide +kernel
theorem dX0_pupil_45 : decode cX0_pupil 45 = .ok (.iload_n 3, 1) := by decide +kernel
theorem dX0_pupil_46 : decode cX0_pupil 46 = .ok (.iload_n 2, 1) := by decide +kernel
theorem dX0_pupil_47 : decode cX0_pupil 47 = .ok (.iastore, 1) := by decide +kernel
theorem dX0_pupil_48 : decode cX0_pupil 48 = .ok (.aload_n 0, 1) := by decide +kernel
theorem dX0_pupil_49 : decode cX0_pupil 49 = .ok (.dup, 1) := by decide +kernel
theorem dX0_pupil_50 : decode cX0_pupil 50 = .ok (.getfield 90, 3) := by decide +kernel
theorem dX0_pupil_53 : decode cX0_pupil 53 = .ok (.iconst 1, 1) := by decide +kernel
theorem dX0_pupil_54 : decode cX0_pupil 54 = .ok (.iadd, 1) := by decide +kernel
theorem dX0_pupil_55 : decode cX0_pupil 55 = .ok (.putfield 90, 3) := by decide +kernel
theorem dX0_pupil_58 : decode cX0_pupil 58 = .ok (.iload_n 3, 1) := by decide +kernel
theorem dX0_pupil_59 : decode cX0_pupil 59 = .ok (.ireturn, 1) := by decide +kernel
theorem dX0_answer_0 : decode cX0_answer 0 = .ok (.aload_n 0, 1) := by decide +kernel
theorem dX0_answer_1 : decode cX0_answer 1 = .ok (.iload_n 1, 1) := by decide +kernel
theorem dX0_answer_2 : decode cX0_answer 2 = .ok (.iload_n 2, 1) := by decide +kernel
theorem dX0_answer_3 : decode cX0_answer 3 = .ok (.invokevirtual 93, 3) := by decide +kernel
theorem dX0_answer_6 : decode cX0_answer 6 = .ok (.istore 4, 2) := by decide +kernel
theorem dX0_answer_8 : decode cX0_answer 8 = .ok (.iload 4, 2) := by decide +kernel
theorem dX0_answer_10 : decode cX0_answer 10 = .ok (.iconst (-1), 1) := by decide +kernel
theorem dX0_answer_11 : decode cX0_answer 11 = .ok (.if_icmp .ne 5, 3) := by decide +kernel
theorem dX0_answer_14 : decode cX0_answer 14 = .ok (.iconst (-1), 1) := by decide +kernel
theorem dX0_answer_15 : decode cX0_answer 15 = .ok (.ireturn, 1) := by decide +kernel
theorem dX0_answer_16 : decode cX0_answer 16 = .ok (.aload_n 0, 1) := by decide +kernel
theorem dX0_answer_17 : decode cX0_answer 17 = .ok (.iload_n 2, 1) := by decide +kernel
theorem dX0_answer_18 : decode cX0_answer 18 = .ok (.iload_n 3, 1) := by decide +kernel
theorem dX0_answer_19 : decode cX0_answer 19 = .ok (.invokevirtual 97, 3) := by decide +kernel
theorem dX0_answer_22 : decode cX0_answer 22 = .ok (.ifCond .ne 6, 3) := by decide +kernel
theorem dX0_answer_25 : decode cX0_answer 25 = .ok (.bipush (-2), 2) := by decide +kernel
theorem dX0_answer_27 : decode cX0_answer 27 = .ok (.ireturn, 1) := by decide +kernel
theorem dX0_answer_28 : decode cX0_answer 28 = .ok (.aload_n 0, 1) := by decide +kernel
theorem dX0_answer_29 : decode cX0_answer 29 = .ok (.getfield 36, 3) := by decide +kernel
theorem dX0_answer_32 : decode cX0_answer 32 = .ok (.iload_n 1, 1) := by decide +kernel
theorem dX0_answer_33 : decode cX0_answer 33 = .ok (.bipush 12, 2) := by decide +kernel
theorem dX0_answer_35 : decode cX0_answer 35 = .ok (.imul, 1) := by decide +kernel
theorem dX0_answer_36 : decode cX0_answer 36 = .ok (.iload 4, 2) := by decide +kernel
theorem dX0_answer_38 : decode cX0_answer 38 = .ok (.iadd, 1) := by decide +kernel
theorem dX0_answer_39 : decode cX0_answer 39 = .ok (.iload_n 3, 1) := by decide +kernel
theorem dX0_answer_40 : decode cX0_answer 40 = .ok (.iastore, 1) := by decide +kernel
theorem dX0_answer_41 : decode cX0_answer 41 = .ok (.aload_n 0, 1) := by decide +kernel
theorem dX0_answer_42 : decode cX0_answer 42 = .ok (.iload_n 2, 1) := by decide +kernel
theorem dX0_answer_43 : decode cX0_answer 43 = .ok (.iload_n 3, 1) := by decide +kernel
theorem dX0_answer_44 : decode cX0_answer 44 = .ok (.invokevirtual 100, 3) := by decide +kernel
theorem dX0_answer_47 : decode cX0_answer 47 = .ok (.ireturn, 1) := by decide +kernel
theorem dX0_gap_0 : decode cX0_gap 0 = .ok (.aload_n 0, 1) := by decide +kernel
theorem dX0_gap_1 : decode cX0_gap 1 = .ok (.iload_n 1, 1) := by decide +kernel
theorem dX0_gap_2 : decode cX0_gap 2 = .ok (.iload_n 2, 1) := by decide +kernel
theorem dX0_gap_3 : decode cX0_gap 3 = .ok (.invokevirtual 93, 3) := by decide +kernel
theorem dX0_gap_6 : decode cX0_gap 6 = .ok (.istore_n 3, 1) := by decide +kernel
theorem dX0_gap_7 : decode cX0_gap 7 = .ok (.iload_n 3, 1) := by decide +kernel
theorem dX0_gap_8 : decode cX0_gap 8 = .ok (.iconst (-1), 1) := by decide +kernel
theorem dX0_gap_9 : decode cX0_gap 9 = .ok (.if_icmp .ne 5, 3) := by decide +kernel
theorem dX0_gap_12 : decode cX0_gap 12 = .ok (.iconst (-1), 1) := by decide +kernel
theorem dX0_gap_13 : decode cX0_gap 13 = .ok (.ireturn, 1) := by decide +kernel
theorem dX0_gap_14 : decode cX0_gap 14 = .ok (.aload_n 0, 1) := by decide +kernel
theorem dX0_gap_15 : decode cX0_gap 15 = .ok (.getfield 36, 3) := by decide +kernel
theorem dX0_gap_18 : decode cX0_gap 18 = .ok (.iload_n 1, 1) := by decide +kernel
theorem dX0_gap_19 : decode cX0_gap 19 = .ok (.bipush 12, 2) := by decide +kernel
theorem dX0_gap_21 : decode cX0_gap 21 = .ok (.imul, 1) := by decide +kernel
theorem dX0_gap_22 : decode cX0_gap 22 = .ok (.iload_n 3, 1) := by decide +kernel
theorem dX0_gap_23 : decode cX0_gap 23 = .ok (.iadd, 1) := by decide +kernel
theorem dX0_gap_24 : decode cX0_gap 24 = .ok (.iaload, 1) := by decide +kernel
theorem dX0_gap_25 : decode cX0_gap 25 = .ok (.istore 4, 2) := by decide +kernel
theorem dX0_gap_27 : decode cX0_gap 27 = .ok (.aload_n 0, 1) := by decide +kernel
theorem dX0_gap_28 : decode cX0_gap 28 = .ok (.getfield 36, 3) := by decide +kernel
theorem dX0_gap_31 : decode cX0_gap 31 = .ok (.iload_n 1, 1) := by decide +kernel
theorem dX0_gap_32 : decode cX0_gap 32 = .ok (.bipush 12, 2) := by decide +kernel
theorem dX0_gap_34 : decode cX0_gap 34 = .ok (.imul, 1) := by decide +kernel
theorem dX0_gap_35 : decode cX0_gap 35 = .ok (.iload_n 3, 1) := by decide +kernel
theorem dX0_gap_36 : decode cX0_gap 36 = .ok (.iadd, 1) := by decide +kernel
theorem dX0_gap_37 : decode cX0_gap 37 = .ok (.iconst (-1), 1) := by decide +kernel
theorem dX0_gap_38 : decode cX0_gap 38 = .ok (.iastore, 1) := by decide +kernel
theorem dX0_gap_39 : decode cX0_gap 39 = .ok (.iload 4, 2) := by decide +kernel
theorem dX0_gap_41 : decode cX0_gap 41 = .ok (.ireturn, 1) := by decide +kernel
theorem dX0_row_0 : decode cX0_row 0 = .ok (.aload_n 0, 1) := by decide +kernel
theorem dX0_row_1 : decode cX0_row 1 = .ok (.iload_n 1, 1) := by decide +kernel
theorem dX0_row_2 : decode cX0_row 2 = .ok (.invokevirtual 103, 3) := by decide +kernel
theorem dX0_row_5 : decode cX0_row 5 = .ok (.ifCond .ne 5, 3) := by decide +kernel
theorem dX0_row_8 : decode cX0_row 8 = .ok (.iconst (-1), 1) := by decide +kernel
theorem dX0_row_9 : decode cX0_row 9 = .ok (.ireturn, 1) := by decide +kernel
theorem dX0_row_10 : decode cX0_row 10 = .ok (.aload_n 0, 1) := by decide +kernel
theorem dX0_row_11 : decode cX0_row 11 = .ok (.getfield 30, 3) := by decide +kernel
theorem dX0_row_14 : decode cX0_row 14 = .ok (.iload_n 1, 1) := by decide +kernel
theorem dX0_row_15 : decode cX0_row 15 = .ok (.iaload, 1) := by decide +kernel
theorem dX0_row_16 : decode cX0_row 16 = .ok (.istore 4, 2) := by decide +kernel
theorem dX0_row_18 : decode cX0_row 18 = .ok (.bipush 8, 2) := by decide +kernel
theorem dX0_row_20 : decode cX0_row 20 = .ok (.aload_n 0, 1) := by decide +kernel
theorem dX0_row_21 : decode cX0_row 21 = .ok (.getfield 21, 3) := by decide +kernel
theorem dX0_row_24 : decode cX0_row 24 = .ok (.iload 4, 2) := by decide +kernel
theorem dX0_row_26 : decode cX0_row 26 = .ok (.iaload, 1) := by decide +kernel
theorem dX0_row_27 : decode cX0_row 27 = .ok (.invokestatic 106, 3) := by decide +kernel
theorem dX0_row_30 : decode cX0_row 30 = .ok (.istore 5, 2) := by decide +kernel
theorem dX0_row_32 : decode cX0_row 32 = .ok (.iconst 0, 1) := by decide +kernel
theorem dX0_row_33 : decode cX0_row 33 = .ok (.istore 6, 2) := by decide +kernel
theorem dX0_row_35 : decode cX0_row 35 = .ok (.iload 6, 2) := by decide +kernel
theorem dX0_row_37 : decode cX0_row 37 = .ok (.iload 5, 2) := by decide +kernel
theorem dX0_row_39 : decode cX0_row 39 = .ok (.if_icmp .ge 102, 3) := by decide +kernel
theorem dX0_row_42 : decode cX0_row 42 = .ok (.lload_n 2, 1) := by decide +kernel
theorem dX0_row_43 : decode cX0_row 43 = .ok (.bipush 8, 2) := by decide +kernel
theorem dX0_row_45 : decode cX0_row 45 = .ok (.bipush 7, 2) := by decide +kernel
theorem dX0_row_47 : decode cX0_row 47 = .ok (.iload 6, 2) := by decide +kernel
theorem dX0_row_49 : decode cX0_row 49 = .ok (.isub, 1) := by decide +kernel
theorem dX0_row_50 : decode cX0_row 50 = .ok (.imul, 1) := by decide +kernel
theorem dX0_row_51 : decode cX0_row 51 = .ok (.lushr, 1) := by decide +kernel
theorem dX0_row_52 : decode cX0_row 52 = .ok (.l2i, 1) := by decide +kernel
theorem dX0_row_53 : decode cX0_row 53 = .ok (.sipush 255, 3) := by decide +kernel
theorem dX0_row_56 : decode cX0_row 56 = .ok (.iand, 1) := by decide +kernel
theorem dX0_row_57 : decode cX0_row 57 = .ok (.istore 7, 2) := by decide +kernel
theorem dX0_row_59 : decode cX0_row 59 = .ok (.iload 7, 2) := by decide +kernel
theorem dX0_row_61 : decode cX0_row 61 = .ok (.sipush 255, 3) := by decide +kernel
theorem dX0_row_64 : decode cX0_row 64 = .ok (.if_icmp .ne 7, 3) := by decide +kernel
theorem dX0_row_67 : decode cX0_row 67 = .ok (.iconst 1, 1) := by decide +kernel
theorem dX0_row_68 : decode cX0_row 68 = .ok (.goto 4, 3) := by decide +kernel
theorem dX0_row_71 : decode cX0_row 71 = .ok (.iconst 0, 1) := by decide +kernel
theorem dX0_row_72 : decode cX0_row 72 = .ok (.istore 8, 2) := by decide +kernel
theorem dX0_row_74 : decode cX0_row 74 = .ok (.iload 7, 2) := by decide +kernel
theorem dX0_row_76 : decode cX0_row 76 = .ok (.sipush 254, 3) := by decide +kernel
theorem dX0_row_79 : decode cX0_row 79 = .ok (.if_icmp .eq 30, 3) := by decide +kernel
theorem dX0_row_82 : decode cX0_row 82 = .ok (.iload 8, 2) := by decide +kernel
theorem dX0_row_84 : decode cX0_row 84 = .ok (.ifCond .ne 28, 3) := by decide +kernel
theorem dX0_row_87 : decode cX0_row 87 = .ok (.aload_n 0, 1) := by decide +kernel
theorem dX0_row_88 : decode cX0_row 88 = .ok (.aload_n 0, 1) := by decide +kernel
theorem dX0_row_89 : decode cX0_row 89 = .ok (.getfield 27, 3) := by decide +kernel
theorem dX0_row_92 : decode cX0_row 92 = .ok (.iload 4, 2) := by decide +kernel
theorem dX0_row_94 : decode cX0_row 94 = .ok (.bipush 12, 2) := by decide +kernel
theorem dX0_row_96 : decode cX0_row 96 = .ok (.imul, 1) := by decide +kernel
theorem dX0_row_97 : decode cX0_row 97 = .ok (.iload 6, 2) := by decide +kernel
theorem dX0_row_99 : decode cX0_row 99 = .ok (.iadd, 1) := by decide +kernel
theorem dX0_row_100 : decode cX0_row 100 = .ok (.iaload, 1) := by decide +kernel
theorem dX0_row_101 : decode cX0_row 101 = .ok (.iload 7, 2) := by decide +kernel
theorem dX0_row_103 : decode cX0_row 103 = .ok (.invokevirtual 97, 3) := by decide +kernel
theorem dX0_row_106 : decode cX0_row 106 = .ok (.ifCond .ne 6, 3) := by decide +kernel
theorem dX0_row_109 : decode cX0_row 109 = .ok (.iload 6, 2) := by decide +kernel
theorem dX0_row_111 : decode cX0_row 111 = .ok (.ireturn, 1) := by decide +kernel
theorem dX0_row_112 : decode cX0_row 112 = .ok (.aload_n 0, 1) := by decide +kernel
theorem dX0_row_113 : decode cX0_row 113 = .ok (.getfield 36, 3) := by decide +kernel
theorem dX0_row_116 : decode cX0_row 116 = .ok (.iload_n 1, 1) := by decide +kernel
theorem dX0_row_117 : decode cX0_row 117 = .ok (.bipush 12, 2) := by decide +kernel
theorem dX0_row_119 : decode cX0_row 119 = .ok (.imul, 1) := by decide +kernel
theorem dX0_row_120 : decode cX0_row 120 = .ok (.iload 6, 2) := by decide +kernel
theorem dX0_row_122 : decode cX0_row 122 = .ok (.iadd, 1) := by decide +kernel
theorem dX0_row_123 : decode cX0_row 123 = .ok (.iload 8, 2) := by decide +kernel
theorem dX0_row_125 : decode cX0_row 125 = .ok (.ifCond .eq 7, 3) := by decide +kernel
theorem dX0_row_128 : decode cX0_row 128 = .ok (.iconst (-1), 1) := by decide +kernel
theorem dX0_row_129 : decode cX0_row 129 = .ok (.goto 5, 3) := by decide +kernel
theorem dX0_row_132 : decode cX0_row 132 = .ok (.iload 7, 2) := by decide +kernel
theorem dX0_row_134 : decode cX0_row 134 = .ok (.iastore, 1) := by decide +kernel
theorem dX0_row_135 : decode cX0_row 135 = .ok (.iinc 6 1, 3) := by decide +kernel
theorem dX0_row_138 : decode cX0_row 138 = .ok (.goto (-103), 3) := by decide +kernel
theorem dX0_row_141 : decode cX0_row 141 = .ok (.iload 5, 2) := by decide +kernel
theorem dX0_row_143 : decode cX0_row 143 = .ok (.ireturn, 1) := by decide +kernel
theorem dX0_mark_0 : decode cX0_mark 0 = .ok (.aload_n 0, 1) := by decide +kernel
theorem dX0_mark_1 : decode cX0_mark 1 = .ok (.iload_n 1, 1) := by decide +kernel
theorem dX0_mark_2 : decode cX0_mark 2 = .ok (.iload_n 2, 1) := by decide +kernel
theorem dX0_mark_3 : decode cX0_mark 3 = .ok (.invokevirtual 93, 3) := by decide +kernel
theorem dX0_mark_6 : decode cX0_mark 6 = .ok (.istore_n 3, 1) := by decide +kernel
theorem dX0_mark_7 : decode cX0_mark 7 = .ok (.iload_n 3, 1) := by decide +kernel
theorem dX0_mark_8 : decode cX0_mark 8 = .ok (.iconst (-1), 1) := by decide +kernel
theorem dX0_mark_9 : decode cX0_mark 9 = .ok (.if_icmp .ne 7, 3) := by decide +kernel
theorem dX0_mark_12 : decode cX0_mark 12 = .ok (.iconst (-1), 1) := by decide +kernel
theorem dX0_mark_13 : decode cX0_mark 13 = .ok (.goto 9, 3) := by decide +kernel
theorem dX0_mark_16 : decode cX0_mark 16 = .ok (.aload_n 0, 1) := by decide +kernel
theorem dX0_mark_17 : decode cX0_mark 17 = .ok (.iload_n 1, 1) := by decide +kernel
theorem dX0_mark_18 : decode cX0_mark 18 = .ok (.iload_n 3, 1) := by decide +kernel
theorem dX0_mark_19 : decode cX0_mark 19 = .ok (.invokevirtual 111, 3) := by decide +kernel
theorem dX0_mark_22 : decode cX0_mark 22 = .ok (.ireturn, 1) := by decide +kernel
theorem dX0_come_0 : decode cX0_come 0 = .ok (.aload_n 0, 1) := by decide +kernel
theorem dX0_come_1 : decode cX0_come 1 = .ok (.iload_n 1, 1) := by decide +kernel
theorem dX0_come_2 : decode cX0_come 2 = .ok (.iload_n 2, 1) := by decide +kernel
theorem dX0_come_3 : decode cX0_come 3 = .ok (.invokevirtual 93, 3) := by decide +kernel
theorem dX0_come_6 : decode cX0_come 6 = .ok (.istore_n 3, 1) := by decide +kernel
theorem dX0_come_7 : decode cX0_come 7 = .ok (.iload_n 3, 1) := by decide +kernel
theorem dX0_come_8 : decode cX0_come 8 = .ok (.iconst (-1), 1) := by decide +kernel
theorem dX0_come_9 : decode cX0_come 9 = .ok (.if_icmp .ne 5, 3) := by decide +kernel
theorem dX0_come_12 : decode cX0_come 12 = .ok (.iconst (-1), 1) := by decide +kernel
theorem dX0_come_13 : decode cX0_come 13 = .ok (.ireturn, 1) := by decide +kernel
theorem dX0_come_14 : decode cX0_come 14 = .ok (.aload_n 0, 1) := by decide +kernel
theorem dX0_come_15 : decode cX0_come 15 = .ok (.iload_n 1, 1) := by decide +kernel
theorem dX0_come_16 : decode cX0_come 16 = .ok (.iload_n 3, 1) := by decide +kernel
theorem dX0_come_17 : decode cX0_come 17 = .ok (.invokevirtual 114, 3) := by decide +kernel
theorem dX0_come_20 : decode cX0_come 20 = .ok (.ifCond .eq 7, 3) := by decide +kernel
theorem dX0_come_23 : decode cX0_come 23 = .ok (.iconst 1, 1) := by decide +kernel
theorem dX0_come_24 : decode cX0_come 24 = .ok (.goto 4, 3) := by decide +kernel
theorem dX0_come_27 : decode cX0_come 27 = .ok (.iconst 0, 1) := by decide +kernel
theorem dX0_come_28 : decode cX0_come 28 = .ok (.ireturn, 1) := by decide +kernel
theorem dX0_total_0 : decode cX0_total 0 = .ok (.aload_n 0, 1) := by decide +kernel
theorem dX0_total_1 : decode cX0_total 1 = .ok (.iload_n 1, 1) := by decide +kernel
theorem dX0_total_2 : decode cX0_total 2 = .ok (.invokevirtual 103, 3) := by decide +kernel
theorem dX0_total_5 : decode cX0_total 5 = .ok (.ifCond .eq 15, 3) := by decide +kernel
theorem dX0_total_8 : decode cX0_total 8 = .ok (.aload_n 0, 1) := by decide +kernel
theorem dX0_total_9 : decode cX0_total 9 = .ok (.iload_n 1, 1) := by decide +kernel
theorem dX0_total_10 : decode cX0_total 10 = .ok (.aload_n 0, 1) := by decide +kernel
theorem dX0_total_11 : decode cX0_total 11 = .ok (.invokevirtual 117, 3) := by decide +kernel
theorem dX0_total_14 : decode cX0_total 14 = .ok (.invokevirtual 121, 3) := by decide +kernel
theorem dX0_total_17 : decode cX0_total 17 = .ok (.goto 4, 3) := by decide +kernel
theorem dX0_total_20 : decode cX0_total 20 = .ok (.iconst (-1), 1) := by decide +kernel
theorem dX0_total_21 : decode cX0_total 21 = .ok (.ireturn, 1) := by decide +kernel
theorem dX0_easy_0 : decode cX0_easy 0 = .ok (.aload_n 0, 1) := by decide +kernel
theorem dX0_easy_1 : decode cX0_easy 1 = .ok (.iload_n 1, 1) := by decide +kernel
theorem dX0_easy_2 : decode cX0_easy 2 = .ok (.invokevirtual 68, 3) := by decide +kernel
theorem dX0_easy_5 : decode cX0_easy 5 = .ok (.ifCond .eq 10, 3) := by decide +kernel
theorem dX0_easy_8 : decode cX0_easy 8 = .ok (.iload_n 2, 1) := by decide +kernel
theorem dX0_easy_9 : decode cX0_easy 9 = .ok (.invokestatic 124, 3) := by decide +kernel
theorem dX0_easy_12 : decode cX0_easy 12 = .ok (.ifCond .ne 7, 3) := by decide +kernel
theorem dX0_easy_15 : decode cX0_easy 15 = .ok (.ldc2_w 127, 3) := by decide +kernel
theorem dX0_easy_18 : decode cX0_easy 18 = .ok (.lreturn, 1) := by decide +kernel
theorem dX0_easy_19 : decode cX0_easy 19 = .ok (.lconst 0, 1) := by decide +kernel
theorem dX0_easy_20 : decode cX0_easy 20 = .ok (.lstore_n 3, 1) := by decide +kernel
theorem dX0_easy_21 : decode cX0_easy 21 = .ok (.lconst 0, 1) := by decide +kernel
theorem dX0_easy_22 : decode cX0_easy 22 = .ok (.lstore 5, 2) := by decide +kernel
theorem dX0_easy_24 : decode cX0_easy 24 = .ok (.iconst 0, 1) := by decide +kernel
theorem dX0_easy_25 : decode cX0_easy 25 = .ok (.istore 7, 2) := by decide +kernel
theorem dX0_easy_27 : decode cX0_easy 27 = .ok (.iload 7, 2) := by decide +kernel
theorem dX0_easy_29 : decode cX0_easy 29 = .ok (.aload_n 0, 1) := by decide +kernel
theorem dX0_easy_30 : decode cX0_easy 30 = .ok (.getfield 90, 3) := by decide +kernel
theorem dX0_easy_33 : decode cX0_easy 33 = .ok (.if_icmp .ge 42, 3) := by decide +kernel
theorem dX0_easy_36 : decode cX0_easy 36 = .ok (.aload_n 0, 1) := by decide +kernel
theorem dX0_easy_37 : decode cX0_easy 37 = .ok (.iload 7, 2) := by decide +kernel
theorem dX0_easy_39 : decode cX0_easy 39 = .ok (.iload_n 1, 1) := by decide +kernel
theorem dX0_easy_40 : decode cX0_easy 40 = .ok (.invokevirtual 129, 3) := by decide +kernel
theorem dX0_easy_43 : decode cX0_easy 43 = .ok (.istore 8, 2) := by decide +kernel
theorem dX0_easy_45 : decode cX0_easy 45 = .ok (.iload 8, 2) := by decide +kernel
theorem dX0_easy_47 : decode cX0_easy 47 = .ok (.iconst (-1), 1) := by decide +kernel
theorem dX0_easy_48 : decode cX0_easy 48 = .ok (.if_icmp .eq 21, 3) := by decide +kernel
theorem dX0_easy_51 : decode cX0_easy 51 = .ok (.lload_n 3, 1) := by decide +kernel
theorem dX0_easy_52 : decode cX0_easy 52 = .ok (.lconst 1, 1) := by decide +kernel
theorem dX0_easy_53 : decode cX0_easy 53 = .ok (.ladd, 1) := by decide +kernel
theorem dX0_easy_54 : decode cX0_easy 54 = .ok (.lstore_n 3, 1) := by decide +kernel
theorem dX0_easy_55 : decode cX0_easy 55 = .ok (.lload 5, 2) := by decide +kernel
theorem dX0_easy_57 : decode cX0_easy 57 = .ok (.aload_n 0, 1) := by decide +kernel
theorem dX0_easy_58 : decode cX0_easy 58 = .ok (.iload 7, 2) := by decide +kernel
theorem dX0_easy_60 : decode cX0_easy 60 = .ok (.iload 8, 2) := by decide +kernel
theorem dX0_easy_62 : decode cX0_easy 62 = .ok (.invokevirtual 111, 3) := by decide +kernel
theorem dX0_easy_65 : decode cX0_easy 65 = .ok (.i2l, 1) := by decide +kernel
theorem dX0_easy_66 : decode cX0_easy 66 = .ok (.ladd, 1) := by decide +kernel
theorem dX0_easy_67 : decode cX0_easy 67 = .ok (.lstore 5, 2) := by decide +kernel
theorem dX0_easy_69 : decode cX0_easy 69 = .ok (.iinc 7 1, 3) := by decide +kernel
theorem dX0_easy_72 : decode cX0_easy 72 = .ok (.goto (-45), 3) := by decide +kernel
theorem dX0_easy_75 : decode cX0_easy 75 = .ok (.lload_n 3, 1) := by decide +kernel
theorem dX0_easy_76 : decode cX0_easy 76 = .ok (.lconst 0, 1) := by decide +kernel
theorem dX0_easy_77 : decode cX0_easy 77 = .ok (.lcmp, 1) := by decide +kernel
theorem dX0_easy_78 : decode cX0_easy 78 = .ok (.ifCond .ne 12, 3) := by decide +kernel
theorem dX0_easy_81 : decode cX0_easy 81 = .ok (.lconst 0, 1) := by decide +kernel
theorem dX0_easy_82 : decode cX0_easy 82 = .ok (.lconst 1, 1) := by decide +kernel
theorem dX0_easy_83 : decode cX0_easy 83 = .ok (.iload_n 2, 1) := by decide +kernel
theorem dX0_easy_84 : decode cX0_easy 84 = .ok (.invokestatic 132, 3) := by decide +kernel
theorem dX0_easy_87 : decode cX0_easy 87 = .ok (.goto 18, 3) := by decide +kernel
theorem dX0_easy_90 : decode cX0_easy 90 = .ok (.lload 5, 2) := by decide +kernel
theorem dX0_easy_92 : decode cX0_easy 92 = .ok (.aload_n 0, 1) := by decide +kernel
theorem dX0_easy_93 : decode cX0_easy 93 = .ok (.getfield 15, 3) := by decide +kernel
theorem dX0_easy_96 : decode cX0_easy 96 = .ok (.iload_n 1, 1) := by decide +kernel
theorem dX0_easy_97 : decode cX0_easy 97 = .ok (.iaload, 1) := by decide +kernel
theorem dX0_easy_98 : decode cX0_easy 98 = .ok (.i2l, 1) := by decide +kernel
theorem dX0_easy_99 : decode cX0_easy 99 = .ok (.lload_n 3, 1) := by decide +kernel
theorem dX0_easy_100 : decode cX0_easy 100 = .ok (.lmul, 1) := by decide +kernel
theorem dX0_easy_101 : decode cX0_easy 101 = .ok (.iload_n 2, 1) := by decide +kernel
theorem dX0_easy_102 : decode cX0_easy 102 = .ok (.invokestatic 132, 3) := by decide +kernel
theorem dX0_easy_105 : decode cX0_easy 105 = .ok (.lreturn, 1) := by decide +kernel
theorem dX0_sharp_0 : decode cX0_sharp 0 = .ok (.aload_n 0, 1) := by decide +kernel
theorem dX0_sharp_1 : decode cX0_sharp 1 = .ok (.iload_n 1, 1) := by decide +kernel
theorem dX0_sharp_2 : decode cX0_sharp 2 = .ok (.invokevirtual 68, 3) := by decide +kernel
theorem dX0_sharp_5 : decode cX0_sharp 5 = .ok (.ifCond .ne 7, 3) := by decide +kernel
theorem dX0_sharp_8 : decode cX0_sharp 8 = .ok (.ldc2_w 127, 3) := by decide +kernel
theorem dX0_sharp_11 : decode cX0_sharp 11 = .ok (.lreturn, 1) := by decide +kernel
theorem dX0_sharp_12 : decode cX0_sharp 12 = .ok (.aload_n 0, 1) := by decide +kernel
theorem dX0_sharp_13 : decode cX0_sharp 13 = .ok (.invokevirtual 117, 3) := by decide +kernel
theorem dX0_sharp_16 : decode cX0_sharp 16 = .ok (.iconst 1, 1) := by decide +kernel
theorem dX0_sharp_17 : decode cX0_sharp 17 = .ok (.iload_n 1, 1) := by decide +kernel
theorem dX0_sharp_18 : decode cX0_sharp 18 = .ok (.ishl, 1) := by decide +kernel
theorem dX0_sharp_19 : decode cX0_sharp 19 = .ok (.iconst (-1), 1) := by decide +kernel
theorem dX0_sharp_20 : decode cX0_sharp 20 = .ok (.ixor, 1) := by decide +kernel
theorem dX0_sharp_21 : decode cX0_sharp 21 = .ok (.iand, 1) := by decide +kernel
theorem dX0_sharp_22 : decode cX0_sharp 22 = .ok (.istore_n 2, 1) := by decide +kernel
theorem dX0_sharp_23 : decode cX0_sharp 23 = .ok (.lconst 0, 1) := by decide +kernel
theorem dX0_sharp_24 : decode cX0_sharp 24 = .ok (.lstore_n 3, 1) := by decide +kernel
theorem dX0_sharp_25 : decode cX0_sharp 25 = .ok (.lconst 0, 1) := by decide +kernel
theorem dX0_sharp_26 : decode cX0_sharp 26 = .ok (.lstore 5, 2) := by decide +kernel
theorem dX0_sharp_28 : decode cX0_sharp 28 = .ok (.lconst 0, 1) := by decide +kernel
theorem dX0_sharp_29 : decode cX0_sharp 29 = .ok (.lstore 7, 2) := by decide +kernel
theorem dX0_sharp_31 : decode cX0_sharp 31 = .ok (.lconst 0, 1) := by decide +kernel
theorem dX0_sharp_32 : decode cX0_sharp 32 = .ok (.lstore 9, 2) := by decide +kernel
theorem dX0_sharp_34 : decode cX0_sharp 34 = .ok (.iconst 0, 1) := by decide +kernel
theorem dX0_sharp_35 : decode cX0_sharp 35 = .ok (.istore 11, 2) := by decide +kernel
theorem dX0_sharp_37 : decode cX0_sharp 37 = .ok (.iload 11, 2) := by decide +kernel
theorem dX0_sharp_39 : decode cX0_sharp 39 = .ok (.aload_n 0, 1) := by decide +kernel
theorem dX0_sharp_40 : decode cX0_sharp 40 = .ok (.getfield 90, 3) := by decide +kernel
theorem dX0_sharp_43 : decode cX0_sharp 43 = .ok (.if_icmp .ge 73, 3) := by decide +kernel
theorem dX0_sharp_46 : decode cX0_sharp 46 = .ok (.aload_n 0, 1) := by decide +kernel
theorem dX0_sharp_47 : decode cX0_sharp 47 = .ok (.iload 11, 2) := by decide +kernel
theorem dX0_sharp_49 : decode cX0_sharp 49 = .ok (.iload_n 1, 1) := by decide +kernel
theorem dX0_sharp_50 : decode cX0_sharp 50 = .ok (.invokevirtual 129, 3) := by decide +kernel
theorem dX0_sharp_53 : decode cX0_sharp 53 = .ok (.istore 12, 2) := by decide +kernel
theorem dX0_sharp_55 : decode cX0_sharp 55 = .ok (.iload 12, 2) := by decide +kernel
theorem dX0_sharp_57 : decode cX0_sharp 57 = .ok (.iconst (-1), 1) := by decide +kernel
theorem dX0_sharp_58 : decode cX0_sharp 58 = .ok (.if_icmp .eq 52, 3) := by decide +kernel
theorem dX0_sharp_61 : decode cX0_sharp 61 = .ok (.aload_n 0, 1) := by decide +kernel
theorem dX0_sharp_62 : decode cX0_sharp 62 = .ok (.iload 11, 2) := by decide +kernel
theorem dX0_sharp_64 : decode cX0_sharp 64 = .ok (.iload 12, 2) := by decide +kernel
theorem dX0_sharp_66 : decode cX0_sharp 66 = .ok (.invokevirtual 111, 3) := by decide +kernel
theorem dX0_sharp_69 : decode cX0_sharp 69 = .ok (.i2l, 1) := by decide +kernel
theorem dX0_sharp_70 : decode cX0_sharp 70 = .ok (.lstore 13, 2) := by decide +kernel
theorem dX0_sharp_72 : decode cX0_sharp 72 = .ok (.aload_n 0, 1) := by decide +kernel
theorem dX0_sharp_73 : decode cX0_sharp 73 = .ok (.iload 11, 2) := by decide +kernel
theorem dX0_sharp_75 : decode cX0_sharp 75 = .ok (.iload_n 2, 1) := by decide +kernel
theorem dX0_sharp_76 : decode cX0_sharp 76 = .ok (.invokevirtual 121, 3) := by decide +kernel
theorem dX0_sharp_79 : decode cX0_sharp 79 = .ok (.i2l, 1) := by decide +kernel
theorem dX0_sharp_80 : decode cX0_sharp 80 = .ok (.lstore 15, 2) := by decide +kernel
theorem dX0_sharp_82 : decode cX0_sharp 82 = .ok (.lload_n 3, 1) := by decide +kernel
theorem dX0_sharp_83 : decode cX0_sharp 83 = .ok (.lconst 1, 1) := by decide +kernel
theorem dX0_sharp_84 : decode cX0_sharp 84 = .ok (.ladd, 1) := by decide +kernel
theorem dX0_sharp_85 : decode cX0_sharp 85 = .ok (.lstore_n 3, 1) := by decide +kernel
theorem dX0_sharp_86 : decode cX0_sharp 86 = .ok (.lload 5, 2) := by decide +kernel
theorem dX0_sharp_88 : decode cX0_sharp 88 = .ok (.lload 13, 2) := by decide +kernel
theorem dX0_sharp_90 : decode cX0_sharp 90 = .ok (.ladd, 1) := by decide +kernel
theorem dX0_sharp_91 : decode cX0_sharp 91 = .ok (.lstore 5, 2) := by decide +kernel
theorem dX0_sharp_93 : decode cX0_sharp 93 = .ok (.lload 7, 2) := by decide +kernel
theorem dX0_sharp_95 : decode cX0_sharp 95 = .ok (.lload 15, 2) := by decide +kernel
theorem dX0_sharp_97 : decode cX0_sharp 97 = .ok (.ladd, 1) := by decide +kernel
theorem dX0_sharp_98 : decode cX0_sharp 98 = .ok (.lstore 7, 2) := by decide +kernel
theorem dX0_sharp_100 : decode cX0_sharp 100 = .ok (.lload 9, 2) := by decide +kernel
theorem dX0_sharp_102 : decode cX0_sharp 102 = .ok (.lload 13, 2) := by decide +kernel
theorem dX0_sharp_104 : decode cX0_sharp 104 = .ok (.lload 15, 2) := by decide +kernel
theorem dX0_sharp_106 : decode cX0_sharp 106 = .ok (.lmul, 1) := by decide +kernel
theorem dX0_sharp_107 : decode cX0_sharp 107 = .ok (.ladd, 1) := by decide +kernel
theorem dX0_sharp_108 : decode cX0_sharp 108 = .ok (.lstore 9, 2) := by decide +kernel
theorem dX0_sharp_110 : decode cX0_sharp 110 = .ok (.iinc 11 1, 3) := by decide +kernel
theorem dX0_sharp_113 : decode cX0_sharp 113 = .ok (.goto (-76), 3) := by decide +kernel
theorem dX0_sharp_116 : decode cX0_sharp 116 = .ok (.lload_n 3, 1) := by decide +kernel
theorem dX0_sharp_117 : decode cX0_sharp 117 = .ok (.lload 9, 2) := by decide +kernel
theorem dX0_sharp_119 : decode cX0_sharp 119 = .ok (.lmul, 1) := by decide +kernel
theorem dX0_sharp_120 : decode cX0_sharp 120 = .ok (.lload 5, 2) := by decide +kernel
theorem dX0_sharp_122 : decode cX0_sharp 122 = .ok (.lload 7, 2) := by decide +kernel
theorem dX0_sharp_124 : decode cX0_sharp 124 = .ok (.lmul, 1) := by decide +kernel
theorem dX0_sharp_125 : decode cX0_sharp 125 = .ok (.lsub, 1) := by decide +kernel
theorem dX0_sharp_126 : decode cX0_sharp 126 = .ok (.lreturn, 1) := by decide +kernel
theorem dX0_leaky_0 : decode cX0_leaky 0 = .ok (.aload_n 0, 1) := by decide +kernel
theorem dX0_leaky_1 : decode cX0_leaky 1 = .ok (.iload_n 1, 1) := by decide +kernel
theorem dX0_leaky_2 : decode cX0_leaky 2 = .ok (.invokevirtual 68, 3) := by decide +kernel
theorem dX0_leaky_5 : decode cX0_leaky 5 = .ok (.ifCond .eq 10, 3) := by decide +kernel
theorem dX0_leaky_8 : decode cX0_leaky 8 = .ok (.iload_n 2, 1) := by decide +kernel
theorem dX0_leaky_9 : decode cX0_leaky 9 = .ok (.invokestatic 87, 3) := by decide +kernel
theorem dX0_leaky_12 : decode cX0_leaky 12 = .ok (.ifCond .ne 5, 3) := by decide +kernel
theorem dX0_leaky_15 : decode cX0_leaky 15 = .ok (.iconst (-1), 1) := by decide +kernel
theorem dX0_leaky_16 : decode cX0_leaky 16 = .ok (.ireturn, 1) := by decide +kernel
theorem dX0_leaky_17 : decode cX0_leaky 17 = .ok (.iload_n 3, 1) := by decide +kernel
theorem dX0_leaky_18 : decode cX0_leaky 18 = .ok (.invokestatic 136, 3) := by decide +kernel
theorem dX0_leaky_21 : decode cX0_leaky 21 = .ok (.ifCond .ne 6, 3) := by decide +kernel
theorem dX0_leaky_24 : decode cX0_leaky 24 = .ok (.bipush (-2), 2) := by decide +kernel
theorem dX0_leaky_26 : decode cX0_leaky 26 = .ok (.ireturn, 1) := by decide +kernel
theorem dX0_leaky_27 : decode cX0_leaky 27 = .ok (.aload_n 0, 1) := by decide +kernel
theorem dX0_leaky_28 : decode cX0_leaky 28 = .ok (.iload_n 1, 1) := by decide +kernel
theorem dX0_leaky_29 : decode cX0_leaky 29 = .ok (.invokevirtual 139, 3) := by decide +kernel
theorem dX0_leaky_32 : decode cX0_leaky 32 = .ok (.aload_n 0, 1) := by decide +kernel
theorem dX0_leaky_33 : decode cX0_leaky 33 = .ok (.iload_n 2, 1) := by decide +kernel
theorem dX0_leaky_34 : decode cX0_leaky 34 = .ok (.iload_n 3, 1) := by decide +kernel
theorem dX0_leaky_35 : decode cX0_leaky 35 = .ok (.invokevirtual 143, 3) := by decide +kernel
theorem dX0_leaky_38 : decode cX0_leaky 38 = .ok (.ifCond .eq 7, 3) := by decide +kernel
theorem dX0_leaky_41 : decode cX0_leaky 41 = .ok (.iconst 1, 1) := by decide +kernel
theorem dX0_leaky_42 : decode cX0_leaky 42 = .ok (.goto 4, 3) := by decide +kernel
theorem dX0_leaky_45 : decode cX0_leaky 45 = .ok (.iconst 0, 1) := by decide +kernel
theorem dX0_leaky_46 : decode cX0_leaky 46 = .ok (.ireturn, 1) := by decide +kernel
theorem dX0_leak_0 : decode cX0_leak 0 = .ok (.iload_n 2, 1) := by decide +kernel
theorem dX0_leak_1 : decode cX0_leak 1 = .ok (.ifCond .ge 5, 3) := by decide +kernel
theorem dX0_leak_4 : decode cX0_leak 4 = .ok (.iconst (-1), 1) := by decide +kernel
theorem dX0_leak_5 : decode cX0_leak 5 = .ok (.ireturn, 1) := by decide +kernel
theorem dX0_leak_6 : decode cX0_leak 6 = .ok (.iload_n 1, 1) := by decide +kernel
theorem dX0_leak_7 : decode cX0_leak 7 = .ok (.invokestatic 136, 3) := by decide +kernel
theorem dX0_leak_10 : decode cX0_leak 10 = .ok (.ifCond .ne 6, 3) := by decide +kernel
theorem dX0_leak_13 : decode cX0_leak 13 = .ok (.bipush (-2), 2) := by decide +kernel
theorem dX0_leak_15 : decode cX0_leak 15 = .ok (.ireturn, 1) := by decide +kernel
theorem dX0_leak_16 : decode cX0_leak 16 = .ok (.iconst 0, 1) := by decide +kernel
theorem dX0_leak_17 : decode cX0_leak 17 = .ok (.istore_n 3, 1) := by decide +kernel
theorem dX0_leak_18 : decode cX0_leak 18 = .ok (.iconst 0, 1) := by decide +kernel
theorem dX0_leak_19 : decode cX0_leak 19 = .ok (.istore 4, 2) := by decide +kernel
theorem dX0_leak_21 : decode cX0_leak 21 = .ok (.iload 4, 2) := by decide +kernel
theorem dX0_leak_23 : decode cX0_leak 23 = .ok (.aload_n 0, 1) := by decide +kernel
theorem dX0_leak_24 : decode cX0_leak 24 = .ok (.getfield 61, 3) := by decide +kernel
theorem dX0_leak_27 : decode cX0_leak 27 = .ok (.if_icmp .ge 56, 3) := by decide +kernel
theorem dX0_leak_30 : decode cX0_leak 30 = .ok (.aload_n 0, 1) := by decide +kernel
theorem dX0_leak_31 : decode cX0_leak 31 = .ok (.iload 4, 2) := by decide +kernel
theorem dX0_leak_33 : decode cX0_leak 33 = .ok (.invokevirtual 139, 3) := by decide +kernel
theorem dX0_leak_36 : decode cX0_leak 36 = .ok (.iconst 0, 1) := by decide +kernel
theorem dX0_leak_37 : decode cX0_leak 37 = .ok (.istore 5, 2) := by decide +kernel
theorem dX0_leak_39 : decode cX0_leak 39 = .ok (.iload 5, 2) := by decide +kernel
theorem dX0_leak_41 : decode cX0_leak 41 = .ok (.iconst 4, 1) := by decide +kernel
theorem dX0_leak_42 : decode cX0_leak 42 = .ok (.if_icmp .ge 35, 3) := by decide +kernel
theorem dX0_leak_45 : decode cX0_leak 45 = .ok (.aload_n 0, 1) := by decide +kernel
theorem dX0_leak_46 : decode cX0_leak 46 = .ok (.iload 5, 2) := by decide +kernel
theorem dX0_leak_48 : decode cX0_leak 48 = .ok (.iload_n 1, 1) := by decide +kernel
theorem dX0_leak_49 : decode cX0_leak 49 = .ok (.invokevirtual 143, 3) := by decide +kernel
theorem dX0_leak_52 : decode cX0_leak 52 = .ok (.ifCond .eq 19, 3) := by decide +kernel
theorem dX0_leak_55 : decode cX0_leak 55 = .ok (.iload_n 3, 1) := by decide +kernel
theorem dX0_leak_56 : decode cX0_leak 56 = .ok (.iload_n 2, 1) := by decide +kernel
theorem dX0_leak_57 : decode cX0_leak 57 = .ok (.if_icmp .ne 11, 3) := by decide +kernel
theorem dX0_leak_60 : decode cX0_leak 60 = .ok (.iconst 4, 1) := by decide +kernel
theorem dX0_leak_61 : decode cX0_leak 61 = .ok (.iload 4, 2) := by decide +kernel
theorem dX0_leak_63 : decode cX0_leak 63 = .ok (.imul, 1) := by decide +kernel
theorem dX0_leak_64 : decode cX0_leak 64 = .ok (.iload 5, 2) := by decide +kernel
theorem dX0_leak_66 : decode cX0_leak 66 = .ok (.iadd, 1) := by decide +kernel
theorem dX0_leak_67 : decode cX0_leak 67 = .ok (.ireturn, 1) := by decide +kernel
theorem dX0_leak_68 : decode cX0_leak 68 = .ok (.iinc 3 1, 3) := by decide +kernel
theorem dX0_leak_71 : decode cX0_leak 71 = .ok (.iinc 5 1, 3) := by decide +kernel
theorem dX0_leak_74 : decode cX0_leak 74 = .ok (.goto (-35), 3) := by decide +kernel
theorem dX0_leak_77 : decode cX0_leak 77 = .ok (.iinc 4 1, 3) := by decide +kernel
theorem dX0_leak_80 : decode cX0_leak 80 = .ok (.goto (-59), 3) := by decide +kernel
theorem dX0_leak_83 : decode cX0_leak 83 = .ok (.iconst (-1), 1) := by decide +kernel
theorem dX0_leak_84 : decode cX0_leak 84 = .ok (.ireturn, 1) := by decide +kernel
theorem dX0_shared_0 : decode cX0_shared 0 = .ok (.aload_n 0, 1) := by decide +kernel
theorem dX0_shared_1 : decode cX0_shared 1 = .ok (.iload_n 1, 1) := by decide +kernel
theorem dX0_shared_2 : decode cX0_shared 2 = .ok (.invokevirtual 81, 3) := by decide +kernel
theorem dX0_shared_5 : decode cX0_shared 5 = .ok (.ifCond .eq 11, 3) := by decide +kernel
theorem dX0_shared_8 : decode cX0_shared 8 = .ok (.aload_n 0, 1) := by decide +kernel
theorem dX0_shared_9 : decode cX0_shared 9 = .ok (.iload_n 2, 1) := by decide +kernel
theorem dX0_shared_10 : decode cX0_shared 10 = .ok (.invokevirtual 81, 3) := by decide +kernel
theorem dX0_shared_13 : decode cX0_shared 13 = .ok (.ifCond .ne 5, 3) := by decide +kernel
theorem dX0_shared_16 : decode cX0_shared 16 = .ok (.iconst (-1), 1) := by decide +kernel
theorem dX0_shared_17 : decode cX0_shared 17 = .ok (.ireturn, 1) := by decide +kernel
theorem dX0_shared_18 : decode cX0_shared 18 = .ok (.iload_n 1, 1) := by decide +kernel
theorem dX0_shared_19 : decode cX0_shared 19 = .ok (.iload_n 2, 1) := by decide +kernel
theorem dX0_shared_20 : decode cX0_shared 20 = .ok (.if_icmp .ne 8, 3) := by decide +kernel
theorem dX0_shared_23 : decode cX0_shared 23 = .ok (.bipush (-2), 2) := by decide +kernel
theorem dX0_shared_25 : decode cX0_shared 25 = .ok (.goto 12, 3) := by decide +kernel
theorem dX0_shared_28 : decode cX0_shared 28 = .ok (.aload_n 0, 1) := by decide +kernel
theorem dX0_shared_29 : decode cX0_shared 29 = .ok (.iload_n 1, 1) := by decide +kernel
theorem dX0_shared_30 : decode cX0_shared 30 = .ok (.iload_n 2, 1) := by decide +kernel
theorem dX0_shared_31 : decode cX0_shared 31 = .ok (.invokevirtual 146, 3) := by decide +kernel
theorem dX0_shared_34 : decode cX0_shared 34 = .ok (.invokestatic 149, 3) := by decide +kernel
theorem dX0_shared_37 : decode cX0_shared 37 = .ok (.ireturn, 1) := by decide +kernel
theorem dX0_sum_0 : decode cX0_sum 0 = .ok (.aload_n 0, 1) := by decide +kernel
theorem dX0_sum_1 : decode cX0_sum 1 = .ok (.iload_n 1, 1) := by decide +kernel
theorem dX0_sum_2 : decode cX0_sum 2 = .ok (.invokevirtual 103, 3) := by decide +kernel
theorem dX0_sum_5 : decode cX0_sum 5 = .ok (.ifCond .eq 11, 3) := by decide +kernel
theorem dX0_sum_8 : decode cX0_sum 8 = .ok (.aload_n 0, 1) := by decide +kernel
theorem dX0_sum_9 : decode cX0_sum 9 = .ok (.iload_n 2, 1) := by decide +kernel
theorem dX0_sum_10 : decode cX0_sum 10 = .ok (.invokevirtual 81, 3) := by decide +kernel
theorem dX0_sum_13 : decode cX0_sum 13 = .ok (.ifCond .ne 5, 3) := by decide +kernel
theorem dX0_sum_16 : decode cX0_sum 16 = .ok (.iconst (-1), 1) := by decide +kernel
theorem dX0_sum_17 : decode cX0_sum 17 = .ok (.ireturn, 1) := by decide +kernel
theorem dX0_sum_18 : decode cX0_sum 18 = .ok (.aload_n 0, 1) := by decide +kernel
theorem dX0_sum_19 : decode cX0_sum 19 = .ok (.getfield 30, 3) := by decide +kernel
theorem dX0_sum_22 : decode cX0_sum 22 = .ok (.iload_n 1, 1) := by decide +kernel
theorem dX0_sum_23 : decode cX0_sum 23 = .ok (.iaload, 1) := by decide +kernel
theorem dX0_sum_24 : decode cX0_sum 24 = .ok (.istore_n 3, 1) := by decide +kernel
theorem dX0_sum_25 : decode cX0_sum 25 = .ok (.iload_n 3, 1) := by decide +kernel
theorem dX0_sum_26 : decode cX0_sum 26 = .ok (.iload_n 2, 1) := by decide +kernel
theorem dX0_sum_27 : decode cX0_sum 27 = .ok (.if_icmp .ne 8, 3) := by decide +kernel
theorem dX0_sum_30 : decode cX0_sum 30 = .ok (.bipush (-2), 2) := by decide +kernel
theorem dX0_sum_32 : decode cX0_sum 32 = .ok (.goto 14, 3) := by decide +kernel
theorem dX0_sum_35 : decode cX0_sum 35 = .ok (.aload_n 0, 1) := by decide +kernel
theorem dX0_sum_36 : decode cX0_sum 36 = .ok (.iload_n 1, 1) := by decide +kernel
theorem dX0_sum_37 : decode cX0_sum 37 = .ok (.aload_n 0, 1) := by decide +kernel
theorem dX0_sum_38 : decode cX0_sum 38 = .ok (.iload_n 3, 1) := by decide +kernel
theorem dX0_sum_39 : decode cX0_sum 39 = .ok (.iload_n 2, 1) := by decide +kernel
theorem dX0_sum_40 : decode cX0_sum 40 = .ok (.invokevirtual 146, 3) := by decide +kernel
theorem dX0_sum_43 : decode cX0_sum 43 = .ok (.invokevirtual 121, 3) := by decide +kernel
theorem dX0_sum_46 : decode cX0_sum 46 = .ok (.ireturn, 1) := by decide +kernel
theorem dX0_group_0 : decode cX0_group 0 = .ok (.aload_n 0, 1) := by decide +kernel
theorem dX0_group_1 : decode cX0_group 1 = .ok (.iload_n 1, 1) := by decide +kernel
theorem dX0_group_2 : decode cX0_group 2 = .ok (.invokevirtual 81, 3) := by decide +kernel
theorem dX0_group_5 : decode cX0_group 5 = .ok (.ifCond .eq 11, 3) := by decide +kernel
theorem dX0_group_8 : decode cX0_group 8 = .ok (.aload_n 0, 1) := by decide +kernel
theorem dX0_group_9 : decode cX0_group 9 = .ok (.iload_n 2, 1) := by decide +kernel
theorem dX0_group_10 : decode cX0_group 10 = .ok (.invokevirtual 81, 3) := by decide +kernel
theorem dX0_group_13 : decode cX0_group 13 = .ok (.ifCond .ne 7, 3) := by decide +kernel
theorem dX0_group_16 : decode cX0_group 16 = .ok (.ldc2_w 127, 3) := by decide +kernel
theorem dX0_group_19 : decode cX0_group 19 = .ok (.lreturn, 1) := by decide +kernel
theorem dX0_group_20 : decode cX0_group 20 = .ok (.aload_n 0, 1) := by decide +kernel
theorem dX0_group_21 : decode cX0_group 21 = .ok (.iload_n 1, 1) := by decide +kernel
theorem dX0_group_22 : decode cX0_group 22 = .ok (.aload_n 0, 1) := by decide +kernel
theorem dX0_group_23 : decode cX0_group 23 = .ok (.iload_n 1, 1) := by decide +kernel
theorem dX0_group_24 : decode cX0_group 24 = .ok (.iload_n 2, 1) := by decide +kernel
theorem dX0_group_25 : decode cX0_group 25 = .ok (.invokevirtual 146, 3) := by decide +kernel
theorem dX0_group_28 : decode cX0_group 28 = .ok (.invokevirtual 155, 3) := by decide +kernel
theorem dX0_group_31 : decode cX0_group 31 = .ok (.istore 4, 2) := by decide +kernel
theorem dX0_group_33 : decode cX0_group 33 = .ok (.iload_n 3, 1) := by decide +kernel
theorem dX0_group_34 : decode cX0_group 34 = .ok (.tableswitch 44 0 2 #[26, 30, 37], 26) := by decide +kernel
theorem dX0_group_60 : decode cX0_group 60 = .ok (.iload 4, 2) := by decide +kernel
theorem dX0_group_62 : decode cX0_group 62 = .ok (.i2l, 1) := by decide +kernel
theorem dX0_group_63 : decode cX0_group 63 = .ok (.lreturn, 1) := by decide +kernel
theorem dX0_group_64 : decode cX0_group 64 = .ok (.aload_n 0, 1) := by decide +kernel
theorem dX0_group_65 : decode cX0_group 65 = .ok (.iload 4, 2) := by decide +kernel
theorem dX0_group_67 : decode cX0_group 67 = .ok (.invokevirtual 158, 3) := by decide +kernel
theorem dX0_group_70 : decode cX0_group 70 = .ok (.lreturn, 1) := by decide +kernel
theorem dX0_group_71 : decode cX0_group 71 = .ok (.aload_n 0, 1) := by decide +kernel
theorem dX0_group_72 : decode cX0_group 72 = .ok (.iload 4, 2) := by decide +kernel
theorem dX0_group_74 : decode cX0_group 74 = .ok (.invokevirtual 162, 3) := by decide +kernel
theorem dX0_group_77 : decode cX0_group 77 = .ok (.lreturn, 1) := by decide +kernel
theorem dX0_group_78 : decode cX0_group 78 = .ok (.ldc2_w 127, 3) := by decide +kernel
theorem dX0_group_81 : decode cX0_group 81 = .ok (.lreturn, 1) := by decide +kernel
theorem dX0_scale_0 : decode cX0_scale 0 = .ok (.aload_n 0, 1) := by decide +kernel
theorem dX0_scale_1 : decode cX0_scale 1 = .ok (.iload_n 1, 1) := by decide +kernel
theorem dX0_scale_2 : decode cX0_scale 2 = .ok (.invokevirtual 81, 3) := by decide +kernel
theorem dX0_scale_5 : decode cX0_scale 5 = .ok (.ifCond .eq 31, 3) := by decide +kernel
theorem dX0_scale_8 : decode cX0_scale 8 = .ok (.aload_n 0, 1) := by decide +kernel
theorem dX0_scale_9 : decode cX0_scale 9 = .ok (.iload_n 2, 1) := by decide +kernel
theorem dX0_scale_10 : decode cX0_scale 10 = .ok (.invokevirtual 81, 3) := by decide +kernel
theorem dX0_scale_13 : decode cX0_scale 13 = .ok (.ifCond .eq 23, 3) := by decide +kernel
theorem dX0_scale_16 : decode cX0_scale 16 = .ok (.iload_n 1, 1) := by decide +kernel
theorem dX0_scale_17 : decode cX0_scale 17 = .ok (.iload_n 2, 1) := by decide +kernel
theorem dX0_scale_18 : decode cX0_scale 18 = .ok (.if_icmp .eq 18, 3) := by decide +kernel
theorem dX0_scale_21 : decode cX0_scale 21 = .ok (.iload_n 3, 1) := by decide +kernel
theorem dX0_scale_22 : decode cX0_scale 22 = .ok (.invokestatic 165, 3) := by decide +kernel
theorem dX0_scale_25 : decode cX0_scale 25 = .ok (.ifCond .eq 11, 3) := by decide +kernel
theorem dX0_scale_28 : decode cX0_scale 28 = .ok (.iload 4, 2) := by decide +kernel
theorem dX0_scale_30 : decode cX0_scale 30 = .ok (.invokestatic 124, 3) := by decide +kernel
theorem dX0_scale_33 : decode cX0_scale 33 = .ok (.ifCond .ne 7, 3) := by decide +kernel
theorem dX0_scale_36 : decode cX0_scale 36 = .ok (.ldc2_w 127, 3) := by decide +kernel
theorem dX0_scale_39 : decode cX0_scale 39 = .ok (.lreturn, 1) := by decide +kernel
theorem dX0_scale_40 : decode cX0_scale 40 = .ok (.aload_n 0, 1) := by decide +kernel
theorem dX0_scale_41 : decode cX0_scale 41 = .ok (.iload_n 1, 1) := by decide +kernel
theorem dX0_scale_42 : decode cX0_scale 42 = .ok (.iload_n 1, 1) := by decide +kernel
theorem dX0_scale_43 : decode cX0_scale 43 = .ok (.iconst 0, 1) := by decide +kernel
theorem dX0_scale_44 : decode cX0_scale 44 = .ok (.invokevirtual 168, 3) := by decide +kernel
theorem dX0_scale_47 : decode cX0_scale 47 = .ok (.lstore 5, 2) := by decide +kernel
theorem dX0_scale_49 : decode cX0_scale 49 = .ok (.aload_n 0, 1) := by decide +kernel
theorem dX0_scale_50 : decode cX0_scale 50 = .ok (.iload_n 1, 1) := by decide +kernel
theorem dX0_scale_51 : decode cX0_scale 51 = .ok (.iload_n 1, 1) := by decide +kernel
theorem dX0_scale_52 : decode cX0_scale 52 = .ok (.iconst 2, 1) := by decide +kernel
theorem dX0_scale_53 : decode cX0_scale 53 = .ok (.invokevirtual 168, 3) := by decide +kernel
theorem dX0_scale_56 : decode cX0_scale 56 = .ok (.lstore 7, 2) := by decide +kernel
theorem dX0_scale_58 : decode cX0_scale 58 = .ok (.aload_n 0, 1) := by decide +kernel
theorem dX0_scale_59 : decode cX0_scale 59 = .ok (.iload_n 2, 1) := by decide +kernel
theorem dX0_scale_60 : decode cX0_scale 60 = .ok (.iload_n 2, 1) := by decide +kernel
theorem dX0_scale_61 : decode cX0_scale 61 = .ok (.iconst 0, 1) := by decide +kernel
theorem dX0_scale_62 : decode cX0_scale 62 = .ok (.invokevirtual 168, 3) := by decide +kernel
theorem dX0_scale_65 : decode cX0_scale 65 = .ok (.lstore 9, 2) := by decide +kernel
theorem dX0_scale_67 : decode cX0_scale 67 = .ok (.aload_n 0, 1) := by decide +kernel
theorem dX0_scale_68 : decode cX0_scale 68 = .ok (.iload_n 2, 1) := by decide +kernel
theorem dX0_scale_69 : decode cX0_scale 69 = .ok (.iload_n 1, 1) := by decide +kernel
theorem dX0_scale_70 : decode cX0_scale 70 = .ok (.iconst 2, 1) := by decide +kernel
theorem dX0_scale_71 : decode cX0_scale 71 = .ok (.invokevirtual 168, 3) := by decide +kernel
theorem dX0_scale_74 : decode cX0_scale 74 = .ok (.lstore 11, 2) := by decide +kernel
theorem dX0_scale_76 : decode cX0_scale 76 = .ok (.lload 5, 2) := by decide +kernel
theorem dX0_scale_78 : decode cX0_scale 78 = .ok (.lconst 0, 1) := by decide +kernel
theorem dX0_scale_79 : decode cX0_scale 79 = .ok (.lcmp, 1) := by decide +kernel
theorem dX0_scale_80 : decode cX0_scale 80 = .ok (.ifCond .eq 33, 3) := by decide +kernel
theorem dX0_scale_83 : decode cX0_scale 83 = .ok (.lload 9, 2) := by decide +kernel
theorem dX0_scale_85 : decode cX0_scale 85 = .ok (.lconst 0, 1) := by decide +kernel
theorem dX0_scale_86 : decode cX0_scale 86 = .ok (.lcmp, 1) := by decide +kernel
theorem dX0_scale_87 : decode cX0_scale 87 = .ok (.ifCond .eq 26, 3) := by decide +kernel
theorem dX0_scale_90 : decode cX0_scale 90 = .ok (.aload_n 0, 1) := by decide +kernel
theorem dX0_scale_91 : decode cX0_scale 91 = .ok (.iload_n 1, 1) := by decide +kernel
theorem dX0_scale_92 : decode cX0_scale 92 = .ok (.iload_n 2, 1) := by decide +kernel
theorem dX0_scale_93 : decode cX0_scale 93 = .ok (.invokevirtual 146, 3) := by decide +kernel
theorem dX0_scale_96 : decode cX0_scale 96 = .ok (.ifCond .eq 17, 3) := by decide +kernel
theorem dX0_scale_99 : decode cX0_scale 99 = .ok (.lload 7, 2) := by decide +kernel
theorem dX0_scale_101 : decode cX0_scale 101 = .ok (.lconst 0, 1) := by decide +kernel
theorem dX0_scale_102 : decode cX0_scale 102 = .ok (.lcmp, 1) := by decide +kernel
theorem dX0_scale_103 : decode cX0_scale 103 = .ok (.ifCond .eq 10, 3) := by decide +kernel
theorem dX0_scale_106 : decode cX0_scale 106 = .ok (.lload 11, 2) := by decide +kernel
theorem dX0_scale_108 : decode cX0_scale 108 = .ok (.lconst 0, 1) := by decide +kernel
theorem dX0_scale_109 : decode cX0_scale 109 = .ok (.lcmp, 1) := by decide +kernel
theorem dX0_scale_110 : decode cX0_scale 110 = .ok (.ifCond .ne 7, 3) := by decide +kernel
theorem dX0_scale_113 : decode cX0_scale 113 = .ok (.ldc2_w 127, 3) := by decide +kernel
theorem dX0_scale_116 : decode cX0_scale 116 = .ok (.lreturn, 1) := by decide +kernel
theorem dX0_scale_117 : decode cX0_scale 117 = .ok (.lload 5, 2) := by decide +kernel
theorem dX0_scale_119 : decode cX0_scale 119 = .ok (.lload 7, 2) := by decide +kernel
theorem dX0_scale_121 : decode cX0_scale 121 = .ok (.lmul, 1) := by decide +kernel
theorem dX0_scale_122 : decode cX0_scale 122 = .ok (.lstore 13, 2) := by decide +kernel
theorem dX0_scale_124 : decode cX0_scale 124 = .ok (.aload_n 0, 1) := by decide +kernel
theorem dX0_scale_125 : decode cX0_scale 125 = .ok (.iload_n 1, 1) := by decide +kernel
theorem dX0_scale_126 : decode cX0_scale 126 = .ok (.iload_n 2, 1) := by decide +kernel
theorem dX0_scale_127 : decode cX0_scale 127 = .ok (.iconst 1, 1) := by decide +kernel
theorem dX0_scale_128 : decode cX0_scale 128 = .ok (.invokevirtual 168, 3) := by decide +kernel
theorem dX0_scale_131 : decode cX0_scale 131 = .ok (.lload 7, 2) := by decide +kernel
theorem dX0_scale_133 : decode cX0_scale 133 = .ok (.lmul, 1) := by decide +kernel
theorem dX0_scale_134 : decode cX0_scale 134 = .ok (.iload_n 3, 1) := by decide +kernel
theorem dX0_scale_135 : decode cX0_scale 135 = .ok (.i2l, 1) := by decide +kernel
theorem dX0_scale_136 : decode cX0_scale 136 = .ok (.lload 5, 2) := by decide +kernel
theorem dX0_scale_138 : decode cX0_scale 138 = .ok (.lmul, 1) := by decide +kernel
theorem dX0_scale_139 : decode cX0_scale 139 = .ok (.aload_n 0, 1) := by decide +kernel
theorem dX0_scale_140 : decode cX0_scale 140 = .ok (.iload_n 1, 1) := by decide +kernel
theorem dX0_scale_141 : decode cX0_scale 141 = .ok (.iload_n 1, 1) := by decide +kernel
theorem dX0_scale_142 : decode cX0_scale 142 = .ok (.iconst 1, 1) := by decide +kernel
theorem dX0_scale_143 : decode cX0_scale 143 = .ok (.invokevirtual 168, 3) := by decide +kernel
theorem dX0_scale_146 : decode cX0_scale 146 = .ok (.lsub, 1) := by decide +kernel
theorem dX0_scale_147 : decode cX0_scale 147 = .ok (.aload_n 0, 1) := by decide +kernel
theorem dX0_scale_148 : decode cX0_scale 148 = .ok (.iload_n 1, 1) := by decide +kernel
theorem dX0_scale_149 : decode cX0_scale 149 = .ok (.iload_n 2, 1) := by decide +kernel
theorem dX0_scale_150 : decode cX0_scale 150 = .ok (.iconst 2, 1) := by decide +kernel
theorem dX0_scale_151 : decode cX0_scale 151 = .ok (.invokevirtual 168, 3) := by decide +kernel
theorem dX0_scale_154 : decode cX0_scale 154 = .ok (.lmul, 1) := by decide +kernel
theorem dX0_scale_155 : decode cX0_scale 155 = .ok (.ladd, 1) := by decide +kernel
theorem dX0_scale_156 : decode cX0_scale 156 = .ok (.lstore 15, 2) := by decide +kernel
theorem dX0_scale_158 : decode cX0_scale 158 = .ok (.lload 15, 2) := by decide +kernel
theorem dX0_scale_160 : decode cX0_scale 160 = .ok (.lload 9, 2) := by decide +kernel
theorem dX0_scale_162 : decode cX0_scale 162 = .ok (.lmul, 1) := by decide +kernel
theorem dX0_scale_163 : decode cX0_scale 163 = .ok (.aload_n 0, 1) := by decide +kernel
theorem dX0_scale_164 : decode cX0_scale 164 = .ok (.iload_n 2, 1) := by decide +kernel
theorem dX0_scale_165 : decode cX0_scale 165 = .ok (.iload_n 1, 1) := by decide +kernel
theorem dX0_scale_166 : decode cX0_scale 166 = .ok (.iconst 1, 1) := by decide +kernel
theorem dX0_scale_167 : decode cX0_scale 167 = .ok (.invokevirtual 168, 3) := by decide +kernel
theorem dX0_scale_170 : decode cX0_scale 170 = .ok (.lload 13, 2) := by decide +kernel
theorem dX0_scale_172 : decode cX0_scale 172 = .ok (.lmul, 1) := by decide +kernel
theorem dX0_scale_173 : decode cX0_scale 173 = .ok (.lsub, 1) := by decide +kernel
theorem dX0_scale_174 : decode cX0_scale 174 = .ok (.lstore 17, 2) := by decide +kernel
theorem dX0_scale_176 : decode cX0_scale 176 = .ok (.aload_n 0, 1) := by decide +kernel
theorem dX0_scale_177 : decode cX0_scale 177 = .ok (.iload_n 2, 1) := by decide +kernel
theorem dX0_scale_178 : decode cX0_scale 178 = .ok (.iload_n 2, 1) := by decide +kernel
theorem dX0_scale_179 : decode cX0_scale 179 = .ok (.iconst 1, 1) := by decide +kernel
theorem dX0_scale_180 : decode cX0_scale 180 = .ok (.invokevirtual 168, 3) := by decide +kernel
theorem dX0_scale_183 : decode cX0_scale 183 = .ok (.lload 11, 2) := by decide +kernel
theorem dX0_scale_185 : decode cX0_scale 185 = .ok (.lmul, 1) := by decide +kernel
theorem dX0_scale_186 : decode cX0_scale 186 = .ok (.lload 13, 2) := by decide +kernel
theorem dX0_scale_188 : decode cX0_scale 188 = .ok (.lmul, 1) := by decide +kernel
theorem dX0_scale_189 : decode cX0_scale 189 = .ok (.lload 17, 2) := by decide +kernel
theorem dX0_scale_191 : decode cX0_scale 191 = .ok (.aload_n 0, 1) := by decide +kernel
theorem dX0_scale_192 : decode cX0_scale 192 = .ok (.iload_n 2, 1) := by decide +kernel
theorem dX0_scale_193 : decode cX0_scale 193 = .ok (.iload_n 2, 1) := by decide +kernel
theorem dX0_scale_194 : decode cX0_scale 194 = .ok (.iconst 2, 1) := by decide +kernel
theorem dX0_scale_195 : decode cX0_scale 195 = .ok (.invokevirtual 168, 3) := by decide +kernel
theorem dX0_scale_198 : decode cX0_scale 198 = .ok (.lmul, 1) := by decide +kernel
theorem dX0_scale_199 : decode cX0_scale 199 = .ok (.ladd, 1) := by decide +kernel
theorem dX0_scale_200 : decode cX0_scale 200 = .ok (.lstore 19, 2) := by decide +kernel
theorem dX0_scale_202 : decode cX0_scale 202 = .ok (.lload 19, 2) := by decide +kernel
theorem dX0_scale_204 : decode cX0_scale 204 = .ok (.lload 9, 2) := by decide +kernel
theorem dX0_scale_206 : decode cX0_scale 206 = .ok (.lload 11, 2) := by decide +kernel
theorem dX0_scale_208 : decode cX0_scale 208 = .ok (.lmul, 1) := by decide +kernel
theorem dX0_scale_209 : decode cX0_scale 209 = .ok (.lload 13, 2) := by decide +kernel
theorem dX0_scale_211 : decode cX0_scale 211 = .ok (.lmul, 1) := by decide +kernel
theorem dX0_scale_212 : decode cX0_scale 212 = .ok (.iload 4, 2) := by decide +kernel
theorem dX0_scale_214 : decode cX0_scale 214 = .ok (.invokestatic 132, 3) := by decide +kernel
theorem dX0_scale_217 : decode cX0_scale 217 = .ok (.lreturn, 1) := by decide +kernel
theorem dX0_rank_0 : decode cX0_rank 0 = .ok (.aload_n 0, 1) := by decide +kernel
theorem dX0_rank_1 : decode cX0_rank 1 = .ok (.iload_n 1, 1) := by decide +kernel
theorem dX0_rank_2 : decode cX0_rank 2 = .ok (.invokevirtual 81, 3) := by decide +kernel
theorem dX0_rank_5 : decode cX0_rank 5 = .ok (.ifCond .eq 11, 3) := by decide +kernel
theorem dX0_rank_8 : decode cX0_rank 8 = .ok (.aload_n 0, 1) := by decide +kernel
theorem dX0_rank_9 : decode cX0_rank 9 = .ok (.iload_n 1, 1) := by decide +kernel
theorem dX0_rank_10 : decode cX0_rank 10 = .ok (.invokevirtual 84, 3) := by decide +kernel
theorem dX0_rank_13 : decode cX0_rank 13 = .ok (.ifCond .ne 5, 3) := by decide +kernel
theorem dX0_rank_16 : decode cX0_rank 16 = .ok (.iconst (-1), 1) := by decide +kernel
theorem dX0_rank_17 : decode cX0_rank 17 = .ok (.ireturn, 1) := by decide +kernel
theorem dX0_rank_18 : decode cX0_rank 18 = .ok (.aload_n 0, 1) := by decide +kernel
theorem dX0_rank_19 : decode cX0_rank 19 = .ok (.aload_n 0, 1) := by decide +kernel
theorem dX0_rank_20 : decode cX0_rank 20 = .ok (.iload_n 1, 1) := by decide +kernel
theorem dX0_rank_21 : decode cX0_rank 21 = .ok (.aload_n 0, 1) := by decide +kernel
theorem dX0_rank_22 : decode cX0_rank 22 = .ok (.invokevirtual 117, 3) := by decide +kernel
theorem dX0_rank_25 : decode cX0_rank 25 = .ok (.invokevirtual 155, 3) := by decide +kernel
theorem dX0_rank_28 : decode cX0_rank 28 = .ok (.iload_n 2, 1) := by decide +kernel
theorem dX0_rank_29 : decode cX0_rank 29 = .ok (.invokevirtual 172, 3) := by decide +kernel
theorem dX0_rank_32 : decode cX0_rank 32 = .ok (.ireturn, 1) := by decide +kernel
theorem dX0_like_0 : decode cX0_like 0 = .ok (.aload_n 0, 1) := by decide +kernel
theorem dX0_like_1 : decode cX0_like 1 = .ok (.iload_n 1, 1) := by decide +kernel
theorem dX0_like_2 : decode cX0_like 2 = .ok (.invokevirtual 81, 3) := by decide +kernel
theorem dX0_like_5 : decode cX0_like 5 = .ok (.ifCond .eq 34, 3) := by decide +kernel
theorem dX0_like_8 : decode cX0_like 8 = .ok (.aload_n 0, 1) := by decide +kernel
theorem dX0_like_9 : decode cX0_like 9 = .ok (.iload_n 2, 1) := by decide +kernel
theorem dX0_like_10 : decode cX0_like 10 = .ok (.invokevirtual 81, 3) := by decide +kernel
theorem dX0_like_13 : decode cX0_like 13 = .ok (.ifCond .eq 26, 3) := by decide +kernel
theorem dX0_like_16 : decode cX0_like 16 = .ok (.iload_n 3, 1) := by decide +kernel
theorem dX0_like_17 : decode cX0_like 17 = .ok (.invokestatic 165, 3) := by decide +kernel
theorem dX0_like_20 : decode cX0_like 20 = .ok (.ifCond .eq 19, 3) := by decide +kernel
theorem dX0_like_23 : decode cX0_like 23 = .ok (.aload_n 0, 1) := by decide +kernel
theorem dX0_like_24 : decode cX0_like 24 = .ok (.iload_n 1, 1) := by decide +kernel
theorem dX0_like_25 : decode cX0_like 25 = .ok (.invokevirtual 84, 3) := by decide +kernel
theorem dX0_like_28 : decode cX0_like 28 = .ok (.ifCond .eq 11, 3) := by decide +kernel
theorem dX0_like_31 : decode cX0_like 31 = .ok (.aload_n 0, 1) := by decide +kernel
theorem dX0_like_32 : decode cX0_like 32 = .ok (.iload_n 2, 1) := by decide +kernel
theorem dX0_like_33 : decode cX0_like 33 = .ok (.invokevirtual 84, 3) := by decide +kernel
theorem dX0_like_36 : decode cX0_like 36 = .ok (.ifCond .ne 5, 3) := by decide +kernel
theorem dX0_like_39 : decode cX0_like 39 = .ok (.iconst (-1), 1) := by decide +kernel
theorem dX0_like_40 : decode cX0_like 40 = .ok (.ireturn, 1) := by decide +kernel
theorem dX0_like_41 : decode cX0_like 41 = .ok (.aload_n 0, 1) := by decide +kernel
theorem dX0_like_42 : decode cX0_like 42 = .ok (.iload_n 1, 1) := by decide +kernel
theorem dX0_like_43 : decode cX0_like 43 = .ok (.aload_n 0, 1) := by decide +kernel
theorem dX0_like_44 : decode cX0_like 44 = .ok (.invokevirtual 117, 3) := by decide +kernel
theorem dX0_like_47 : decode cX0_like 47 = .ok (.invokevirtual 155, 3) := by decide +kernel
theorem dX0_like_50 : decode cX0_like 50 = .ok (.istore 4, 2) := by decide +kernel
theorem dX0_like_52 : decode cX0_like 52 = .ok (.aload_n 0, 1) := by decide +kernel
theorem dX0_like_53 : decode cX0_like 53 = .ok (.iload 4, 2) := by decide +kernel
theorem dX0_like_55 : decode cX0_like 55 = .ok (.iload_n 3, 1) := by decide +kernel
theorem dX0_like_56 : decode cX0_like 56 = .ok (.invokevirtual 172, 3) := by decide +kernel
theorem dX0_like_59 : decode cX0_like 59 = .ok (.istore 5, 2) := by decide +kernel
theorem dX0_like_61 : decode cX0_like 61 = .ok (.aload_n 0, 1) := by decide +kernel
theorem dX0_like_62 : decode cX0_like 62 = .ok (.iload_n 2, 1) := by decide +kernel
theorem dX0_like_63 : decode cX0_like 63 = .ok (.aload_n 0, 1) := by decide +kernel
theorem dX0_like_64 : decode cX0_like 64 = .ok (.invokevirtual 117, 3) := by decide +kernel
theorem dX0_like_67 : decode cX0_like 67 = .ok (.invokevirtual 155, 3) := by decide +kernel
theorem dX0_like_70 : decode cX0_like 70 = .ok (.istore 6, 2) := by decide +kernel
theorem dX0_like_72 : decode cX0_like 72 = .ok (.bipush 121, 2) := by decide +kernel
theorem dX0_like_74 : decode cX0_like 74 = .ok (.istore 7, 2) := by decide +kernel
theorem dX0_like_76 : decode cX0_like 76 = .ok (.iconst 0, 1) := by decide +kernel
theorem dX0_like_77 : decode cX0_like 77 = .ok (.istore 8, 2) := by decide +kernel
theorem dX0_like_79 : decode cX0_like 79 = .ok (.iconst 0, 1) := by decide +kernel
theorem dX0_like_80 : decode cX0_like 80 = .ok (.istore 9, 2) := by decide +kernel
theorem dX0_like_82 : decode cX0_like 82 = .ok (.iload 9, 2) := by decide +kernel
theorem dX0_like_84 : decode cX0_like 84 = .ok (.iload 6, 2) := by decide +kernel
theorem dX0_like_86 : decode cX0_like 86 = .ok (.if_icmp .ge 61, 3) := by decide +kernel
theorem dX0_like_89 : decode cX0_like 89 = .ok (.iload 8, 2) := by decide +kernel
theorem dX0_like_91 : decode cX0_like 91 = .ok (.aload_n 0, 1) := by decide +kernel
theorem dX0_like_92 : decode cX0_like 92 = .ok (.getfield 42, 3) := by decide +kernel
theorem dX0_like_95 : decode cX0_like 95 = .ok (.iload 9, 2) := by decide +kernel
theorem dX0_like_97 : decode cX0_like 97 = .ok (.iaload, 1) := by decide +kernel
theorem dX0_like_98 : decode cX0_like 98 = .ok (.invokestatic 175, 3) := by decide +kernel
theorem dX0_like_101 : decode cX0_like 101 = .ok (.istore 8, 2) := by decide +kernel
theorem dX0_like_103 : decode cX0_like 103 = .ok (.aload_n 0, 1) := by decide +kernel
theorem dX0_like_104 : decode cX0_like 104 = .ok (.iload 6, 2) := by decide +kernel
theorem dX0_like_106 : decode cX0_like 106 = .ok (.aload_n 0, 1) := by decide +kernel
theorem dX0_like_107 : decode cX0_like 107 = .ok (.getfield 42, 3) := by decide +kernel
theorem dX0_like_110 : decode cX0_like 110 = .ok (.iload 9, 2) := by decide +kernel
theorem dX0_like_112 : decode cX0_like 112 = .ok (.iaload, 1) := by decide +kernel
theorem dX0_like_113 : decode cX0_like 113 = .ok (.invokevirtual 172, 3) := by decide +kernel
theorem dX0_like_116 : decode cX0_like 116 = .ok (.iload 4, 2) := by decide +kernel
theorem dX0_like_118 : decode cX0_like 118 = .ok (.imul, 1) := by decide +kernel
theorem dX0_like_119 : decode cX0_like 119 = .ok (.iload 5, 2) := by decide +kernel
theorem dX0_like_121 : decode cX0_like 121 = .ok (.iload 6, 2) := by decide +kernel
theorem dX0_like_123 : decode cX0_like 123 = .ok (.imul, 1) := by decide +kernel
theorem dX0_like_124 : decode cX0_like 124 = .ok (.if_icmp .lt 17, 3) := by decide +kernel
theorem dX0_like_127 : decode cX0_like 127 = .ok (.iload 7, 2) := by decide +kernel
theorem dX0_like_129 : decode cX0_like 129 = .ok (.aload_n 0, 1) := by decide +kernel
theorem dX0_like_130 : decode cX0_like 130 = .ok (.getfield 42, 3) := by decide +kernel
theorem dX0_like_133 : decode cX0_like 133 = .ok (.iload 9, 2) := by decide +kernel
theorem dX0_like_135 : decode cX0_like 135 = .ok (.iaload, 1) := by decide +kernel
theorem dX0_like_136 : decode cX0_like 136 = .ok (.invokestatic 106, 3) := by decide +kernel
theorem dX0_like_139 : decode cX0_like 139 = .ok (.istore 7, 2) := by decide +kernel
theorem dX0_like_141 : decode cX0_like 141 = .ok (.iinc 9 1, 3) := by decide +kernel
theorem dX0_like_144 : decode cX0_like 144 = .ok (.goto (-62), 3) := by decide +kernel
theorem dX0_like_147 : decode cX0_like 147 = .ok (.iload 7, 2) := by decide +kernel
theorem dX0_like_149 : decode cX0_like 149 = .ok (.iload 8, 2) := by decide +kernel
theorem dX0_like_151 : decode cX0_like 151 = .ok (.invokestatic 106, 3) := by decide +kernel
theorem dX0_like_154 : decode cX0_like 154 = .ok (.ireturn, 1) := by decide +kernel
theorem dX0_judge_0 : decode cX0_judge 0 = .ok (.iload_n 1, 1) := by decide +kernel
theorem dX0_judge_1 : decode cX0_judge 1 = .ok (.ifCond .lt 25, 3) := by decide +kernel
theorem dX0_judge_4 : decode cX0_judge 4 = .ok (.iload_n 1, 1) := by decide +kernel
theorem dX0_judge_5 : decode cX0_judge 5 = .ok (.bipush 8, 2) := by decide +kernel
theorem dX0_judge_7 : decode cX0_judge 7 = .ok (.if_icmp .ge 19, 3) := by decide +kernel
theorem dX0_judge_10 : decode cX0_judge 10 = .ok (.aload_n 0, 1) := by decide +kernel
theorem dX0_judge_11 : decode cX0_judge 11 = .ok (.iload_n 2, 1) := by decide +kernel
theorem dX0_judge_12 : decode cX0_judge 12 = .ok (.invokevirtual 81, 3) := by decide +kernel
theorem dX0_judge_15 : decode cX0_judge 15 = .ok (.ifCond .eq 11, 3) := by decide +kernel
theorem dX0_judge_18 : decode cX0_judge 18 = .ok (.aload_n 0, 1) := by decide +kernel
theorem dX0_judge_19 : decode cX0_judge 19 = .ok (.iload_n 3, 1) := by decide +kernel
theorem dX0_judge_20 : decode cX0_judge 20 = .ok (.invokevirtual 68, 3) := by decide +kernel
theorem dX0_judge_23 : decode cX0_judge 23 = .ok (.ifCond .ne 5, 3) := by decide +kernel
theorem dX0_judge_26 : decode cX0_judge 26 = .ok (.iconst (-1), 1) := by decide +kernel
theorem dX0_judge_27 : decode cX0_judge 27 = .ok (.ireturn, 1) := by decide +kernel
theorem dX0_judge_28 : decode cX0_judge 28 = .ok (.aload_n 0, 1) := by decide +kernel
theorem dX0_judge_29 : decode cX0_judge 29 = .ok (.iload_n 2, 1) := by decide +kernel
theorem dX0_judge_30 : decode cX0_judge 30 = .ok (.iload_n 3, 1) := by decide +kernel
theorem dX0_judge_31 : decode cX0_judge 31 = .ok (.invokevirtual 178, 3) := by decide +kernel
theorem dX0_judge_34 : decode cX0_judge 34 = .ok (.istore 5, 2) := by decide +kernel
theorem dX0_judge_36 : decode cX0_judge 36 = .ok (.iload 5, 2) := by decide +kernel
theorem dX0_judge_38 : decode cX0_judge 38 = .ok (.iconst (-1), 1) := by decide +kernel
theorem dX0_judge_39 : decode cX0_judge 39 = .ok (.if_icmp .ne 5, 3) := by decide +kernel
theorem dX0_judge_42 : decode cX0_judge 42 = .ok (.iconst (-1), 1) := by decide +kernel
theorem dX0_judge_43 : decode cX0_judge 43 = .ok (.ireturn, 1) := by decide +kernel
theorem dX0_judge_44 : decode cX0_judge 44 = .ok (.iload 4, 2) := by decide +kernel
theorem dX0_judge_46 : decode cX0_judge 46 = .ok (.iconst (-1), 1) := by decide +kernel
theorem dX0_judge_47 : decode cX0_judge 47 = .ok (.if_icmp .lt 14, 3) := by decide +kernel
theorem dX0_judge_50 : decode cX0_judge 50 = .ok (.iload 4, 2) := by decide +kernel
theorem dX0_judge_52 : decode cX0_judge 52 = .ok (.aload_n 0, 1) := by decide +kernel
theorem dX0_judge_53 : decode cX0_judge 53 = .ok (.getfield 15, 3) := by decide +kernel
theorem dX0_judge_56 : decode cX0_judge 56 = .ok (.iload_n 3, 1) := by decide +kernel
theorem dX0_judge_57 : decode cX0_judge 57 = .ok (.iaload, 1) := by decide +kernel
theorem dX0_judge_58 : decode cX0_judge 58 = .ok (.if_icmp .le 6, 3) := by decide +kernel
theorem dX0_judge_61 : decode cX0_judge 61 = .ok (.bipush (-2), 2) := by decide +kernel
theorem dX0_judge_63 : decode cX0_judge 63 = .ok (.ireturn, 1) := by decide +kernel
theorem dX0_judge_64 : decode cX0_judge 64 = .ok (.iload_n 2, 1) := by decide +kernel
theorem dX0_judge_65 : decode cX0_judge 65 = .ok (.bipush 12, 2) := by decide +kernel
theorem dX0_judge_67 : decode cX0_judge 67 = .ok (.imul, 1) := by decide +kernel
theorem dX0_judge_68 : decode cX0_judge 68 = .ok (.iload 5, 2) := by decide +kernel
theorem dX0_judge_70 : decode cX0_judge 70 = .ok (.iadd, 1) := by decide +kernel
theorem dX0_judge_71 : decode cX0_judge 71 = .ok (.bipush 8, 2) := by decide +kernel
theorem dX0_judge_73 : decode cX0_judge 73 = .ok (.imul, 1) := by decide +kernel
theorem dX0_judge_74 : decode cX0_judge 74 = .ok (.iload_n 1, 1) := by decide +kernel
theorem dX0_judge_75 : decode cX0_judge 75 = .ok (.iadd, 1) := by decide +kernel
theorem dX0_judge_76 : decode cX0_judge 76 = .ok (.istore 6, 2) := by decide +kernel
theorem dX0_judge_78 : decode cX0_judge 78 = .ok (.aload_n 0, 1) := by decide +kernel
theorem dX0_judge_79 : decode cX0_judge 79 = .ok (.getfield 39, 3) := by decide +kernel
theorem dX0_judge_82 : decode cX0_judge 82 = .ok (.iload 6, 2) := by decide +kernel
theorem dX0_judge_84 : decode cX0_judge 84 = .ok (.iaload, 1) := by decide +kernel
theorem dX0_judge_85 : decode cX0_judge 85 = .ok (.istore 7, 2) := by decide +kernel
theorem dX0_judge_87 : decode cX0_judge 87 = .ok (.aload_n 0, 1) := by decide +kernel
theorem dX0_judge_88 : decode cX0_judge 88 = .ok (.getfield 39, 3) := by decide +kernel
theorem dX0_judge_91 : decode cX0_judge 91 = .ok (.iload 6, 2) := by decide +kernel
theorem dX0_judge_93 : decode cX0_judge 93 = .ok (.iload 4, 2) := by decide +kernel
theorem dX0_judge_95 : decode cX0_judge 95 = .ok (.iastore, 1) := by decide +kernel
theorem dX0_judge_96 : decode cX0_judge 96 = .ok (.iload 7, 2) := by decide +kernel
theorem dX0_judge_98 : decode cX0_judge 98 = .ok (.ireturn, 1) := by decide +kernel
theorem dX0_cut_0 : decode cX0_cut 0 = .ok (.aload_n 0, 1) := by decide +kernel
theorem dX0_cut_1 : decode cX0_cut 1 = .ok (.iload_n 1, 1) := by decide +kernel
theorem dX0_cut_2 : decode cX0_cut 2 = .ok (.invokevirtual 81, 3) := by decide +kernel
theorem dX0_cut_5 : decode cX0_cut 5 = .ok (.ifCond .eq 10, 3) := by decide +kernel
theorem dX0_cut_8 : decode cX0_cut 8 = .ok (.iload_n 2, 1) := by decide +kernel
theorem dX0_cut_9 : decode cX0_cut 9 = .ok (.invokestatic 124, 3) := by decide +kernel
theorem dX0_cut_12 : decode cX0_cut 12 = .ok (.ifCond .ne 7, 3) := by decide +kernel
theorem dX0_cut_15 : decode cX0_cut 15 = .ok (.ldc2_w 127, 3) := by decide +kernel
theorem dX0_cut_18 : decode cX0_cut 18 = .ok (.lreturn, 1) := by decide +kernel
theorem dX0_cut_19 : decode cX0_cut 19 = .ok (.aload_n 0, 1) := by decide +kernel
theorem dX0_cut_20 : decode cX0_cut 20 = .ok (.iload_n 1, 1) := by decide +kernel
theorem dX0_cut_21 : decode cX0_cut 21 = .ok (.invokevirtual 181, 3) := by decide +kernel
theorem dX0_cut_24 : decode cX0_cut 24 = .ok (.i2l, 1) := by decide +kernel
theorem dX0_cut_25 : decode cX0_cut 25 = .ok (.ldc2_w 184, 3) := by decide +kernel
theorem dX0_cut_28 : decode cX0_cut 28 = .ok (.iload_n 2, 1) := by decide +kernel
theorem dX0_cut_29 : decode cX0_cut 29 = .ok (.invokestatic 132, 3) := by decide +kernel
theorem dX0_cut_32 : decode cX0_cut 32 = .ok (.lreturn, 1) := by decide +kernel
theorem dX0_passes_0 : decode cX0_passes 0 = .ok (.aload_n 0, 1) := by decide +kernel
theorem dX0_passes_1 : decode cX0_passes 1 = .ok (.iload_n 1, 1) := by decide +kernel
theorem dX0_passes_2 : decode cX0_passes 2 = .ok (.invokevirtual 103, 3) := by decide +kernel
theorem dX0_passes_5 : decode cX0_passes 5 = .ok (.ifCond .ne 5, 3) := by decide +kernel
theorem dX0_passes_8 : decode cX0_passes 8 = .ok (.iconst (-1), 1) := by decide +kernel
theorem dX0_passes_9 : decode cX0_passes 9 = .ok (.ireturn, 1) := by decide +kernel
theorem dX0_passes_10 : decode cX0_passes 10 = .ok (.aload_n 0, 1) := by decide +kernel
theorem dX0_passes_11 : decode cX0_passes 11 = .ok (.iload_n 1, 1) := by decide +kernel
theorem dX0_passes_12 : decode cX0_passes 12 = .ok (.invokevirtual 186, 3) := by decide +kernel
theorem dX0_passes_15 : decode cX0_passes 15 = .ok (.ifCond .eq 7, 3) := by decide +kernel
theorem dX0_passes_18 : decode cX0_passes 18 = .ok (.iconst 1, 1) := by decide +kernel
theorem dX0_passes_19 : decode cX0_passes 19 = .ok (.goto 4, 3) := by decide +kernel
theorem dX0_passes_22 : decode cX0_passes 22 = .ok (.iconst 0, 1) := by decide +kernel
theorem dX0_passes_23 : decode cX0_passes 23 = .ok (.ireturn, 1) := by decide +kernel
theorem dX0_border_0 : decode cX0_border 0 = .ok (.aload_n 0, 1) := by decide +kernel
theorem dX0_border_1 : decode cX0_border 1 = .ok (.iload_n 1, 1) := by decide +kernel
theorem dX0_border_2 : decode cX0_border 2 = .ok (.invokevirtual 81, 3) := by decide +kernel
theorem dX0_border_5 : decode cX0_border 5 = .ok (.ifCond .ne 5, 3) := by decide +kernel
theorem dX0_border_8 : decode cX0_border 8 = .ok (.iconst (-1), 1) := by decide +kernel
theorem dX0_border_9 : decode cX0_border 9 = .ok (.ireturn, 1) := by decide +kernel
theorem dX0_border_10 : decode cX0_border 10 = .ok (.iload_n 2, 1) := by decide +kernel
theorem dX0_border_11 : decode cX0_border 11 = .ok (.ifCond .ge 6, 3) := by decide +kernel
theorem dX0_border_14 : decode cX0_border 14 = .ok (.bipush (-2), 2) := by decide +kernel
theorem dX0_border_16 : decode cX0_border 16 = .ok (.ireturn, 1) := by decide +kernel
theorem dX0_border_17 : decode cX0_border 17 = .ok (.aload_n 0, 1) := by decide +kernel
theorem dX0_border_18 : decode cX0_border 18 = .ok (.iload_n 1, 1) := by decide +kernel
theorem dX0_border_19 : decode cX0_border 19 = .ok (.invokevirtual 181, 3) := by decide +kernel
theorem dX0_border_22 : decode cX0_border 22 = .ok (.i2l, 1) := by decide +kernel
theorem dX0_border_23 : decode cX0_border 23 = .ok (.lstore_n 3, 1) := by decide +kernel
theorem dX0_border_24 : decode cX0_border 24 = .ok (.iload_n 2, 1) := by decide +kernel
theorem dX0_border_25 : decode cX0_border 25 = .ok (.i2l, 1) := by decide +kernel
theorem dX0_border_26 : decode cX0_border 26 = .ok (.ldc2_w 184, 3) := by decide +kernel
theorem dX0_border_29 : decode cX0_border 29 = .ok (.lmul, 1) := by decide +kernel
theorem dX0_border_30 : decode cX0_border 30 = .ok (.lstore 5, 2) := by decide +kernel
theorem dX0_border_32 : decode cX0_border 32 = .ok (.aload_n 0, 1) := by decide +kernel
theorem dX0_border_33 : decode cX0_border 33 = .ok (.iload_n 1, 1) := by decide +kernel
theorem dX0_border_34 : decode cX0_border 34 = .ok (.aload_n 0, 1) := by decide +kernel
theorem dX0_border_35 : decode cX0_border 35 = .ok (.invokevirtual 117, 3) := by decide +kernel
theorem dX0_border_38 : decode cX0_border 38 = .ok (.invokevirtual 155, 3) := by decide +kernel
theorem dX0_border_41 : decode cX0_border 41 = .ok (.istore 7, 2) := by decide +kernel
theorem dX0_border_43 : decode cX0_border 43 = .ok (.iconst 0, 1) := by decide +kernel
theorem dX0_border_44 : decode cX0_border 44 = .ok (.istore 8, 2) := by decide +kernel
theorem dX0_border_46 : decode cX0_border 46 = .ok (.iconst 0, 1) := by decide +kernel
theorem dX0_border_47 : decode cX0_border 47 = .ok (.istore 9, 2) := by decide +kernel
theorem dX0_border_49 : decode cX0_border 49 = .ok (.iload 9, 2) := by decide +kernel
theorem dX0_border_51 : decode cX0_border 51 = .ok (.iload 7, 2) := by decide +kernel
theorem dX0_border_53 : decode cX0_border 53 = .ok (.if_icmp .ge 35, 3) := by decide +kernel
theorem dX0_border_56 : decode cX0_border 56 = .ok (.aload_n 0, 1) := by decide +kernel
theorem dX0_border_57 : decode cX0_border 57 = .ok (.getfield 42, 3) := by decide +kernel
theorem dX0_border_60 : decode cX0_border 60 = .ok (.iload 9, 2) := by decide +kernel
theorem dX0_border_62 : decode cX0_border 62 = .ok (.iaload, 1) := by decide +kernel
theorem dX0_border_63 : decode cX0_border 63 = .ok (.sipush 840, 3) := by decide +kernel
theorem dX0_border_66 : decode cX0_border 66 = .ok (.imul, 1) := by decide +kernel
theorem dX0_border_67 : decode cX0_border 67 = .ok (.i2l, 1) := by decide +kernel
theorem dX0_border_68 : decode cX0_border 68 = .ok (.lload_n 3, 1) := by decide +kernel
theorem dX0_border_69 : decode cX0_border 69 = .ok (.lsub, 1) := by decide +kernel
theorem dX0_border_70 : decode cX0_border 70 = .ok (.invokestatic 189, 3) := by decide +kernel
theorem dX0_border_73 : decode cX0_border 73 = .ok (.lload 5, 2) := by decide +kernel
theorem dX0_border_75 : decode cX0_border 75 = .ok (.lcmp, 1) := by decide +kernel
theorem dX0_border_76 : decode cX0_border 76 = .ok (.ifCond .gt 6, 3) := by decide +kernel
theorem dX0_border_79 : decode cX0_border 79 = .ok (.iinc 8 1, 3) := by decide +kernel
theorem dX0_border_82 : decode cX0_border 82 = .ok (.iinc 9 1, 3) := by decide +kernel
theorem dX0_border_85 : decode cX0_border 85 = .ok (.goto (-36), 3) := by decide +kernel
theorem dX0_border_88 : decode cX0_border 88 = .ok (.iload 8, 2) := by decide +kernel
theorem dX0_border_90 : decode cX0_border 90 = .ok (.ireturn, 1) := by decide +kernel
theorem dX0_alike_0 : decode cX0_alike 0 = .ok (.aload_n 0, 1) := by decide +kernel
theorem dX0_alike_1 : decode cX0_alike 1 = .ok (.iload_n 1, 1) := by decide +kernel
theorem dX0_alike_2 : decode cX0_alike 2 = .ok (.invokevirtual 103, 3) := by decide +kernel
theorem dX0_alike_5 : decode cX0_alike 5 = .ok (.ifCond .eq 11, 3) := by decide +kernel
theorem dX0_alike_8 : decode cX0_alike 8 = .ok (.aload_n 0, 1) := by decide +kernel
theorem dX0_alike_9 : decode cX0_alike 9 = .ok (.iload_n 2, 1) := by decide +kernel
theorem dX0_alike_10 : decode cX0_alike 10 = .ok (.invokevirtual 103, 3) := by decide +kernel
theorem dX0_alike_13 : decode cX0_alike 13 = .ok (.ifCond .ne 5, 3) := by decide +kernel
theorem dX0_alike_16 : decode cX0_alike 16 = .ok (.iconst (-1), 1) := by decide +kernel
theorem dX0_alike_17 : decode cX0_alike 17 = .ok (.ireturn, 1) := by decide +kernel
theorem dX0_alike_18 : decode cX0_alike 18 = .ok (.iload_n 1, 1) := by decide +kernel
theorem dX0_alike_19 : decode cX0_alike 19 = .ok (.iload_n 2, 1) := by decide +kernel
theorem dX0_alike_20 : decode cX0_alike 20 = .ok (.if_icmp .eq 18, 3) := by decide +kernel
theorem dX0_alike_23 : decode cX0_alike 23 = .ok (.aload_n 0, 1) := by decide +kernel
theorem dX0_alike_24 : decode cX0_alike 24 = .ok (.getfield 30, 3) := by decide +kernel
theorem dX0_alike_27 : decode cX0_alike 27 = .ok (.iload_n 1, 1) := by decide +kernel
theorem dX0_alike_28 : decode cX0_alike 28 = .ok (.iaload, 1) := by decide +kernel
theorem dX0_alike_29 : decode cX0_alike 29 = .ok (.aload_n 0, 1) := by decide +kernel
theorem dX0_alike_30 : decode cX0_alike 30 = .ok (.getfield 30, 3) := by decide +kernel
theorem dX0_alike_33 : decode cX0_alike 33 = .ok (.iload_n 2, 1) := by decide +kernel
theorem dX0_alike_34 : decode cX0_alike 34 = .ok (.iaload, 1) := by decide +kernel
theorem dX0_alike_35 : decode cX0_alike 35 = .ok (.if_icmp .eq 6, 3) := by decide +kernel
theorem dX0_alike_38 : decode cX0_alike 38 = .ok (.bipush (-2), 2) := by decide +kernel
theorem dX0_alike_40 : decode cX0_alike 40 = .ok (.ireturn, 1) := by decide +kernel
theorem dX0_alike_41 : decode cX0_alike 41 = .ok (.aload_n 0, 1) := by decide +kernel
theorem dX0_alike_42 : decode cX0_alike 42 = .ok (.iload_n 1, 1) := by decide +kernel
theorem dX0_alike_43 : decode cX0_alike 43 = .ok (.iload_n 2, 1) := by decide +kernel
theorem dX0_alike_44 : decode cX0_alike 44 = .ok (.invokevirtual 193, 3) := by decide +kernel
theorem dX0_alike_47 : decode cX0_alike 47 = .ok (.ireturn, 1) := by decide +kernel
theorem dX0_pair_0 : decode cX0_pair 0 = .ok (.aload_n 0, 1) := by decide +kernel
theorem dX0_pair_1 : decode cX0_pair 1 = .ok (.iload_n 1, 1) := by decide +kernel
theorem dX0_pair_2 : decode cX0_pair 2 = .ok (.invokevirtual 81, 3) := by decide +kernel
theorem dX0_pair_5 : decode cX0_pair 5 = .ok (.ifCond .eq 7, 3) := by decide +kernel
theorem dX0_pair_8 : decode cX0_pair 8 = .ok (.iload_n 3, 1) := by decide +kernel
theorem dX0_pair_9 : decode cX0_pair 9 = .ok (.ifCond .ge 5, 3) := by decide +kernel
theorem dX0_pair_12 : decode cX0_pair 12 = .ok (.iconst (-1), 1) := by decide +kernel
theorem dX0_pair_13 : decode cX0_pair 13 = .ok (.ireturn, 1) := by decide +kernel
theorem dX0_pair_14 : decode cX0_pair 14 = .ok (.iload_n 2, 1) := by decide +kernel
theorem dX0_pair_15 : decode cX0_pair 15 = .ok (.iconst 1, 1) := by decide +kernel
theorem dX0_pair_16 : decode cX0_pair 16 = .ok (.if_icmp .ge 6, 3) := by decide +kernel
theorem dX0_pair_19 : decode cX0_pair 19 = .ok (.bipush (-2), 2) := by decide +kernel
theorem dX0_pair_21 : decode cX0_pair 21 = .ok (.ireturn, 1) := by decide +kernel
theorem dX0_pair_22 : decode cX0_pair 22 = .ok (.iconst 0, 1) := by decide +kernel
theorem dX0_pair_23 : decode cX0_pair 23 = .ok (.istore 4, 2) := by decide +kernel
theorem dX0_pair_25 : decode cX0_pair 25 = .ok (.iconst 0, 1) := by decide +kernel
theorem dX0_pair_26 : decode cX0_pair 26 = .ok (.istore 5, 2) := by decide +kernel
theorem dX0_pair_28 : decode cX0_pair 28 = .ok (.iload 5, 2) := by decide +kernel
theorem dX0_pair_30 : decode cX0_pair 30 = .ok (.aload_n 0, 1) := by decide +kernel
theorem dX0_pair_31 : decode cX0_pair 31 = .ok (.getfield 90, 3) := by decide +kernel
theorem dX0_pair_34 : decode cX0_pair 34 = .ok (.if_icmp .ge 61, 3) := by decide +kernel
theorem dX0_pair_37 : decode cX0_pair 37 = .ok (.iload 5, 2) := by decide +kernel
theorem dX0_pair_39 : decode cX0_pair 39 = .ok (.iconst 1, 1) := by decide +kernel
theorem dX0_pair_40 : decode cX0_pair 40 = .ok (.iadd, 1) := by decide +kernel
theorem dX0_pair_41 : decode cX0_pair 41 = .ok (.istore 6, 2) := by decide +kernel
theorem dX0_pair_43 : decode cX0_pair 43 = .ok (.iload 6, 2) := by decide +kernel
theorem dX0_pair_45 : decode cX0_pair 45 = .ok (.aload_n 0, 1) := by decide +kernel
theorem dX0_pair_46 : decode cX0_pair 46 = .ok (.getfield 90, 3) := by decide +kernel
theorem dX0_pair_49 : decode cX0_pair 49 = .ok (.if_icmp .ge 40, 3) := by decide +kernel
theorem dX0_pair_52 : decode cX0_pair 52 = .ok (.aload_n 0, 1) := by decide +kernel
theorem dX0_pair_53 : decode cX0_pair 53 = .ok (.iload_n 1, 1) := by decide +kernel
theorem dX0_pair_54 : decode cX0_pair 54 = .ok (.iload 5, 2) := by decide +kernel
theorem dX0_pair_56 : decode cX0_pair 56 = .ok (.iload 6, 2) := by decide +kernel
theorem dX0_pair_58 : decode cX0_pair 58 = .ok (.iload_n 2, 1) := by decide +kernel
theorem dX0_pair_59 : decode cX0_pair 59 = .ok (.invokevirtual 196, 3) := by decide +kernel
theorem dX0_pair_62 : decode cX0_pair 62 = .ok (.ifCond .eq 21, 3) := by decide +kernel
theorem dX0_pair_65 : decode cX0_pair 65 = .ok (.iload 4, 2) := by decide +kernel
theorem dX0_pair_67 : decode cX0_pair 67 = .ok (.iload_n 3, 1) := by decide +kernel
theorem dX0_pair_68 : decode cX0_pair 68 = .ok (.if_icmp .ne 12, 3) := by decide +kernel
theorem dX0_pair_71 : decode cX0_pair 71 = .ok (.bipush 64, 2) := by decide +kernel
theorem dX0_pair_73 : decode cX0_pair 73 = .ok (.iload 5, 2) := by decide +kernel
theorem dX0_pair_75 : decode cX0_pair 75 = .ok (.imul, 1) := by decide +kernel
theorem dX0_pair_76 : decode cX0_pair 76 = .ok (.iload 6, 2) := by decide +kernel
theorem dX0_pair_78 : decode cX0_pair 78 = .ok (.iadd, 1) := by decide +kernel
theorem dX0_pair_79 : decode cX0_pair 79 = .ok (.ireturn, 1) := by decide +kernel
theorem dX0_pair_80 : decode cX0_pair 80 = .ok (.iinc 4 1, 3) := by decide +kernel
theorem dX0_pair_83 : decode cX0_pair 83 = .ok (.iinc 6 1, 3) := by decide +kernel
theorem dX0_pair_86 : decode cX0_pair 86 = .ok (.goto (-43), 3) := by decide +kernel
theorem dX0_pair_89 : decode cX0_pair 89 = .ok (.iinc 5 1, 3) := by decide +kernel
theorem dX0_pair_92 : decode cX0_pair 92 = .ok (.goto (-64), 3) := by decide +kernel
theorem dX0_pair_95 : decode cX0_pair 95 = .ok (.iconst (-1), 1) := by decide +kernel
theorem dX0_pair_96 : decode cX0_pair 96 = .ok (.ireturn, 1) := by decide +kernel
theorem dX0_count_0 : decode cX0_count 0 = .ok (.iload_n 1, 1) := by decide +kernel
theorem dX0_count_1 : decode cX0_count 1 = .ok (.tableswitch 72 0 5 #[39, 44, 49, 54, 59, 67], 39) := by decide +kernel
theorem dX0_count_40 : decode cX0_count 40 = .ok (.aload_n 0, 1) := by decide +kernel
theorem dX0_count_41 : decode cX0_count 41 = .ok (.getfield 61, 3) := by decide +kernel
theorem dX0_count_44 : decode cX0_count 44 = .ok (.ireturn, 1) := by decide +kernel
theorem dX0_count_45 : decode cX0_count 45 = .ok (.aload_n 0, 1) := by decide +kernel
theorem dX0_count_46 : decode cX0_count 46 = .ok (.getfield 78, 3) := by decide +kernel
theorem dX0_count_49 : decode cX0_count 49 = .ok (.ireturn, 1) := by decide +kernel
theorem dX0_count_50 : decode cX0_count 50 = .ok (.aload_n 0, 1) := by decide +kernel
theorem dX0_count_51 : decode cX0_count 51 = .ok (.getfield 90, 3) := by decide +kernel
theorem dX0_count_54 : decode cX0_count 54 = .ok (.ireturn, 1) := by decide +kernel
theorem dX0_count_55 : decode cX0_count 55 = .ok (.aload_n 0, 1) := by decide +kernel
theorem dX0_count_56 : decode cX0_count 56 = .ok (.invokevirtual 200, 3) := by decide +kernel
theorem dX0_count_59 : decode cX0_count 59 = .ok (.ireturn, 1) := by decide +kernel
theorem dX0_count_60 : decode cX0_count 60 = .ok (.aload_n 0, 1) := by decide +kernel
theorem dX0_count_61 : decode cX0_count 61 = .ok (.getfield 71, 3) := by decide +kernel
theorem dX0_count_64 : decode cX0_count 64 = .ok (.invokestatic 149, 3) := by decide +kernel
theorem dX0_count_67 : decode cX0_count 67 = .ok (.ireturn, 1) := by decide +kernel
theorem dX0_count_68 : decode cX0_count 68 = .ok (.aload_n 0, 1) := by decide +kernel
theorem dX0_count_69 : decode cX0_count 69 = .ok (.invokevirtual 203, 3) := by decide +kernel
theorem dX0_count_72 : decode cX0_count 72 = .ok (.ireturn, 1) := by decide +kernel
theorem dX0_count_73 : decode cX0_count 73 = .ok (.iconst (-1), 1) := by decide +kernel
theorem dX0_count_74 : decode cX0_count 74 = .ok (.ireturn, 1) := by decide +kernel
theorem dX0_isQuestion_0 : decode cX0_isQuestion 0 = .ok (.iload_n 1, 1) := by decide +kernel
theorem dX0_isQuestion_1 : decode cX0_isQuestion 1 = .ok (.ifCond .lt 15, 3) := by decide +kernel
theorem dX0_isQuestion_4 : decode cX0_isQuestion 4 = .ok (.iload_n 1, 1) := by decide +kernel
theorem dX0_isQuestion_5 : decode cX0_isQuestion 5 = .ok (.aload_n 0, 1) := by decide +kernel
theorem dX0_isQuestion_6 : decode cX0_isQuestion 6 = .ok (.getfield 61, 3) := by decide +kernel
theorem dX0_isQuestion_9 : decode cX0_isQuestion 9 = .ok (.if_icmp .ge 7, 3) := by decide +kernel
theorem dX0_isQuestion_12 : decode cX0_isQuestion 12 = .ok (.iconst 1, 1) := by decide +kernel
theorem dX0_isQuestion_13 : decode cX0_isQuestion 13 = .ok (.goto 4, 3) := by decide +kernel
theorem dX0_isQuestion_16 : decode cX0_isQuestion 16 = .ok (.iconst 0, 1) := by decide +kernel
theorem dX0_isQuestion_17 : decode cX0_isQuestion 17 = .ok (.ireturn, 1) := by decide +kernel
theorem dX0_isPaper_0 : decode cX0_isPaper 0 = .ok (.iload_n 1, 1) := by decide +kernel
theorem dX0_isPaper_1 : decode cX0_isPaper 1 = .ok (.ifCond .lt 15, 3) := by decide +kernel
theorem dX0_isPaper_4 : decode cX0_isPaper 4 = .ok (.iload_n 1, 1) := by decide +kernel
theorem dX0_isPaper_5 : decode cX0_isPaper 5 = .ok (.aload_n 0, 1) := by decide +kernel
theorem dX0_isPaper_6 : decode cX0_isPaper 6 = .ok (.getfield 78, 3) := by decide +kernel
theorem dX0_isPaper_9 : decode cX0_isPaper 9 = .ok (.if_icmp .ge 7, 3) := by decide +kernel
theorem dX0_isPaper_12 : decode cX0_isPaper 12 = .ok (.iconst 1, 1) := by decide +kernel
theorem dX0_isPaper_13 : decode cX0_isPaper 13 = .ok (.goto 4, 3) := by decide +kernel
theorem dX0_isPaper_16 : decode cX0_isPaper 16 = .ok (.iconst 0, 1) := by decide +kernel
theorem dX0_isPaper_17 : decode cX0_isPaper 17 = .ok (.ireturn, 1) := by decide +kernel
theorem dX0_isPupil_0 : decode cX0_isPupil 0 = .ok (.iload_n 1, 1) := by decide +kernel
theorem dX0_isPupil_1 : decode cX0_isPupil 1 = .ok (.ifCond .lt 15, 3) := by decide +kernel
theorem dX0_isPupil_4 : decode cX0_isPupil 4 = .ok (.iload_n 1, 1) := by decide +kernel
theorem dX0_isPupil_5 : decode cX0_isPupil 5 = .ok (.aload_n 0, 1) := by decide +kernel
theorem dX0_isPupil_6 : decode cX0_isPupil 6 = .ok (.getfield 90, 3) := by decide +kernel
theorem dX0_isPupil_9 : decode cX0_isPupil 9 = .ok (.if_icmp .ge 7, 3) := by decide +kernel
theorem dX0_isPupil_12 : decode cX0_isPupil 12 = .ok (.iconst 1, 1) := by decide +kernel
theorem dX0_isPupil_13 : decode cX0_isPupil 13 = .ok (.goto 4, 3) := by decide +kernel
theorem dX0_isPupil_16 : decode cX0_isPupil 16 = .ok (.iconst 0, 1) := by decide +kernel
theorem dX0_isPupil_17 : decode cX0_isPupil 17 = .ok (.ireturn, 1) := by decide +kernel
theorem dX0_isPlace_0 : decode cX0_isPlace 0 = .ok (.iload_n 0, 1) := by decide +kernel
theorem dX0_isPlace_1 : decode cX0_isPlace 1 = .ok (.ifCond .lt 12, 3) := by decide +kernel
theorem dX0_isPlace_4 : decode cX0_isPlace 4 = .ok (.iload_n 0, 1) := by decide +kernel
theorem dX0_isPlace_5 : decode cX0_isPlace 5 = .ok (.iconst 4, 1) := by decide +kernel
theorem dX0_isPlace_6 : decode cX0_isPlace 6 = .ok (.if_icmp .ge 7, 3) := by decide +kernel
theorem dX0_isPlace_9 : decode cX0_isPlace 9 = .ok (.iconst 1, 1) := by decide +kernel
theorem dX0_isPlace_10 : decode cX0_isPlace 10 = .ok (.goto 4, 3) := by decide +kernel
theorem dX0_isPlace_13 : decode cX0_isPlace 13 = .ok (.iconst 0, 1) := by decide +kernel
theorem dX0_isPlace_14 : decode cX0_isPlace 14 = .ok (.ireturn, 1) := by decide +kernel
theorem dX0_isKey_0 : decode cX0_isKey 0 = .ok (.iload_n 0, 1) := by decide +kernel
theorem dX0_isKey_1 : decode cX0_isKey 1 = .ok (.iconst 1, 1) := by decide +kernel
theorem dX0_isKey_2 : decode cX0_isKey 2 = .ok (.if_icmp .lt 14, 3) := by decide +kernel
theorem dX0_isKey_5 : decode cX0_isKey 5 = .ok (.iload_n 0, 1) := by decide +kernel
theorem dX0_isKey_6 : decode cX0_isKey 6 = .ok (.sipush 255, 3) := by decide +kernel
theorem dX0_isKey_9 : decode cX0_isKey 9 = .ok (.if_icmp .gt 7, 3) := by decide +kernel
theorem dX0_isKey_12 : decode cX0_isKey 12 = .ok (.iconst 1, 1) := by decide +kernel
theorem dX0_isKey_13 : decode cX0_isKey 13 = .ok (.goto 4, 3) := by decide +kernel
theorem dX0_isKey_16 : decode cX0_isKey 16 = .ok (.iconst 0, 1) := by decide +kernel
theorem dX0_isKey_17 : decode cX0_isKey 17 = .ok (.ireturn, 1) := by decide +kernel
theorem dX0_isBar_0 : decode cX0_isBar 0 = .ok (.iload_n 0, 1) := by decide +kernel
theorem dX0_isBar_1 : decode cX0_isBar 1 = .ok (.iconst 1, 1) := by decide +kernel
theorem dX0_isBar_2 : decode cX0_isBar 2 = .ok (.if_icmp .lt 13, 3) := by decide +kernel
theorem dX0_isBar_5 : decode cX0_isBar 5 = .ok (.iload_n 0, 1) := by decide +kernel
theorem dX0_isBar_6 : decode cX0_isBar 6 = .ok (.bipush 100, 2) := by decide +kernel
theorem dX0_isBar_8 : decode cX0_isBar 8 = .ok (.if_icmp .gt 7, 3) := by decide +kernel
theorem dX0_isBar_11 : decode cX0_isBar 11 = .ok (.iconst 1, 1) := by decide +kernel
theorem dX0_isBar_12 : decode cX0_isBar 12 = .ok (.goto 4, 3) := by decide +kernel
theorem dX0_isBar_15 : decode cX0_isBar 15 = .ok (.iconst 0, 1) := by decide +kernel
theorem dX0_isBar_16 : decode cX0_isBar 16 = .ok (.ireturn, 1) := by decide +kernel
theorem dX0_isTotal_0 : decode cX0_isTotal 0 = .ok (.iload_n 0, 1) := by decide +kernel
theorem dX0_isTotal_1 : decode cX0_isTotal 1 = .ok (.ifCond .lt 13, 3) := by decide +kernel
theorem dX0_isTotal_4 : decode cX0_isTotal 4 = .ok (.iload_n 0, 1) := by decide +kernel
theorem dX0_isTotal_5 : decode cX0_isTotal 5 = .ok (.bipush 120, 2) := by decide +kernel
theorem dX0_isTotal_7 : decode cX0_isTotal 7 = .ok (.if_icmp .gt 7, 3) := by decide +kernel
theorem dX0_isTotal_10 : decode cX0_isTotal 10 = .ok (.iconst 1, 1) := by decide +kernel
theorem dX0_isTotal_11 : decode cX0_isTotal 11 = .ok (.goto 4, 3) := by decide +kernel
theorem dX0_isTotal_14 : decode cX0_isTotal 14 = .ok (.iconst 0, 1) := by decide +kernel
theorem dX0_isTotal_15 : decode cX0_isTotal 15 = .ok (.ireturn, 1) := by decide +kernel
theorem dX0_isPart_0 : decode cX0_isPart 0 = .ok (.iload_n 0, 1) := by decide +kernel
theorem dX0_isPart_1 : decode cX0_isPart 1 = .ok (.ifCond .eq 8, 3) := by decide +kernel
theorem dX0_isPart_4 : decode cX0_isPart 4 = .ok (.iload_n 0, 1) := by decide +kernel
theorem dX0_isPart_5 : decode cX0_isPart 5 = .ok (.iconst 1, 1) := by decide +kernel
theorem dX0_isPart_6 : decode cX0_isPart 6 = .ok (.if_icmp .ne 7, 3) := by decide +kernel
theorem dX0_isPart_9 : decode cX0_isPart 9 = .ok (.iconst 1, 1) := by decide +kernel
theorem dX0_isPart_10 : decode cX0_isPart 10 = .ok (.goto 4, 3) := by decide +kernel
theorem dX0_isPart_13 : decode cX0_isPart 13 = .ok (.iconst 0, 1) := by decide +kernel
theorem dX0_isPart_14 : decode cX0_isPart 14 = .ok (.ireturn, 1) := by decide +kernel
theorem dX0_isAnswer_0 : decode cX0_isAnswer 0 = .ok (.aload_n 0, 1) := by decide +kernel
theorem dX0_isAnswer_1 : decode cX0_isAnswer 1 = .ok (.getfield 15, 3) := by decide +kernel
theorem dX0_isAnswer_4 : decode cX0_isAnswer 4 = .ok (.iload_n 1, 1) := by decide +kernel
theorem dX0_isAnswer_5 : decode cX0_isAnswer 5 = .ok (.iaload, 1) := by decide +kernel
theorem dX0_isAnswer_6 : decode cX0_isAnswer 6 = .ok (.istore_n 3, 1) := by decide +kernel
theorem dX0_isAnswer_7 : decode cX0_isAnswer 7 = .ok (.aload_n 0, 1) := by decide +kernel
theorem dX0_isAnswer_8 : decode cX0_isAnswer 8 = .ok (.getfield 11, 3) := by decide +kernel
theorem dX0_isAnswer_11 : decode cX0_isAnswer 11 = .ok (.iload_n 1, 1) := by decide +kernel
theorem dX0_isAnswer_12 : decode cX0_isAnswer 12 = .ok (.iaload, 1) := by decide +kernel
theorem dX0_isAnswer_13 : decode cX0_isAnswer 13 = .ok (.iconst 1, 1) := by decide +kernel
theorem dX0_isAnswer_14 : decode cX0_isAnswer 14 = .ok (.if_icmp .ne 9, 3) := by decide +kernel
theorem dX0_isAnswer_17 : decode cX0_isAnswer 17 = .ok (.bipush 7, 2) := by decide +kernel
theorem dX0_isAnswer_19 : decode cX0_isAnswer 19 = .ok (.istore_n 3, 1) := by decide +kernel
theorem dX0_isAnswer_20 : decode cX0_isAnswer 20 = .ok (.goto 24, 3) := by decide +kernel
theorem dX0_isAnswer_23 : decode cX0_isAnswer 23 = .ok (.aload_n 0, 1) := by decide +kernel
theorem dX0_isAnswer_24 : decode cX0_isAnswer 24 = .ok (.getfield 11, 3) := by decide +kernel
theorem dX0_isAnswer_27 : decode cX0_isAnswer 27 = .ok (.iload_n 1, 1) := by decide +kernel
theorem dX0_isAnswer_28 : decode cX0_isAnswer 28 = .ok (.iaload, 1) := by decide +kernel
theorem dX0_isAnswer_29 : decode cX0_isAnswer 29 = .ok (.iconst 2, 1) := by decide +kernel
theorem dX0_isAnswer_30 : decode cX0_isAnswer 30 = .ok (.if_icmp .ne 14, 3) := by decide +kernel
theorem dX0_isAnswer_33 : decode cX0_isAnswer 33 = .ok (.iconst 1, 1) := by decide +kernel
theorem dX0_isAnswer_34 : decode cX0_isAnswer 34 = .ok (.aload_n 0, 1) := by decide +kernel
theorem dX0_isAnswer_35 : decode cX0_isAnswer 35 = .ok (.getfield 15, 3) := by decide +kernel
theorem dX0_isAnswer_38 : decode cX0_isAnswer 38 = .ok (.iload_n 1, 1) := by decide +kernel
theorem dX0_isAnswer_39 : decode cX0_isAnswer 39 = .ok (.iaload, 1) := by decide +kernel
theorem dX0_isAnswer_40 : decode cX0_isAnswer 40 = .ok (.ishl, 1) := by decide +kernel
theorem dX0_isAnswer_41 : decode cX0_isAnswer 41 = .ok (.iconst 1, 1) := by decide +kernel
theorem dX0_isAnswer_42 : decode cX0_isAnswer 42 = .ok (.isub, 1) := by decide +kernel
theorem dX0_isAnswer_43 : decode cX0_isAnswer 43 = .ok (.istore_n 3, 1) := by decide +kernel
theorem dX0_isAnswer_44 : decode cX0_isAnswer 44 = .ok (.iload_n 2, 1) := by decide +kernel
theorem dX0_isAnswer_45 : decode cX0_isAnswer 45 = .ok (.ifCond .lt 12, 3) := by decide +kernel
theorem dX0_isAnswer_48 : decode cX0_isAnswer 48 = .ok (.iload_n 2, 1) := by decide +kernel
theorem dX0_isAnswer_49 : decode cX0_isAnswer 49 = .ok (.iload_n 3, 1) := by decide +kernel
theorem dX0_isAnswer_50 : decode cX0_isAnswer 50 = .ok (.if_icmp .gt 7, 3) := by decide +kernel
theorem dX0_isAnswer_53 : decode cX0_isAnswer 53 = .ok (.iconst 1, 1) := by decide +kernel
theorem dX0_isAnswer_54 : decode cX0_isAnswer 54 = .ok (.goto 4, 3) := by decide +kernel
theorem dX0_isAnswer_57 : decode cX0_isAnswer 57 = .ok (.iconst 0, 1) := by decide +kernel
theorem dX0_isAnswer_58 : decode cX0_isAnswer 58 = .ok (.ireturn, 1) := by decide +kernel
theorem dX0_hasPupil_0 : decode cX0_hasPupil 0 = .ok (.iconst 0, 1) := by decide +kernel
theorem dX0_hasPupil_1 : decode cX0_hasPupil 1 = .ok (.istore_n 2, 1) := by decide +kernel
theorem dX0_hasPupil_2 : decode cX0_hasPupil 2 = .ok (.iload_n 2, 1) := by decide +kernel
theorem dX0_hasPupil_3 : decode cX0_hasPupil 3 = .ok (.aload_n 0, 1) := by decide +kernel
theorem dX0_hasPupil_4 : decode cX0_hasPupil 4 = .ok (.getfield 90, 3) := by decide +kernel
theorem dX0_hasPupil_7 : decode cX0_hasPupil 7 = .ok (.if_icmp .ge 21, 3) := by decide +kernel
theorem dX0_hasPupil_10 : decode cX0_hasPupil 10 = .ok (.aload_n 0, 1) := by decide +kernel
theorem dX0_hasPupil_11 : decode cX0_hasPupil 11 = .ok (.getfield 30, 3) := by decide +kernel
theorem dX0_hasPupil_14 : decode cX0_hasPupil 14 = .ok (.iload_n 2, 1) := by decide +kernel
theorem dX0_hasPupil_15 : decode cX0_hasPupil 15 = .ok (.iaload, 1) := by decide +kernel
theorem dX0_hasPupil_16 : decode cX0_hasPupil 16 = .ok (.iload_n 1, 1) := by decide +kernel
theorem dX0_hasPupil_17 : decode cX0_hasPupil 17 = .ok (.if_icmp .ne 5, 3) := by decide +kernel
theorem dX0_hasPupil_20 : decode cX0_hasPupil 20 = .ok (.iconst 1, 1) := by decide +kernel
theorem dX0_hasPupil_21 : decode cX0_hasPupil 21 = .ok (.ireturn, 1) := by decide +kernel
theorem dX0_hasPupil_22 : decode cX0_hasPupil 22 = .ok (.iinc 2 1, 3) := by decide +kernel
theorem dX0_hasPupil_25 : decode cX0_hasPupil 25 = .ok (.goto (-23), 3) := by decide +kernel
theorem dX0_hasPupil_28 : decode cX0_hasPupil 28 = .ok (.iconst 0, 1) := by decide +kernel
theorem dX0_hasPupil_29 : decode cX0_hasPupil 29 = .ok (.ireturn, 1) := by decide +kernel
theorem dX0_isIn_0 : decode cX0_isIn 0 = .ok (.iload_n 0, 1) := by decide +kernel
theorem dX0_isIn_1 : decode cX0_isIn 1 = .ok (.iload_n 1, 1) := by decide +kernel
theorem dX0_isIn_2 : decode cX0_isIn 2 = .ok (.ishr, 1) := by decide +kernel
theorem dX0_isIn_3 : decode cX0_isIn 3 = .ok (.iconst 1, 1) := by decide +kernel
theorem dX0_isIn_4 : decode cX0_isIn 4 = .ok (.iand, 1) := by decide +kernel
theorem dX0_isIn_5 : decode cX0_isIn 5 = .ok (.iconst 1, 1) := by decide +kernel
theorem dX0_isIn_6 : decode cX0_isIn 6 = .ok (.if_icmp .ne 7, 3) := by decide +kernel
theorem dX0_isIn_9 : decode cX0_isIn 9 = .ok (.iconst 1, 1) := by decide +kernel
theorem dX0_isIn_10 : decode cX0_isIn 10 = .ok (.goto 4, 3) := by decide +kernel
theorem dX0_isIn_13 : decode cX0_isIn 13 = .ok (.iconst 0, 1) := by decide +kernel
theorem dX0_isIn_14 : decode cX0_isIn 14 = .ok (.ireturn, 1) := by decide +kernel
theorem dX0_countingSet_0 : decode cX0_countingSet 0 = .ok (.aload_n 0, 1) := by decide +kernel
theorem dX0_countingSet_1 : decode cX0_countingSet 1 = .ok (.getfield 71, 3) := by decide +kernel
theorem dX0_countingSet_4 : decode cX0_countingSet 4 = .ok (.aload_n 0, 1) := by decide +kernel
theorem dX0_countingSet_5 : decode cX0_countingSet 5 = .ok (.getfield 65, 3) := by decide +kernel
theorem dX0_countingSet_8 : decode cX0_countingSet 8 = .ok (.ior, 1) := by decide +kernel
theorem dX0_countingSet_9 : decode cX0_countingSet 9 = .ok (.iconst (-1), 1) := by decide +kernel
theorem dX0_countingSet_10 : decode cX0_countingSet 10 = .ok (.ixor, 1) := by decide +kernel
theorem dX0_countingSet_11 : decode cX0_countingSet 11 = .ok (.ireturn, 1) := by decide +kernel
theorem dX0_sharedSet_0 : decode cX0_sharedSet 0 = .ok (.aload_n 0, 1) := by decide +kernel
theorem dX0_sharedSet_1 : decode cX0_sharedSet 1 = .ok (.getfield 24, 3) := by decide +kernel
theorem dX0_sharedSet_4 : decode cX0_sharedSet 4 = .ok (.iload_n 1, 1) := by decide +kernel
theorem dX0_sharedSet_5 : decode cX0_sharedSet 5 = .ok (.iaload, 1) := by decide +kernel
theorem dX0_sharedSet_6 : decode cX0_sharedSet 6 = .ok (.aload_n 0, 1) := by decide +kernel
theorem dX0_sharedSet_7 : decode cX0_sharedSet 7 = .ok (.getfield 24, 3) := by decide +kernel
theorem dX0_sharedSet_10 : decode cX0_sharedSet 10 = .ok (.iload_n 2, 1) := by decide +kernel
theorem dX0_sharedSet_11 : decode cX0_sharedSet 11 = .ok (.iaload, 1) := by decide +kernel
theorem dX0_sharedSet_12 : decode cX0_sharedSet 12 = .ok (.iand, 1) := by decide +kernel
theorem dX0_sharedSet_13 : decode cX0_sharedSet 13 = .ok (.aload_n 0, 1) := by decide +kernel
theorem dX0_sharedSet_14 : decode cX0_sharedSet 14 = .ok (.invokevirtual 117, 3) := by decide +kernel
theorem dX0_sharedSet_17 : decode cX0_sharedSet 17 = .ok (.iand, 1) := by decide +kernel
theorem dX0_sharedSet_18 : decode cX0_sharedSet 18 = .ok (.ireturn, 1) := by decide +kernel
theorem dX0_spotOf_0 : decode cX0_spotOf 0 = .ok (.aload_n 0, 1) := by decide +kernel
theorem dX0_spotOf_1 : decode cX0_spotOf 1 = .ok (.getfield 24, 3) := by decide +kernel
theorem dX0_spotOf_4 : decode cX0_spotOf 4 = .ok (.iload_n 1, 1) := by decide +kernel
theorem dX0_spotOf_5 : decode cX0_spotOf 5 = .ok (.iaload, 1) := by decide +kernel
theorem dX0_spotOf_6 : decode cX0_spotOf 6 = .ok (.iload_n 2, 1) := by decide +kernel
theorem dX0_spotOf_7 : decode cX0_spotOf 7 = .ok (.invokestatic 74, 3) := by decide +kernel
theorem dX0_spotOf_10 : decode cX0_spotOf 10 = .ok (.ifCond .ne 5, 3) := by decide +kernel
theorem dX0_spotOf_13 : decode cX0_spotOf 13 = .ok (.iconst (-1), 1) := by decide +kernel
theorem dX0_spotOf_14 : decode cX0_spotOf 14 = .ok (.ireturn, 1) := by decide +kernel
theorem dX0_spotOf_15 : decode cX0_spotOf 15 = .ok (.iconst 0, 1) := by decide +kernel
theorem dX0_spotOf_16 : decode cX0_spotOf 16 = .ok (.istore_n 3, 1) := by decide +kernel
theorem dX0_spotOf_17 : decode cX0_spotOf 17 = .ok (.iload_n 3, 1) := by decide +kernel
theorem dX0_spotOf_18 : decode cX0_spotOf 18 = .ok (.aload_n 0, 1) := by decide +kernel
theorem dX0_spotOf_19 : decode cX0_spotOf 19 = .ok (.getfield 21, 3) := by decide +kernel
theorem dX0_spotOf_22 : decode cX0_spotOf 22 = .ok (.iload_n 1, 1) := by decide +kernel
theorem dX0_spotOf_23 : decode cX0_spotOf 23 = .ok (.iaload, 1) := by decide +kernel
theorem dX0_spotOf_24 : decode cX0_spotOf 24 = .ok (.if_icmp .ge 26, 3) := by decide +kernel
theorem dX0_spotOf_27 : decode cX0_spotOf 27 = .ok (.aload_n 0, 1) := by decide +kernel
theorem dX0_spotOf_28 : decode cX0_spotOf 28 = .ok (.getfield 27, 3) := by decide +kernel
theorem dX0_spotOf_31 : decode cX0_spotOf 31 = .ok (.iload_n 1, 1) := by decide +kernel
theorem dX0_spotOf_32 : decode cX0_spotOf 32 = .ok (.bipush 12, 2) := by decide +kernel
theorem dX0_spotOf_34 : decode cX0_spotOf 34 = .ok (.imul, 1) := by decide +kernel
theorem dX0_spotOf_35 : decode cX0_spotOf 35 = .ok (.iload_n 3, 1) := by decide +kernel
theorem dX0_spotOf_36 : decode cX0_spotOf 36 = .ok (.iadd, 1) := by decide +kernel
theorem dX0_spotOf_37 : decode cX0_spotOf 37 = .ok (.iaload, 1) := by decide +kernel
theorem dX0_spotOf_38 : decode cX0_spotOf 38 = .ok (.iload_n 2, 1) := by decide +kernel
theorem dX0_spotOf_39 : decode cX0_spotOf 39 = .ok (.if_icmp .ne 5, 3) := by decide +kernel
theorem dX0_spotOf_42 : decode cX0_spotOf 42 = .ok (.iload_n 3, 1) := by decide +kernel
theorem dX0_spotOf_43 : decode cX0_spotOf 43 = .ok (.ireturn, 1) := by decide +kernel
theorem dX0_spotOf_44 : decode cX0_spotOf 44 = .ok (.iinc 3 1, 3) := by decide +kernel
theorem dX0_spotOf_47 : decode cX0_spotOf 47 = .ok (.goto (-30), 3) := by decide +kernel
theorem dX0_spotOf_50 : decode cX0_spotOf 50 = .ok (.iconst (-1), 1) := by decide +kernel
theorem dX0_spotOf_51 : decode cX0_spotOf 51 = .ok (.ireturn, 1) := by decide +kernel
theorem dX0_spotFor_0 : decode cX0_spotFor 0 = .ok (.aload_n 0, 1) := by decide +kernel
theorem dX0_spotFor_1 : decode cX0_spotFor 1 = .ok (.iload_n 1, 1) := by decide +kernel
theorem dX0_spotFor_2 : decode cX0_spotFor 2 = .ok (.invokevirtual 103, 3) := by decide +kernel
theorem dX0_spotFor_5 : decode cX0_spotFor 5 = .ok (.ifCond .eq 11, 3) := by decide +kernel
theorem dX0_spotFor_8 : decode cX0_spotFor 8 = .ok (.aload_n 0, 1) := by decide +kernel
theorem dX0_spotFor_9 : decode cX0_spotFor 9 = .ok (.iload_n 2, 1) := by decide +kernel
theorem dX0_spotFor_10 : decode cX0_spotFor 10 = .ok (.invokevirtual 68, 3) := by decide +kernel
theorem dX0_spotFor_13 : decode cX0_spotFor 13 = .ok (.ifCond .ne 5, 3) := by decide +kernel
theorem dX0_spotFor_16 : decode cX0_spotFor 16 = .ok (.iconst (-1), 1) := by decide +kernel
theorem dX0_spotFor_17 : decode cX0_spotFor 17 = .ok (.ireturn, 1) := by decide +kernel
theorem dX0_spotFor_18 : decode cX0_spotFor 18 = .ok (.aload_n 0, 1) := by decide +kernel
theorem dX0_spotFor_19 : decode cX0_spotFor 19 = .ok (.aload_n 0, 1) := by decide +kernel
theorem dX0_spotFor_20 : decode cX0_spotFor 20 = .ok (.getfield 30, 3) := by decide +kernel
theorem dX0_spotFor_23 : decode cX0_spotFor 23 = .ok (.iload_n 1, 1) := by decide +kernel
theorem dX0_spotFor_24 : decode cX0_spotFor 24 = .ok (.iaload, 1) := by decide +kernel
theorem dX0_spotFor_25 : decode cX0_spotFor 25 = .ok (.iload_n 2, 1) := by decide +kernel
theorem dX0_spotFor_26 : decode cX0_spotFor 26 = .ok (.invokevirtual 178, 3) := by decide +kernel
theorem dX0_spotFor_29 : decode cX0_spotFor 29 = .ok (.ireturn, 1) := by decide +kernel
theorem dX0_worth_0 : decode cX0_worth 0 = .ok (.aload_n 0, 1) := by decide +kernel
theorem dX0_worth_1 : decode cX0_worth 1 = .ok (.getfield 11, 3) := by decide +kernel
theorem dX0_worth_4 : decode cX0_worth 4 = .ok (.iload_n 1, 1) := by decide +kernel
theorem dX0_worth_5 : decode cX0_worth 5 = .ok (.iaload, 1) := by decide +kernel
theorem dX0_worth_6 : decode cX0_worth 6 = .ok (.iconst 1, 1) := by decide +kernel
theorem dX0_worth_7 : decode cX0_worth 7 = .ok (.if_icmp .ne 27, 3) := by decide +kernel
theorem dX0_worth_10 : decode cX0_worth 10 = .ok (.aload_n 0, 1) := by decide +kernel
theorem dX0_worth_11 : decode cX0_worth 11 = .ok (.getfield 18, 3) := by decide +kernel
theorem dX0_worth_14 : decode cX0_worth 14 = .ok (.iload_n 1, 1) := by decide +kernel
theorem dX0_worth_15 : decode cX0_worth 15 = .ok (.iaload, 1) := by decide +kernel
theorem dX0_worth_16 : decode cX0_worth 16 = .ok (.iload_n 2, 1) := by decide +kernel
theorem dX0_worth_17 : decode cX0_worth 17 = .ok (.invokestatic 74, 3) := by decide +kernel
theorem dX0_worth_20 : decode cX0_worth 20 = .ok (.ifCond .eq 12, 3) := by decide +kernel
theorem dX0_worth_23 : decode cX0_worth 23 = .ok (.aload_n 0, 1) := by decide +kernel
theorem dX0_worth_24 : decode cX0_worth 24 = .ok (.getfield 15, 3) := by decide +kernel
theorem dX0_worth_27 : decode cX0_worth 27 = .ok (.iload_n 1, 1) := by decide +kernel
theorem dX0_worth_28 : decode cX0_worth 28 = .ok (.iaload, 1) := by decide +kernel
theorem dX0_worth_29 : decode cX0_worth 29 = .ok (.goto 4, 3) := by decide +kernel
theorem dX0_worth_32 : decode cX0_worth 32 = .ok (.iconst 0, 1) := by decide +kernel
theorem dX0_worth_33 : decode cX0_worth 33 = .ok (.ireturn, 1) := by decide +kernel
theorem dX0_worth_34 : decode cX0_worth 34 = .ok (.aload_n 0, 1) := by decide +kernel
theorem dX0_worth_35 : decode cX0_worth 35 = .ok (.getfield 11, 3) := by decide +kernel
theorem dX0_worth_38 : decode cX0_worth 38 = .ok (.iload_n 1, 1) := by decide +kernel
theorem dX0_worth_39 : decode cX0_worth 39 = .ok (.iaload, 1) := by decide +kernel
theorem dX0_worth_40 : decode cX0_worth 40 = .ok (.iconst 2, 1) := by decide +kernel
theorem dX0_worth_41 : decode cX0_worth 41 = .ok (.if_icmp .ne 10, 3) := by decide +kernel
theorem dX0_worth_44 : decode cX0_worth 44 = .ok (.iload_n 2, 1) := by decide +kernel
theorem dX0_worth_45 : decode cX0_worth 45 = .ok (.invokestatic 206, 3) := by decide +kernel
theorem dX0_worth_48 : decode cX0_worth 48 = .ok (.goto 4, 3) := by decide +kernel
theorem dX0_worth_51 : decode cX0_worth 51 = .ok (.iload_n 2, 1) := by decide +kernel
theorem dX0_worth_52 : decode cX0_worth 52 = .ok (.ireturn, 1) := by decide +kernel
theorem dX0_stepsInRow_0 : decode cX0_stepsInRow 0 = .ok (.iconst 0, 1) := by decide +kernel
theorem dX0_stepsInRow_1 : decode cX0_stepsInRow 1 = .ok (.istore_n 1, 1) := by decide +kernel
theorem dX0_stepsInRow_2 : decode cX0_stepsInRow 2 = .ok (.iload_n 1, 1) := by decide +kernel
theorem dX0_stepsInRow_3 : decode cX0_stepsInRow 3 = .ok (.bipush 10, 2) := by decide +kernel
theorem dX0_stepsInRow_5 : decode cX0_stepsInRow 5 = .ok (.if_icmp .ge 18, 3) := by decide +kernel
theorem dX0_stepsInRow_8 : decode cX0_stepsInRow 8 = .ok (.iload_n 0, 1) := by decide +kernel
theorem dX0_stepsInRow_9 : decode cX0_stepsInRow 9 = .ok (.iload_n 1, 1) := by decide +kernel
theorem dX0_stepsInRow_10 : decode cX0_stepsInRow 10 = .ok (.ishr, 1) := by decide +kernel
theorem dX0_stepsInRow_11 : decode cX0_stepsInRow 11 = .ok (.iconst 1, 1) := by decide +kernel
theorem dX0_stepsInRow_12 : decode cX0_stepsInRow 12 = .ok (.iand, 1) := by decide +kernel
theorem dX0_stepsInRow_13 : decode cX0_stepsInRow 13 = .ok (.iconst 1, 1) := by decide +kernel
theorem dX0_stepsInRow_14 : decode cX0_stepsInRow 14 = .ok (.if_icmp .ne 9, 3) := by decide +kernel
theorem dX0_stepsInRow_17 : decode cX0_stepsInRow 17 = .ok (.iinc 1 1, 3) := by decide +kernel
theorem dX0_stepsInRow_20 : decode cX0_stepsInRow 20 = .ok (.goto (-18), 3) := by decide +kernel
theorem dX0_stepsInRow_23 : decode cX0_stepsInRow 23 = .ok (.iload_n 1, 1) := by decide +kernel
theorem dX0_stepsInRow_24 : decode cX0_stepsInRow 24 = .ok (.ireturn, 1) := by decide +kernel
theorem dX0_markAt_0 : decode cX0_markAt 0 = .ok (.aload_n 0, 1) := by decide +kernel
theorem dX0_markAt_1 : decode cX0_markAt 1 = .ok (.getfield 36, 3) := by decide +kernel
theorem dX0_markAt_4 : decode cX0_markAt 4 = .ok (.iload_n 1, 1) := by decide +kernel
theorem dX0_markAt_5 : decode cX0_markAt 5 = .ok (.bipush 12, 2) := by decide +kernel
theorem dX0_markAt_7 : decode cX0_markAt 7 = .ok (.imul, 1) := by decide +kernel
theorem dX0_markAt_8 : decode cX0_markAt 8 = .ok (.iload_n 2, 1) := by decide +kernel
theorem dX0_markAt_9 : decode cX0_markAt 9 = .ok (.iadd, 1) := by decide +kernel
theorem dX0_markAt_10 : decode cX0_markAt 10 = .ok (.iaload, 1) := by decide +kernel
theorem dX0_markAt_11 : decode cX0_markAt 11 = .ok (.istore_n 3, 1) := by decide +kernel
theorem dX0_markAt_12 : decode cX0_markAt 12 = .ok (.iload_n 3, 1) := by decide +kernel
theorem dX0_markAt_13 : decode cX0_markAt 13 = .ok (.iconst (-1), 1) := by decide +kernel
theorem dX0_markAt_14 : decode cX0_markAt 14 = .ok (.if_icmp .ne 7, 3) := by decide +kernel
theorem dX0_markAt_17 : decode cX0_markAt 17 = .ok (.iconst 0, 1) := by decide +kernel
theorem dX0_markAt_18 : decode cX0_markAt 18 = .ok (.goto 24, 3) := by decide +kernel
theorem dX0_markAt_21 : decode cX0_markAt 21 = .ok (.aload_n 0, 1) := by decide +kernel
theorem dX0_markAt_22 : decode cX0_markAt 22 = .ok (.aload_n 0, 1) := by decide +kernel
theorem dX0_markAt_23 : decode cX0_markAt 23 = .ok (.getfield 27, 3) := by decide +kernel
theorem dX0_markAt_26 : decode cX0_markAt 26 = .ok (.aload_n 0, 1) := by decide +kernel
theorem dX0_markAt_27 : decode cX0_markAt 27 = .ok (.getfield 30, 3) := by decide +kernel
theorem dX0_markAt_30 : decode cX0_markAt 30 = .ok (.iload_n 1, 1) := by decide +kernel
theorem dX0_markAt_31 : decode cX0_markAt 31 = .ok (.iaload, 1) := by decide +kernel
theorem dX0_markAt_32 : decode cX0_markAt 32 = .ok (.bipush 12, 2) := by decide +kernel
theorem dX0_markAt_34 : decode cX0_markAt 34 = .ok (.imul, 1) := by decide +kernel
theorem dX0_markAt_35 : decode cX0_markAt 35 = .ok (.iload_n 2, 1) := by decide +kernel
theorem dX0_markAt_36 : decode cX0_markAt 36 = .ok (.iadd, 1) := by decide +kernel
theorem dX0_markAt_37 : decode cX0_markAt 37 = .ok (.iaload, 1) := by decide +kernel
theorem dX0_markAt_38 : decode cX0_markAt 38 = .ok (.iload_n 3, 1) := by decide +kernel
theorem dX0_markAt_39 : decode cX0_markAt 39 = .ok (.invokevirtual 100, 3) := by decide +kernel
theorem dX0_markAt_42 : decode cX0_markAt 42 = .ok (.ireturn, 1) := by decide +kernel
theorem dX0_hasComeTo_0 : decode cX0_hasComeTo 0 = .ok (.aload_n 0, 1) := by decide +kernel
theorem dX0_hasComeTo_1 : decode cX0_hasComeTo 1 = .ok (.getfield 21, 3) := by decide +kernel
theorem dX0_hasComeTo_4 : decode cX0_hasComeTo 4 = .ok (.aload_n 0, 1) := by decide +kernel
theorem dX0_hasComeTo_5 : decode cX0_hasComeTo 5 = .ok (.getfield 30, 3) := by decide +kernel
theorem dX0_hasComeTo_8 : decode cX0_hasComeTo 8 = .ok (.iload_n 1, 1) := by decide +kernel
theorem dX0_hasComeTo_9 : decode cX0_hasComeTo 9 = .ok (.iaload, 1) := by decide +kernel
theorem dX0_hasComeTo_10 : decode cX0_hasComeTo 10 = .ok (.iaload, 1) := by decide +kernel
theorem dX0_hasComeTo_11 : decode cX0_hasComeTo 11 = .ok (.istore_n 3, 1) := by decide +kernel
theorem dX0_hasComeTo_12 : decode cX0_hasComeTo 12 = .ok (.iload_n 2, 1) := by decide +kernel
theorem dX0_hasComeTo_13 : decode cX0_hasComeTo 13 = .ok (.istore 4, 2) := by decide +kernel
theorem dX0_hasComeTo_15 : decode cX0_hasComeTo 15 = .ok (.iload 4, 2) := by decide +kernel
theorem dX0_hasComeTo_17 : decode cX0_hasComeTo 17 = .ok (.iload_n 3, 1) := by decide +kernel
theorem dX0_hasComeTo_18 : decode cX0_hasComeTo 18 = .ok (.if_icmp .ge 27, 3) := by decide +kernel
theorem dX0_hasComeTo_21 : decode cX0_hasComeTo 21 = .ok (.aload_n 0, 1) := by decide +kernel
theorem dX0_hasComeTo_22 : decode cX0_hasComeTo 22 = .ok (.getfield 36, 3) := by decide +kernel
theorem dX0_hasComeTo_25 : decode cX0_hasComeTo 25 = .ok (.iload_n 1, 1) := by decide +kernel
theorem dX0_hasComeTo_26 : decode cX0_hasComeTo 26 = .ok (.bipush 12, 2) := by decide +kernel
theorem dX0_hasComeTo_28 : decode cX0_hasComeTo 28 = .ok (.imul, 1) := by decide +kernel
theorem dX0_hasComeTo_29 : decode cX0_hasComeTo 29 = .ok (.iload 4, 2) := by decide +kernel
theorem dX0_hasComeTo_31 : decode cX0_hasComeTo 31 = .ok (.iadd, 1) := by decide +kernel
theorem dX0_hasComeTo_32 : decode cX0_hasComeTo 32 = .ok (.iaload, 1) := by decide +kernel
theorem dX0_hasComeTo_33 : decode cX0_hasComeTo 33 = .ok (.iconst (-1), 1) := by decide +kernel
theorem dX0_hasComeTo_34 : decode cX0_hasComeTo 34 = .ok (.if_icmp .eq 5, 3) := by decide +kernel
theorem dX0_hasComeTo_37 : decode cX0_hasComeTo 37 = .ok (.iconst 1, 1) := by decide +kernel
theorem dX0_hasComeTo_38 : decode cX0_hasComeTo 38 = .ok (.ireturn, 1) := by decide +kernel
theorem dX0_hasComeTo_39 : decode cX0_hasComeTo 39 = .ok (.iinc 4 1, 3) := by decide +kernel
theorem dX0_hasComeTo_42 : decode cX0_hasComeTo 42 = .ok (.goto (-27), 3) := by decide +kernel
theorem dX0_hasComeTo_45 : decode cX0_hasComeTo 45 = .ok (.iconst 0, 1) := by decide +kernel
theorem dX0_hasComeTo_46 : decode cX0_hasComeTo 46 = .ok (.ireturn, 1) := by decide +kernel
theorem dX0_spotComeTo_0 : decode cX0_spotComeTo 0 = .ok (.aload_n 0, 1) := by decide +kernel
theorem dX0_spotComeTo_1 : decode cX0_spotComeTo 1 = .ok (.iload_n 1, 1) := by decide +kernel
theorem dX0_spotComeTo_2 : decode cX0_spotComeTo 2 = .ok (.iload_n 2, 1) := by decide +kernel
theorem dX0_spotComeTo_3 : decode cX0_spotComeTo 3 = .ok (.invokevirtual 93, 3) := by decide +kernel
theorem dX0_spotComeTo_6 : decode cX0_spotComeTo 6 = .ok (.istore_n 3, 1) := by decide +kernel
theorem dX0_spotComeTo_7 : decode cX0_spotComeTo 7 = .ok (.iload_n 3, 1) := by decide +kernel
theorem dX0_spotComeTo_8 : decode cX0_spotComeTo 8 = .ok (.iconst (-1), 1) := by decide +kernel
theorem dX0_spotComeTo_9 : decode cX0_spotComeTo 9 = .ok (.if_icmp .eq 16, 3) := by decide +kernel
theorem dX0_spotComeTo_12 : decode cX0_spotComeTo 12 = .ok (.aload_n 0, 1) := by decide +kernel
theorem dX0_spotComeTo_13 : decode cX0_spotComeTo 13 = .ok (.iload_n 1, 1) := by decide +kernel
theorem dX0_spotComeTo_14 : decode cX0_spotComeTo 14 = .ok (.iload_n 3, 1) := by decide +kernel
theorem dX0_spotComeTo_15 : decode cX0_spotComeTo 15 = .ok (.invokevirtual 114, 3) := by decide +kernel
theorem dX0_spotComeTo_18 : decode cX0_spotComeTo 18 = .ok (.ifCond .eq 7, 3) := by decide +kernel
theorem dX0_spotComeTo_21 : decode cX0_spotComeTo 21 = .ok (.iload_n 3, 1) := by decide +kernel
theorem dX0_spotComeTo_22 : decode cX0_spotComeTo 22 = .ok (.goto 4, 3) := by decide +kernel
theorem dX0_spotComeTo_25 : decode cX0_spotComeTo 25 = .ok (.iconst (-1), 1) := by decide +kernel
theorem dX0_spotComeTo_26 : decode cX0_spotComeTo 26 = .ok (.ireturn, 1) := by decide +kernel
theorem dX0_sumOver_0 : decode cX0_sumOver 0 = .ok (.aload_n 0, 1) := by decide +kernel
theorem dX0_sumOver_1 : decode cX0_sumOver 1 = .ok (.getfield 30, 3) := by decide +kernel
theorem dX0_sumOver_4 : decode cX0_sumOver 4 = .ok (.iload_n 1, 1) := by decide +kernel
theorem dX0_sumOver_5 : decode cX0_sumOver 5 = .ok (.iaload, 1) := by decide +kernel
theorem dX0_sumOver_6 : decode cX0_sumOver 6 = .ok (.istore_n 3, 1) := by decide +kernel
theorem dX0_sumOver_7 : decode cX0_sumOver 7 = .ok (.iconst 0, 1) := by decide +kernel
theorem dX0_sumOver_8 : decode cX0_sumOver 8 = .ok (.istore 4, 2) := by decide +kernel
theorem dX0_sumOver_10 : decode cX0_sumOver 10 = .ok (.iconst 0, 1) := by decide +kernel
theorem dX0_sumOver_11 : decode cX0_sumOver 11 = .ok (.istore 5, 2) := by decide +kernel
theorem dX0_sumOver_13 : decode cX0_sumOver 13 = .ok (.iload 5, 2) := by decide +kernel
theorem dX0_sumOver_15 : decode cX0_sumOver 15 = .ok (.aload_n 0, 1) := by decide +kernel
theorem dX0_sumOver_16 : decode cX0_sumOver 16 = .ok (.getfield 21, 3) := by decide +kernel
theorem dX0_sumOver_19 : decode cX0_sumOver 19 = .ok (.iload_n 3, 1) := by decide +kernel
theorem dX0_sumOver_20 : decode cX0_sumOver 20 = .ok (.iaload, 1) := by decide +kernel
theorem dX0_sumOver_21 : decode cX0_sumOver 21 = .ok (.if_icmp .ge 40, 3) := by decide +kernel
theorem dX0_sumOver_24 : decode cX0_sumOver 24 = .ok (.iload_n 2, 1) := by decide +kernel
theorem dX0_sumOver_25 : decode cX0_sumOver 25 = .ok (.aload_n 0, 1) := by decide +kernel
theorem dX0_sumOver_26 : decode cX0_sumOver 26 = .ok (.getfield 27, 3) := by decide +kernel
theorem dX0_sumOver_29 : decode cX0_sumOver 29 = .ok (.iload_n 3, 1) := by decide +kernel
theorem dX0_sumOver_30 : decode cX0_sumOver 30 = .ok (.bipush 12, 2) := by decide +kernel
theorem dX0_sumOver_32 : decode cX0_sumOver 32 = .ok (.imul, 1) := by decide +kernel
theorem dX0_sumOver_33 : decode cX0_sumOver 33 = .ok (.iload 5, 2) := by decide +kernel
theorem dX0_sumOver_35 : decode cX0_sumOver 35 = .ok (.iadd, 1) := by decide +kernel
theorem dX0_sumOver_36 : decode cX0_sumOver 36 = .ok (.iaload, 1) := by decide +kernel
theorem dX0_sumOver_37 : decode cX0_sumOver 37 = .ok (.invokestatic 74, 3) := by decide +kernel
theorem dX0_sumOver_40 : decode cX0_sumOver 40 = .ok (.ifCond .eq 15, 3) := by decide +kernel
theorem dX0_sumOver_43 : decode cX0_sumOver 43 = .ok (.iload 4, 2) := by decide +kernel
theorem dX0_sumOver_45 : decode cX0_sumOver 45 = .ok (.aload_n 0, 1) := by decide +kernel
theorem dX0_sumOver_46 : decode cX0_sumOver 46 = .ok (.iload_n 1, 1) := by decide +kernel
theorem dX0_sumOver_47 : decode cX0_sumOver 47 = .ok (.iload 5, 2) := by decide +kernel
theorem dX0_sumOver_49 : decode cX0_sumOver 49 = .ok (.invokevirtual 111, 3) := by decide +kernel
theorem dX0_sumOver_52 : decode cX0_sumOver 52 = .ok (.iadd, 1) := by decide +kernel
theorem dX0_sumOver_53 : decode cX0_sumOver 53 = .ok (.istore 4, 2) := by decide +kernel
theorem dX0_sumOver_55 : decode cX0_sumOver 55 = .ok (.iinc 5 1, 3) := by decide +kernel
theorem dX0_sumOver_58 : decode cX0_sumOver 58 = .ok (.goto (-45), 3) := by decide +kernel
theorem dX0_sumOver_61 : decode cX0_sumOver 61 = .ok (.iload 4, 2) := by decide +kernel
theorem dX0_sumOver_63 : decode cX0_sumOver 63 = .ok (.ireturn, 1) := by decide +kernel
theorem dX0_tallyPlaces_0 : decode cX0_tallyPlaces 0 = .ok (.aload_n 0, 1) := by decide +kernel
theorem dX0_tallyPlaces_1 : decode cX0_tallyPlaces 1 = .ok (.getfield 45, 3) := by decide +kernel
theorem dX0_tallyPlaces_4 : decode cX0_tallyPlaces 4 = .ok (.iconst 0, 1) := by decide +kernel
theorem dX0_tallyPlaces_5 : decode cX0_tallyPlaces 5 = .ok (.invokestatic 51, 3) := by decide +kernel
theorem dX0_tallyPlaces_8 : decode cX0_tallyPlaces 8 = .ok (.aload_n 0, 1) := by decide +kernel
theorem dX0_tallyPlaces_9 : decode cX0_tallyPlaces 9 = .ok (.getfield 48, 3) := by decide +kernel
theorem dX0_tallyPlaces_12 : decode cX0_tallyPlaces 12 = .ok (.iconst 0, 1) := by decide +kernel
theorem dX0_tallyPlaces_13 : decode cX0_tallyPlaces 13 = .ok (.invokestatic 51, 3) := by decide +kernel
theorem dX0_tallyPlaces_16 : decode cX0_tallyPlaces 16 = .ok (.iconst 0, 1) := by decide +kernel
theorem dX0_tallyPlaces_17 : decode cX0_tallyPlaces 17 = .ok (.istore_n 2, 1) := by decide +kernel
theorem dX0_tallyPlaces_18 : decode cX0_tallyPlaces 18 = .ok (.iload_n 2, 1) := by decide +kernel
theorem dX0_tallyPlaces_19 : decode cX0_tallyPlaces 19 = .ok (.aload_n 0, 1) := by decide +kernel
theorem dX0_tallyPlaces_20 : decode cX0_tallyPlaces 20 = .ok (.getfield 90, 3) := by decide +kernel
theorem dX0_tallyPlaces_23 : decode cX0_tallyPlaces 23 = .ok (.if_icmp .ge 66, 3) := by decide +kernel
theorem dX0_tallyPlaces_26 : decode cX0_tallyPlaces 26 = .ok (.aload_n 0, 1) := by decide +kernel
theorem dX0_tallyPlaces_27 : decode cX0_tallyPlaces 27 = .ok (.iload_n 2, 1) := by decide +kernel
theorem dX0_tallyPlaces_28 : decode cX0_tallyPlaces 28 = .ok (.iload_n 1, 1) := by decide +kernel
theorem dX0_tallyPlaces_29 : decode cX0_tallyPlaces 29 = .ok (.invokevirtual 129, 3) := by decide +kernel
theorem dX0_tallyPlaces_32 : decode cX0_tallyPlaces 32 = .ok (.istore_n 3, 1) := by decide +kernel
theorem dX0_tallyPlaces_33 : decode cX0_tallyPlaces 33 = .ok (.iload_n 3, 1) := by decide +kernel
theorem dX0_tallyPlaces_34 : decode cX0_tallyPlaces 34 = .ok (.iconst (-1), 1) := by decide +kernel
theorem dX0_tallyPlaces_35 : decode cX0_tallyPlaces 35 = .ok (.if_icmp .eq 48, 3) := by decide +kernel
theorem dX0_tallyPlaces_38 : decode cX0_tallyPlaces 38 = .ok (.aload_n 0, 1) := by decide +kernel
theorem dX0_tallyPlaces_39 : decode cX0_tallyPlaces 39 = .ok (.getfield 45, 3) := by decide +kernel
theorem dX0_tallyPlaces_42 : decode cX0_tallyPlaces 42 = .ok (.aload_n 0, 1) := by decide +kernel
theorem dX0_tallyPlaces_43 : decode cX0_tallyPlaces 43 = .ok (.getfield 33, 3) := by decide +kernel
theorem dX0_tallyPlaces_46 : decode cX0_tallyPlaces 46 = .ok (.iload_n 2, 1) := by decide +kernel
theorem dX0_tallyPlaces_47 : decode cX0_tallyPlaces 47 = .ok (.iaload, 1) := by decide +kernel
theorem dX0_tallyPlaces_48 : decode cX0_tallyPlaces 48 = .ok (.dup2, 1) := by decide +kernel
theorem dX0_tallyPlaces_49 : decode cX0_tallyPlaces 49 = .ok (.iaload, 1) := by decide +kernel
theorem dX0_tallyPlaces_50 : decode cX0_tallyPlaces 50 = .ok (.iconst 1, 1) := by decide +kernel
theorem dX0_tallyPlaces_51 : decode cX0_tallyPlaces 51 = .ok (.iadd, 1) := by decide +kernel
theorem dX0_tallyPlaces_52 : decode cX0_tallyPlaces 52 = .ok (.iastore, 1) := by decide +kernel
theorem dX0_tallyPlaces_53 : decode cX0_tallyPlaces 53 = .ok (.aload_n 0, 1) := by decide +kernel
theorem dX0_tallyPlaces_54 : decode cX0_tallyPlaces 54 = .ok (.iload_n 2, 1) := by decide +kernel
theorem dX0_tallyPlaces_55 : decode cX0_tallyPlaces 55 = .ok (.iload_n 3, 1) := by decide +kernel
theorem dX0_tallyPlaces_56 : decode cX0_tallyPlaces 56 = .ok (.invokevirtual 111, 3) := by decide +kernel
theorem dX0_tallyPlaces_59 : decode cX0_tallyPlaces 59 = .ok (.aload_n 0, 1) := by decide +kernel
theorem dX0_tallyPlaces_60 : decode cX0_tallyPlaces 60 = .ok (.getfield 15, 3) := by decide +kernel
theorem dX0_tallyPlaces_63 : decode cX0_tallyPlaces 63 = .ok (.iload_n 1, 1) := by decide +kernel
theorem dX0_tallyPlaces_64 : decode cX0_tallyPlaces 64 = .ok (.iaload, 1) := by decide +kernel
theorem dX0_tallyPlaces_65 : decode cX0_tallyPlaces 65 = .ok (.if_icmp .ne 18, 3) := by decide +kernel
theorem dX0_tallyPlaces_68 : decode cX0_tallyPlaces 68 = .ok (.aload_n 0, 1) := by decide +kernel
theorem dX0_tallyPlaces_69 : decode cX0_tallyPlaces 69 = .ok (.getfield 48, 3) := by decide +kernel
theorem dX0_tallyPlaces_72 : decode cX0_tallyPlaces 72 = .ok (.aload_n 0, 1) := by decide +kernel
theorem dX0_tallyPlaces_73 : decode cX0_tallyPlaces 73 = .ok (.getfield 33, 3) := by decide +kernel
theorem dX0_tallyPlaces_76 : decode cX0_tallyPlaces 76 = .ok (.iload_n 2, 1) := by decide +kernel
theorem dX0_tallyPlaces_77 : decode cX0_tallyPlaces 77 = .ok (.iaload, 1) := by decide +kernel
theorem dX0_tallyPlaces_78 : decode cX0_tallyPlaces 78 = .ok (.dup2, 1) := by decide +kernel
theorem dX0_tallyPlaces_79 : decode cX0_tallyPlaces 79 = .ok (.iaload, 1) := by decide +kernel
theorem dX0_tallyPlaces_80 : decode cX0_tallyPlaces 80 = .ok (.iconst 1, 1) := by decide +kernel
theorem dX0_tallyPlaces_81 : decode cX0_tallyPlaces 81 = .ok (.iadd, 1) := by decide +kernel
theorem dX0_tallyPlaces_82 : decode cX0_tallyPlaces 82 = .ok (.iastore, 1) := by decide +kernel
theorem dX0_tallyPlaces_83 : decode cX0_tallyPlaces 83 = .ok (.iinc 2 1, 3) := by decide +kernel
theorem dX0_tallyPlaces_86 : decode cX0_tallyPlaces 86 = .ok (.goto (-68), 3) := by decide +kernel
theorem dX0_tallyPlaces_89 : decode cX0_tallyPlaces 89 = .ok (.return_, 1) := by decide +kernel
theorem dX0_isLeakyByTally_0 : decode cX0_isLeakyByTally 0 = .ok (.aload_n 0, 1) := by decide +kernel
theorem dX0_isLeakyByTally_1 : decode cX0_isLeakyByTally 1 = .ok (.getfield 45, 3) := by decide +kernel
theorem dX0_isLeakyByTally_4 : decode cX0_isLeakyByTally 4 = .ok (.iload_n 1, 1) := by decide +kernel
theorem dX0_isLeakyByTally_5 : decode cX0_isLeakyByTally 5 = .ok (.iaload, 1) := by decide +kernel
theorem dX0_isLeakyByTally_6 : decode cX0_isLeakyByTally 6 = .ok (.istore_n 3, 1) := by decide +kernel
theorem dX0_isLeakyByTally_7 : decode cX0_isLeakyByTally 7 = .ok (.aload_n 0, 1) := by decide +kernel
theorem dX0_isLeakyByTally_8 : decode cX0_isLeakyByTally 8 = .ok (.getfield 48, 3) := by decide +kernel
theorem dX0_isLeakyByTally_11 : decode cX0_isLeakyByTally 11 = .ok (.iload_n 1, 1) := by decide +kernel
theorem dX0_isLeakyByTally_12 : decode cX0_isLeakyByTally 12 = .ok (.iaload, 1) := by decide +kernel
theorem dX0_isLeakyByTally_13 : decode cX0_isLeakyByTally 13 = .ok (.istore 4, 2) := by decide +kernel
theorem dX0_isLeakyByTally_15 : decode cX0_isLeakyByTally 15 = .ok (.iload_n 3, 1) := by decide +kernel
theorem dX0_isLeakyByTally_16 : decode cX0_isLeakyByTally 16 = .ok (.ineg, 1) := by decide +kernel
theorem dX0_isLeakyByTally_17 : decode cX0_isLeakyByTally 17 = .ok (.istore 5, 2) := by decide +kernel
theorem dX0_isLeakyByTally_19 : decode cX0_isLeakyByTally 19 = .ok (.iload 4, 2) := by decide +kernel
theorem dX0_isLeakyByTally_21 : decode cX0_isLeakyByTally 21 = .ok (.ineg, 1) := by decide +kernel
theorem dX0_isLeakyByTally_22 : decode cX0_isLeakyByTally 22 = .ok (.istore 6, 2) := by decide +kernel
theorem dX0_isLeakyByTally_24 : decode cX0_isLeakyByTally 24 = .ok (.iconst 0, 1) := by decide +kernel
theorem dX0_isLeakyByTally_25 : decode cX0_isLeakyByTally 25 = .ok (.istore 7, 2) := by decide +kernel
theorem dX0_isLeakyByTally_27 : decode cX0_isLeakyByTally 27 = .ok (.iload 7, 2) := by decide +kernel
theorem dX0_isLeakyByTally_29 : decode cX0_isLeakyByTally 29 = .ok (.iconst 4, 1) := by decide +kernel
theorem dX0_isLeakyByTally_30 : decode cX0_isLeakyByTally 30 = .ok (.if_icmp .ge 33, 3) := by decide +kernel
theorem dX0_isLeakyByTally_33 : decode cX0_isLeakyByTally 33 = .ok (.iload 5, 2) := by decide +kernel
theorem dX0_isLeakyByTally_35 : decode cX0_isLeakyByTally 35 = .ok (.aload_n 0, 1) := by decide +kernel
theorem dX0_isLeakyByTally_36 : decode cX0_isLeakyByTally 36 = .ok (.getfield 45, 3) := by decide +kernel
theorem dX0_isLeakyByTally_39 : decode cX0_isLeakyByTally 39 = .ok (.iload 7, 2) := by decide +kernel
theorem dX0_isLeakyByTally_41 : decode cX0_isLeakyByTally 41 = .ok (.iaload, 1) := by decide +kernel
theorem dX0_isLeakyByTally_42 : decode cX0_isLeakyByTally 42 = .ok (.iadd, 1) := by decide +kernel
theorem dX0_isLeakyByTally_43 : decode cX0_isLeakyByTally 43 = .ok (.istore 5, 2) := by decide +kernel
theorem dX0_isLeakyByTally_45 : decode cX0_isLeakyByTally 45 = .ok (.iload 6, 2) := by decide +kernel
theorem dX0_isLeakyByTally_47 : decode cX0_isLeakyByTally 47 = .ok (.aload_n 0, 1) := by decide +kernel
theorem dX0_isLeakyByTally_48 : decode cX0_isLeakyByTally 48 = .ok (.getfield 48, 3) := by decide +kernel
theorem dX0_isLeakyByTally_51 : decode cX0_isLeakyByTally 51 = .ok (.iload 7, 2) := by decide +kernel
theorem dX0_isLeakyByTally_53 : decode cX0_isLeakyByTally 53 = .ok (.iaload, 1) := by decide +kernel
theorem dX0_isLeakyByTally_54 : decode cX0_isLeakyByTally 54 = .ok (.iadd, 1) := by decide +kernel
theorem dX0_isLeakyByTally_55 : decode cX0_isLeakyByTally 55 = .ok (.istore 6, 2) := by decide +kernel
theorem dX0_isLeakyByTally_57 : decode cX0_isLeakyByTally 57 = .ok (.iinc 7 1, 3) := by decide +kernel
theorem dX0_isLeakyByTally_60 : decode cX0_isLeakyByTally 60 = .ok (.goto (-33), 3) := by decide +kernel
theorem dX0_isLeakyByTally_63 : decode cX0_isLeakyByTally 63 = .ok (.iload_n 3, 1) := by decide +kernel
theorem dX0_isLeakyByTally_64 : decode cX0_isLeakyByTally 64 = .ok (.ifCond .le 34, 3) := by decide +kernel
theorem dX0_isLeakyByTally_67 : decode cX0_isLeakyByTally 67 = .ok (.iload 5, 2) := by decide +kernel
theorem dX0_isLeakyByTally_69 : decode cX0_isLeakyByTally 69 = .ok (.ifCond .le 29, 3) := by decide +kernel
theorem dX0_isLeakyByTally_72 : decode cX0_isLeakyByTally 72 = .ok (.bipush 100, 2) := by decide +kernel
theorem dX0_isLeakyByTally_74 : decode cX0_isLeakyByTally 74 = .ok (.iload 4, 2) := by decide +kernel
theorem dX0_isLeakyByTally_76 : decode cX0_isLeakyByTally 76 = .ok (.iload 5, 2) := by decide +kernel
theorem dX0_isLeakyByTally_78 : decode cX0_isLeakyByTally 78 = .ok (.imul, 1) := by decide +kernel
theorem dX0_isLeakyByTally_79 : decode cX0_isLeakyByTally 79 = .ok (.iload 6, 2) := by decide +kernel
theorem dX0_isLeakyByTally_81 : decode cX0_isLeakyByTally 81 = .ok (.iload_n 3, 1) := by decide +kernel
theorem dX0_isLeakyByTally_82 : decode cX0_isLeakyByTally 82 = .ok (.imul, 1) := by decide +kernel
theorem dX0_isLeakyByTally_83 : decode cX0_isLeakyByTally 83 = .ok (.isub, 1) := by decide +kernel
theorem dX0_isLeakyByTally_84 : decode cX0_isLeakyByTally 84 = .ok (.imul, 1) := by decide +kernel
theorem dX0_isLeakyByTally_85 : decode cX0_isLeakyByTally 85 = .ok (.iload_n 2, 1) := by decide +kernel
theorem dX0_isLeakyByTally_86 : decode cX0_isLeakyByTally 86 = .ok (.iload_n 3, 1) := by decide +kernel
theorem dX0_isLeakyByTally_87 : decode cX0_isLeakyByTally 87 = .ok (.imul, 1) := by decide +kernel
theorem dX0_isLeakyByTally_88 : decode cX0_isLeakyByTally 88 = .ok (.iload 5, 2) := by decide +kernel
theorem dX0_isLeakyByTally_90 : decode cX0_isLeakyByTally 90 = .ok (.imul, 1) := by decide +kernel
theorem dX0_isLeakyByTally_91 : decode cX0_isLeakyByTally 91 = .ok (.if_icmp .le 7, 3) := by decide +kernel
theorem dX0_isLeakyByTally_94 : decode cX0_isLeakyByTally 94 = .ok (.iconst 1, 1) := by decide +kernel
theorem dX0_isLeakyByTally_95 : decode cX0_isLeakyByTally 95 = .ok (.goto 4, 3) := by decide +kernel
theorem dX0_isLeakyByTally_98 : decode cX0_isLeakyByTally 98 = .ok (.iconst 0, 1) := by decide +kernel
theorem dX0_isLeakyByTally_99 : decode cX0_isLeakyByTally 99 = .ok (.ireturn, 1) := by decide +kernel
theorem dX0_gatherSums_0 : decode cX0_gatherSums 0 = .ok (.iconst 0, 1) := by decide +kernel
theorem dX0_gatherSums_1 : decode cX0_gatherSums 1 = .ok (.istore_n 3, 1) := by decide +kernel
theorem dX0_gatherSums_2 : decode cX0_gatherSums 2 = .ok (.iconst 0, 1) := by decide +kernel
theorem dX0_gatherSums_3 : decode cX0_gatherSums 3 = .ok (.istore 4, 2) := by decide +kernel
theorem dX0_gatherSums_5 : decode cX0_gatherSums 5 = .ok (.iload 4, 2) := by decide +kernel
theorem dX0_gatherSums_7 : decode cX0_gatherSums 7 = .ok (.aload_n 0, 1) := by decide +kernel
theorem dX0_gatherSums_8 : decode cX0_gatherSums 8 = .ok (.getfield 90, 3) := by decide +kernel
theorem dX0_gatherSums_11 : decode cX0_gatherSums 11 = .ok (.if_icmp .ge 36, 3) := by decide +kernel
theorem dX0_gatherSums_14 : decode cX0_gatherSums 14 = .ok (.aload_n 0, 1) := by decide +kernel
theorem dX0_gatherSums_15 : decode cX0_gatherSums 15 = .ok (.getfield 30, 3) := by decide +kernel
theorem dX0_gatherSums_18 : decode cX0_gatherSums 18 = .ok (.iload 4, 2) := by decide +kernel
theorem dX0_gatherSums_20 : decode cX0_gatherSums 20 = .ok (.iaload, 1) := by decide +kernel
theorem dX0_gatherSums_21 : decode cX0_gatherSums 21 = .ok (.iload_n 1, 1) := by decide +kernel
theorem dX0_gatherSums_22 : decode cX0_gatherSums 22 = .ok (.if_icmp .ne 19, 3) := by decide +kernel
theorem dX0_gatherSums_25 : decode cX0_gatherSums 25 = .ok (.aload_n 0, 1) := by decide +kernel
theorem dX0_gatherSums_26 : decode cX0_gatherSums 26 = .ok (.getfield 42, 3) := by decide +kernel
theorem dX0_gatherSums_29 : decode cX0_gatherSums 29 = .ok (.iload_n 3, 1) := by decide +kernel
theorem dX0_gatherSums_30 : decode cX0_gatherSums 30 = .ok (.aload_n 0, 1) := by decide +kernel
theorem dX0_gatherSums_31 : decode cX0_gatherSums 31 = .ok (.iload 4, 2) := by decide +kernel
theorem dX0_gatherSums_33 : decode cX0_gatherSums 33 = .ok (.iload_n 2, 1) := by decide +kernel
theorem dX0_gatherSums_34 : decode cX0_gatherSums 34 = .ok (.invokevirtual 121, 3) := by decide +kernel
theorem dX0_gatherSums_37 : decode cX0_gatherSums 37 = .ok (.iastore, 1) := by decide +kernel
theorem dX0_gatherSums_38 : decode cX0_gatherSums 38 = .ok (.iinc 3 1, 3) := by decide +kernel
theorem dX0_gatherSums_41 : decode cX0_gatherSums 41 = .ok (.iinc 4 1, 3) := by decide +kernel
theorem dX0_gatherSums_44 : decode cX0_gatherSums 44 = .ok (.goto (-39), 3) := by decide +kernel
theorem dX0_gatherSums_47 : decode cX0_gatherSums 47 = .ok (.iload_n 3, 1) := by decide +kernel
theorem dX0_gatherSums_48 : decode cX0_gatherSums 48 = .ok (.ireturn, 1) := by decide +kernel
theorem dX0_sumOfValues_0 : decode cX0_sumOfValues 0 = .ok (.lconst 0, 1) := by decide +kernel
theorem dX0_sumOfValues_1 : decode cX0_sumOfValues 1 = .ok (.lstore_n 2, 1) := by decide +kernel
theorem dX0_sumOfValues_2 : decode cX0_sumOfValues 2 = .ok (.iconst 0, 1) := by decide +kernel
theorem dX0_sumOfValues_3 : decode cX0_sumOfValues 3 = .ok (.istore 4, 2) := by decide +kernel
theorem dX0_sumOfValues_5 : decode cX0_sumOfValues 5 = .ok (.iload 4, 2) := by decide +kernel
theorem dX0_sumOfValues_7 : decode cX0_sumOfValues 7 = .ok (.iload_n 1, 1) := by decide +kernel
theorem dX0_sumOfValues_8 : decode cX0_sumOfValues 8 = .ok (.if_icmp .ge 20, 3) := by decide +kernel
theorem dX0_sumOfValues_11 : decode cX0_sumOfValues 11 = .ok (.lload_n 2, 1) := by decide +kernel
theorem dX0_sumOfValues_12 : decode cX0_sumOfValues 12 = .ok (.aload_n 0, 1) := by decide +kernel
theorem dX0_sumOfValues_13 : decode cX0_sumOfValues 13 = .ok (.getfield 42, 3) := by decide +kernel
theorem dX0_sumOfValues_16 : decode cX0_sumOfValues 16 = .ok (.iload 4, 2) := by decide +kernel
theorem dX0_sumOfValues_18 : decode cX0_sumOfValues 18 = .ok (.iaload, 1) := by decide +kernel
theorem dX0_sumOfValues_19 : decode cX0_sumOfValues 19 = .ok (.i2l, 1) := by decide +kernel
theorem dX0_sumOfValues_20 : decode cX0_sumOfValues 20 = .ok (.ladd, 1) := by decide +kernel
theorem dX0_sumOfValues_21 : decode cX0_sumOfValues 21 = .ok (.lstore_n 2, 1) := by decide +kernel
theorem dX0_sumOfValues_22 : decode cX0_sumOfValues 22 = .ok (.iinc 4 1, 3) := by decide +kernel
theorem dX0_sumOfValues_25 : decode cX0_sumOfValues 25 = .ok (.goto (-20), 3) := by decide +kernel
theorem dX0_sumOfValues_28 : decode cX0_sumOfValues 28 = .ok (.lload_n 2, 1) := by decide +kernel
theorem dX0_sumOfValues_29 : decode cX0_sumOfValues 29 = .ok (.lreturn, 1) := by decide +kernel
theorem dX0_awayOfValues_0 : decode cX0_awayOfValues 0 = .ok (.aload_n 0, 1) := by decide +kernel
theorem dX0_awayOfValues_1 : decode cX0_awayOfValues 1 = .ok (.iload_n 1, 1) := by decide +kernel
theorem dX0_awayOfValues_2 : decode cX0_awayOfValues 2 = .ok (.invokevirtual 158, 3) := by decide +kernel
theorem dX0_awayOfValues_5 : decode cX0_awayOfValues 5 = .ok (.lstore_n 2, 1) := by decide +kernel
theorem dX0_awayOfValues_6 : decode cX0_awayOfValues 6 = .ok (.lconst 0, 1) := by decide +kernel
theorem dX0_awayOfValues_7 : decode cX0_awayOfValues 7 = .ok (.lstore 4, 2) := by decide +kernel
theorem dX0_awayOfValues_9 : decode cX0_awayOfValues 9 = .ok (.iconst 0, 1) := by decide +kernel
theorem dX0_awayOfValues_10 : decode cX0_awayOfValues 10 = .ok (.istore 6, 2) := by decide +kernel
theorem dX0_awayOfValues_12 : decode cX0_awayOfValues 12 = .ok (.iload 6, 2) := by decide +kernel
theorem dX0_awayOfValues_14 : decode cX0_awayOfValues 14 = .ok (.iload_n 1, 1) := by decide +kernel
theorem dX0_awayOfValues_15 : decode cX0_awayOfValues 15 = .ok (.if_icmp .ge 29, 3) := by decide +kernel
theorem dX0_awayOfValues_18 : decode cX0_awayOfValues 18 = .ok (.lload 4, 2) := by decide +kernel
theorem dX0_awayOfValues_20 : decode cX0_awayOfValues 20 = .ok (.iload_n 1, 1) := by decide +kernel
theorem dX0_awayOfValues_21 : decode cX0_awayOfValues 21 = .ok (.aload_n 0, 1) := by decide +kernel
theorem dX0_awayOfValues_22 : decode cX0_awayOfValues 22 = .ok (.getfield 42, 3) := by decide +kernel
theorem dX0_awayOfValues_25 : decode cX0_awayOfValues 25 = .ok (.iload 6, 2) := by decide +kernel
theorem dX0_awayOfValues_27 : decode cX0_awayOfValues 27 = .ok (.iaload, 1) := by decide +kernel
theorem dX0_awayOfValues_28 : decode cX0_awayOfValues 28 = .ok (.imul, 1) := by decide +kernel
theorem dX0_awayOfValues_29 : decode cX0_awayOfValues 29 = .ok (.i2l, 1) := by decide +kernel
theorem dX0_awayOfValues_30 : decode cX0_awayOfValues 30 = .ok (.lload_n 2, 1) := by decide +kernel
theorem dX0_awayOfValues_31 : decode cX0_awayOfValues 31 = .ok (.lsub, 1) := by decide +kernel
theorem dX0_awayOfValues_32 : decode cX0_awayOfValues 32 = .ok (.invokestatic 189, 3) := by decide +kernel
theorem dX0_awayOfValues_35 : decode cX0_awayOfValues 35 = .ok (.ladd, 1) := by decide +kernel
theorem dX0_awayOfValues_36 : decode cX0_awayOfValues 36 = .ok (.lstore 4, 2) := by decide +kernel
theorem dX0_awayOfValues_38 : decode cX0_awayOfValues 38 = .ok (.iinc 6 1, 3) := by decide +kernel
theorem dX0_awayOfValues_41 : decode cX0_awayOfValues 41 = .ok (.goto (-29), 3) := by decide +kernel
theorem dX0_awayOfValues_44 : decode cX0_awayOfValues 44 = .ok (.lload 4, 2) := by decide +kernel
theorem dX0_awayOfValues_46 : decode cX0_awayOfValues 46 = .ok (.lreturn, 1) := by decide +kernel
theorem dX0_rankInValues_0 : decode cX0_rankInValues 0 = .ok (.iconst 0, 1) := by decide +kernel
theorem dX0_rankInValues_1 : decode cX0_rankInValues 1 = .ok (.istore_n 3, 1) := by decide +kernel
theorem dX0_rankInValues_2 : decode cX0_rankInValues 2 = .ok (.iconst 0, 1) := by decide +kernel
theorem dX0_rankInValues_3 : decode cX0_rankInValues 3 = .ok (.istore 4, 2) := by decide +kernel
theorem dX0_rankInValues_5 : decode cX0_rankInValues 5 = .ok (.iload 4, 2) := by decide +kernel
theorem dX0_rankInValues_7 : decode cX0_rankInValues 7 = .ok (.iload_n 1, 1) := by decide +kernel
theorem dX0_rankInValues_8 : decode cX0_rankInValues 8 = .ok (.if_icmp .ge 40, 3) := by decide +kernel
theorem dX0_rankInValues_11 : decode cX0_rankInValues 11 = .ok (.aload_n 0, 1) := by decide +kernel
theorem dX0_rankInValues_12 : decode cX0_rankInValues 12 = .ok (.getfield 42, 3) := by decide +kernel
theorem dX0_rankInValues_15 : decode cX0_rankInValues 15 = .ok (.iload 4, 2) := by decide +kernel
theorem dX0_rankInValues_17 : decode cX0_rankInValues 17 = .ok (.iaload, 1) := by decide +kernel
theorem dX0_rankInValues_18 : decode cX0_rankInValues 18 = .ok (.iload_n 2, 1) := by decide +kernel
theorem dX0_rankInValues_19 : decode cX0_rankInValues 19 = .ok (.if_icmp .ge 9, 3) := by decide +kernel
theorem dX0_rankInValues_22 : decode cX0_rankInValues 22 = .ok (.iinc 3 2, 3) := by decide +kernel
theorem dX0_rankInValues_25 : decode cX0_rankInValues 25 = .ok (.goto 17, 3) := by decide +kernel
theorem dX0_rankInValues_28 : decode cX0_rankInValues 28 = .ok (.aload_n 0, 1) := by decide +kernel
theorem dX0_rankInValues_29 : decode cX0_rankInValues 29 = .ok (.getfield 42, 3) := by decide +kernel
theorem dX0_rankInValues_32 : decode cX0_rankInValues 32 = .ok (.iload 4, 2) := by decide +kernel
theorem dX0_rankInValues_34 : decode cX0_rankInValues 34 = .ok (.iaload, 1) := by decide +kernel
theorem dX0_rankInValues_35 : decode cX0_rankInValues 35 = .ok (.iload_n 2, 1) := by decide +kernel
theorem dX0_rankInValues_36 : decode cX0_rankInValues 36 = .ok (.if_icmp .ne 6, 3) := by decide +kernel
theorem dX0_rankInValues_39 : decode cX0_rankInValues 39 = .ok (.iinc 3 1, 3) := by decide +kernel
theorem dX0_rankInValues_42 : decode cX0_rankInValues 42 = .ok (.iinc 4 1, 3) := by decide +kernel
theorem dX0_rankInValues_45 : decode cX0_rankInValues 45 = .ok (.goto (-40), 3) := by decide +kernel
theorem dX0_rankInValues_48 : decode cX0_rankInValues 48 = .ok (.iload_n 3, 1) := by decide +kernel
theorem dX0_rankInValues_49 : decode cX0_rankInValues 49 = .ok (.ireturn, 1) := by decide +kernel
theorem dX0_cutParts_0 : decode cX0_cutParts 0 = .ok (.aload_n 0, 1) := by decide +kernel
theorem dX0_cutParts_1 : decode cX0_cutParts 1 = .ok (.invokevirtual 117, 3) := by decide +kernel
theorem dX0_cutParts_4 : decode cX0_cutParts 4 = .ok (.istore_n 2, 1) := by decide +kernel
theorem dX0_cutParts_5 : decode cX0_cutParts 5 = .ok (.iconst 0, 1) := by decide +kernel
theorem dX0_cutParts_6 : decode cX0_cutParts 6 = .ok (.istore_n 3, 1) := by decide +kernel
theorem dX0_cutParts_7 : decode cX0_cutParts 7 = .ok (.iconst 0, 1) := by decide +kernel
theorem dX0_cutParts_8 : decode cX0_cutParts 8 = .ok (.istore 4, 2) := by decide +kernel
theorem dX0_cutParts_10 : decode cX0_cutParts 10 = .ok (.iload 4, 2) := by decide +kernel
theorem dX0_cutParts_12 : decode cX0_cutParts 12 = .ok (.aload_n 0, 1) := by decide +kernel
theorem dX0_cutParts_13 : decode cX0_cutParts 13 = .ok (.getfield 21, 3) := by decide +kernel
theorem dX0_cutParts_16 : decode cX0_cutParts 16 = .ok (.iload_n 1, 1) := by decide +kernel
theorem dX0_cutParts_17 : decode cX0_cutParts 17 = .ok (.iaload, 1) := by decide +kernel
theorem dX0_cutParts_18 : decode cX0_cutParts 18 = .ok (.if_icmp .ge 42, 3) := by decide +kernel
theorem dX0_cutParts_21 : decode cX0_cutParts 21 = .ok (.iload_n 2, 1) := by decide +kernel
theorem dX0_cutParts_22 : decode cX0_cutParts 22 = .ok (.aload_n 0, 1) := by decide +kernel
theorem dX0_cutParts_23 : decode cX0_cutParts 23 = .ok (.getfield 27, 3) := by decide +kernel
theorem dX0_cutParts_26 : decode cX0_cutParts 26 = .ok (.iload_n 1, 1) := by decide +kernel
theorem dX0_cutParts_27 : decode cX0_cutParts 27 = .ok (.bipush 12, 2) := by decide +kernel
theorem dX0_cutParts_29 : decode cX0_cutParts 29 = .ok (.imul, 1) := by decide +kernel
theorem dX0_cutParts_30 : decode cX0_cutParts 30 = .ok (.iload 4, 2) := by decide +kernel
theorem dX0_cutParts_32 : decode cX0_cutParts 32 = .ok (.iadd, 1) := by decide +kernel
theorem dX0_cutParts_33 : decode cX0_cutParts 33 = .ok (.iaload, 1) := by decide +kernel
theorem dX0_cutParts_34 : decode cX0_cutParts 34 = .ok (.invokestatic 74, 3) := by decide +kernel
theorem dX0_cutParts_37 : decode cX0_cutParts 37 = .ok (.ifCond .eq 17, 3) := by decide +kernel
theorem dX0_cutParts_40 : decode cX0_cutParts 40 = .ok (.iload_n 3, 1) := by decide +kernel
theorem dX0_cutParts_41 : decode cX0_cutParts 41 = .ok (.aload_n 0, 1) := by decide +kernel
theorem dX0_cutParts_42 : decode cX0_cutParts 42 = .ok (.iload_n 1, 1) := by decide +kernel
theorem dX0_cutParts_43 : decode cX0_cutParts 43 = .ok (.bipush 12, 2) := by decide +kernel
theorem dX0_cutParts_45 : decode cX0_cutParts 45 = .ok (.imul, 1) := by decide +kernel
theorem dX0_cutParts_46 : decode cX0_cutParts 46 = .ok (.iload 4, 2) := by decide +kernel
theorem dX0_cutParts_48 : decode cX0_cutParts 48 = .ok (.iadd, 1) := by decide +kernel
theorem dX0_cutParts_49 : decode cX0_cutParts 49 = .ok (.invokevirtual 209, 3) := by decide +kernel
theorem dX0_cutParts_52 : decode cX0_cutParts 52 = .ok (.iadd, 1) := by decide +kernel
theorem dX0_cutParts_53 : decode cX0_cutParts 53 = .ok (.istore_n 3, 1) := by decide +kernel
theorem dX0_cutParts_54 : decode cX0_cutParts 54 = .ok (.iinc 4 1, 3) := by decide +kernel
theorem dX0_cutParts_57 : decode cX0_cutParts 57 = .ok (.goto (-47), 3) := by decide +kernel
theorem dX0_cutParts_60 : decode cX0_cutParts 60 = .ok (.iload_n 3, 1) := by decide +kernel
theorem dX0_cutParts_61 : decode cX0_cutParts 61 = .ok (.ireturn, 1) := by decide +kernel
theorem dX0_meanParts_0 : decode cX0_meanParts 0 = .ok (.iconst 0, 1) := by decide +kernel
theorem dX0_meanParts_1 : decode cX0_meanParts 1 = .ok (.istore_n 2, 1) := by decide +kernel
theorem dX0_meanParts_2 : decode cX0_meanParts 2 = .ok (.iconst 0, 1) := by decide +kernel
theorem dX0_meanParts_3 : decode cX0_meanParts 3 = .ok (.istore_n 3, 1) := by decide +kernel
theorem dX0_meanParts_4 : decode cX0_meanParts 4 = .ok (.iconst 0, 1) := by decide +kernel
theorem dX0_meanParts_5 : decode cX0_meanParts 5 = .ok (.istore 4, 2) := by decide +kernel
theorem dX0_meanParts_7 : decode cX0_meanParts 7 = .ok (.iload 4, 2) := by decide +kernel
theorem dX0_meanParts_9 : decode cX0_meanParts 9 = .ok (.bipush 8, 2) := by decide +kernel
theorem dX0_meanParts_11 : decode cX0_meanParts 11 = .ok (.if_icmp .ge 37, 3) := by decide +kernel
theorem dX0_meanParts_14 : decode cX0_meanParts 14 = .ok (.aload_n 0, 1) := by decide +kernel
theorem dX0_meanParts_15 : decode cX0_meanParts 15 = .ok (.getfield 39, 3) := by decide +kernel
theorem dX0_meanParts_18 : decode cX0_meanParts 18 = .ok (.iload_n 1, 1) := by decide +kernel
theorem dX0_meanParts_19 : decode cX0_meanParts 19 = .ok (.bipush 8, 2) := by decide +kernel
theorem dX0_meanParts_21 : decode cX0_meanParts 21 = .ok (.imul, 1) := by decide +kernel
theorem dX0_meanParts_22 : decode cX0_meanParts 22 = .ok (.iload 4, 2) := by decide +kernel
theorem dX0_meanParts_24 : decode cX0_meanParts 24 = .ok (.iadd, 1) := by decide +kernel
theorem dX0_meanParts_25 : decode cX0_meanParts 25 = .ok (.iaload, 1) := by decide +kernel
theorem dX0_meanParts_26 : decode cX0_meanParts 26 = .ok (.istore 5, 2) := by decide +kernel
theorem dX0_meanParts_28 : decode cX0_meanParts 28 = .ok (.iload 5, 2) := by decide +kernel
theorem dX0_meanParts_30 : decode cX0_meanParts 30 = .ok (.iconst (-1), 1) := by decide +kernel
theorem dX0_meanParts_31 : decode cX0_meanParts 31 = .ok (.if_icmp .eq 11, 3) := by decide +kernel
theorem dX0_meanParts_34 : decode cX0_meanParts 34 = .ok (.iinc 2 1, 3) := by decide +kernel
theorem dX0_meanParts_37 : decode cX0_meanParts 37 = .ok (.iload_n 3, 1) := by decide +kernel
theorem dX0_meanParts_38 : decode cX0_meanParts 38 = .ok (.iload 5, 2) := by decide +kernel
theorem dX0_meanParts_40 : decode cX0_meanParts 40 = .ok (.iadd, 1) := by decide +kernel
theorem dX0_meanParts_41 : decode cX0_meanParts 41 = .ok (.istore_n 3, 1) := by decide +kernel
theorem dX0_meanParts_42 : decode cX0_meanParts 42 = .ok (.iinc 4 1, 3) := by decide +kernel
theorem dX0_meanParts_45 : decode cX0_meanParts 45 = .ok (.goto (-38), 3) := by decide +kernel
theorem dX0_meanParts_48 : decode cX0_meanParts 48 = .ok (.iload_n 2, 1) := by decide +kernel
theorem dX0_meanParts_49 : decode cX0_meanParts 49 = .ok (.ifCond .ne 7, 3) := by decide +kernel
theorem dX0_meanParts_52 : decode cX0_meanParts 52 = .ok (.iconst 0, 1) := by decide +kernel
theorem dX0_meanParts_53 : decode cX0_meanParts 53 = .ok (.goto 10, 3) := by decide +kernel
theorem dX0_meanParts_56 : decode cX0_meanParts 56 = .ok (.iload_n 3, 1) := by decide +kernel
theorem dX0_meanParts_57 : decode cX0_meanParts 57 = .ok (.sipush 840, 3) := by decide +kernel
theorem dX0_meanParts_60 : decode cX0_meanParts 60 = .ok (.iload_n 2, 1) := by decide +kernel
theorem dX0_meanParts_61 : decode cX0_meanParts 61 = .ok (.idiv, 1) := by decide +kernel
theorem dX0_meanParts_62 : decode cX0_meanParts 62 = .ok (.imul, 1) := by decide +kernel
theorem dX0_meanParts_63 : decode cX0_meanParts 63 = .ok (.ireturn, 1) := by decide +kernel
theorem dX0_isPassing_0 : decode cX0_isPassing 0 = .ok (.aload_n 0, 1) := by decide +kernel
theorem dX0_isPassing_1 : decode cX0_isPassing 1 = .ok (.iload_n 1, 1) := by decide +kernel
theorem dX0_isPassing_2 : decode cX0_isPassing 2 = .ok (.aload_n 0, 1) := by decide +kernel
theorem dX0_isPassing_3 : decode cX0_isPassing 3 = .ok (.invokevirtual 117, 3) := by decide +kernel
theorem dX0_isPassing_6 : decode cX0_isPassing 6 = .ok (.invokevirtual 121, 3) := by decide +kernel
theorem dX0_isPassing_9 : decode cX0_isPassing 9 = .ok (.sipush 840, 3) := by decide +kernel
theorem dX0_isPassing_12 : decode cX0_isPassing 12 = .ok (.imul, 1) := by decide +kernel
theorem dX0_isPassing_13 : decode cX0_isPassing 13 = .ok (.aload_n 0, 1) := by decide +kernel
theorem dX0_isPassing_14 : decode cX0_isPassing 14 = .ok (.aload_n 0, 1) := by decide +kernel
theorem dX0_isPassing_15 : decode cX0_isPassing 15 = .ok (.getfield 30, 3) := by decide +kernel
theorem dX0_isPassing_18 : decode cX0_isPassing 18 = .ok (.iload_n 1, 1) := by decide +kernel
theorem dX0_isPassing_19 : decode cX0_isPassing 19 = .ok (.iaload, 1) := by decide +kernel
theorem dX0_isPassing_20 : decode cX0_isPassing 20 = .ok (.invokevirtual 181, 3) := by decide +kernel
theorem dX0_isPassing_23 : decode cX0_isPassing 23 = .ok (.if_icmp .lt 7, 3) := by decide +kernel
theorem dX0_isPassing_26 : decode cX0_isPassing 26 = .ok (.iconst 1, 1) := by decide +kernel
theorem dX0_isPassing_27 : decode cX0_isPassing 27 = .ok (.goto 4, 3) := by decide +kernel
theorem dX0_isPassing_30 : decode cX0_isPassing 30 = .ok (.iconst 0, 1) := by decide +kernel
theorem dX0_isPassing_31 : decode cX0_isPassing 31 = .ok (.ireturn, 1) := by decide +kernel
theorem dX0_countPassing_0 : decode cX0_countPassing 0 = .ok (.iconst 0, 1) := by decide +kernel
theorem dX0_countPassing_1 : decode cX0_countPassing 1 = .ok (.istore_n 1, 1) := by decide +kernel
theorem dX0_countPassing_2 : decode cX0_countPassing 2 = .ok (.iconst 0, 1) := by decide +kernel
theorem dX0_countPassing_3 : decode cX0_countPassing 3 = .ok (.istore_n 2, 1) := by decide +kernel
theorem dX0_countPassing_4 : decode cX0_countPassing 4 = .ok (.iload_n 2, 1) := by decide +kernel
theorem dX0_countPassing_5 : decode cX0_countPassing 5 = .ok (.aload_n 0, 1) := by decide +kernel
theorem dX0_countPassing_6 : decode cX0_countPassing 6 = .ok (.getfield 90, 3) := by decide +kernel
theorem dX0_countPassing_9 : decode cX0_countPassing 9 = .ok (.if_icmp .ge 20, 3) := by decide +kernel
theorem dX0_countPassing_12 : decode cX0_countPassing 12 = .ok (.aload_n 0, 1) := by decide +kernel
theorem dX0_countPassing_13 : decode cX0_countPassing 13 = .ok (.iload_n 2, 1) := by decide +kernel
theorem dX0_countPassing_14 : decode cX0_countPassing 14 = .ok (.invokevirtual 186, 3) := by decide +kernel
theorem dX0_countPassing_17 : decode cX0_countPassing 17 = .ok (.ifCond .eq 6, 3) := by decide +kernel
theorem dX0_countPassing_20 : decode cX0_countPassing 20 = .ok (.iinc 1 1, 3) := by decide +kernel
theorem dX0_countPassing_23 : decode cX0_countPassing 23 = .ok (.iinc 2 1, 3) := by decide +kernel
theorem dX0_countPassing_26 : decode cX0_countPassing 26 = .ok (.goto (-22), 3) := by decide +kernel
theorem dX0_countPassing_29 : decode cX0_countPassing 29 = .ok (.iload_n 1, 1) := by decide +kernel
theorem dX0_countPassing_30 : decode cX0_countPassing 30 = .ok (.ireturn, 1) := by decide +kernel
theorem dX0_countAnswers_0 : decode cX0_countAnswers 0 = .ok (.iconst 0, 1) := by decide +kernel
theorem dX0_countAnswers_1 : decode cX0_countAnswers 1 = .ok (.istore_n 1, 1) := by decide +kernel
theorem dX0_countAnswers_2 : decode cX0_countAnswers 2 = .ok (.iconst 0, 1) := by decide +kernel
theorem dX0_countAnswers_3 : decode cX0_countAnswers 3 = .ok (.istore_n 2, 1) := by decide +kernel
theorem dX0_countAnswers_4 : decode cX0_countAnswers 4 = .ok (.iload_n 2, 1) := by decide +kernel
theorem dX0_countAnswers_5 : decode cX0_countAnswers 5 = .ok (.aload_n 0, 1) := by decide +kernel
theorem dX0_countAnswers_6 : decode cX0_countAnswers 6 = .ok (.getfield 90, 3) := by decide +kernel
theorem dX0_countAnswers_9 : decode cX0_countAnswers 9 = .ok (.bipush 12, 2) := by decide +kernel
theorem dX0_countAnswers_11 : decode cX0_countAnswers 11 = .ok (.imul, 1) := by decide +kernel
theorem dX0_countAnswers_12 : decode cX0_countAnswers 12 = .ok (.if_icmp .ge 22, 3) := by decide +kernel
theorem dX0_countAnswers_15 : decode cX0_countAnswers 15 = .ok (.aload_n 0, 1) := by decide +kernel
theorem dX0_countAnswers_16 : decode cX0_countAnswers 16 = .ok (.getfield 36, 3) := by decide +kernel
theorem dX0_countAnswers_19 : decode cX0_countAnswers 19 = .ok (.iload_n 2, 1) := by decide +kernel
theorem dX0_countAnswers_20 : decode cX0_countAnswers 20 = .ok (.iaload, 1) := by decide +kernel
theorem dX0_countAnswers_21 : decode cX0_countAnswers 21 = .ok (.iconst (-1), 1) := by decide +kernel
theorem dX0_countAnswers_22 : decode cX0_countAnswers 22 = .ok (.if_icmp .eq 6, 3) := by decide +kernel
theorem dX0_countAnswers_25 : decode cX0_countAnswers 25 = .ok (.iinc 1 1, 3) := by decide +kernel
theorem dX0_countAnswers_28 : decode cX0_countAnswers 28 = .ok (.iinc 2 1, 3) := by decide +kernel
theorem dX0_countAnswers_31 : decode cX0_countAnswers 31 = .ok (.goto (-27), 3) := by decide +kernel
theorem dX0_countAnswers_34 : decode cX0_countAnswers 34 = .ok (.iload_n 1, 1) := by decide +kernel
theorem dX0_countAnswers_35 : decode cX0_countAnswers 35 = .ok (.ireturn, 1) := by decide +kernel
theorem dX0_areAlikeOf_0 : decode cX0_areAlikeOf 0 = .ok (.aload_n 0, 1) := by decide +kernel
theorem dX0_areAlikeOf_1 : decode cX0_areAlikeOf 1 = .ok (.getfield 30, 3) := by decide +kernel
theorem dX0_areAlikeOf_4 : decode cX0_areAlikeOf 4 = .ok (.iload_n 2, 1) := by decide +kernel
theorem dX0_areAlikeOf_5 : decode cX0_areAlikeOf 5 = .ok (.iaload, 1) := by decide +kernel
theorem dX0_areAlikeOf_6 : decode cX0_areAlikeOf 6 = .ok (.iload_n 1, 1) := by decide +kernel
theorem dX0_areAlikeOf_7 : decode cX0_areAlikeOf 7 = .ok (.if_icmp .ne 28, 3) := by decide +kernel
theorem dX0_areAlikeOf_10 : decode cX0_areAlikeOf 10 = .ok (.aload_n 0, 1) := by decide +kernel
theorem dX0_areAlikeOf_11 : decode cX0_areAlikeOf 11 = .ok (.getfield 30, 3) := by decide +kernel
theorem dX0_areAlikeOf_14 : decode cX0_areAlikeOf 14 = .ok (.iload_n 3, 1) := by decide +kernel
theorem dX0_areAlikeOf_15 : decode cX0_areAlikeOf 15 = .ok (.iaload, 1) := by decide +kernel
theorem dX0_areAlikeOf_16 : decode cX0_areAlikeOf 16 = .ok (.iload_n 1, 1) := by decide +kernel
theorem dX0_areAlikeOf_17 : decode cX0_areAlikeOf 17 = .ok (.if_icmp .ne 18, 3) := by decide +kernel
theorem dX0_areAlikeOf_20 : decode cX0_areAlikeOf 20 = .ok (.aload_n 0, 1) := by decide +kernel
theorem dX0_areAlikeOf_21 : decode cX0_areAlikeOf 21 = .ok (.iload_n 2, 1) := by decide +kernel
theorem dX0_areAlikeOf_22 : decode cX0_areAlikeOf 22 = .ok (.iload_n 3, 1) := by decide +kernel
theorem dX0_areAlikeOf_23 : decode cX0_areAlikeOf 23 = .ok (.invokevirtual 193, 3) := by decide +kernel
theorem dX0_areAlikeOf_26 : decode cX0_areAlikeOf 26 = .ok (.iload 4, 2) := by decide +kernel
theorem dX0_areAlikeOf_28 : decode cX0_areAlikeOf 28 = .ok (.if_icmp .lt 7, 3) := by decide +kernel
theorem dX0_areAlikeOf_31 : decode cX0_areAlikeOf 31 = .ok (.iconst 1, 1) := by decide +kernel
theorem dX0_areAlikeOf_32 : decode cX0_areAlikeOf 32 = .ok (.goto 4, 3) := by decide +kernel
theorem dX0_areAlikeOf_35 : decode cX0_areAlikeOf 35 = .ok (.iconst 0, 1) := by decide +kernel
theorem dX0_areAlikeOf_36 : decode cX0_areAlikeOf 36 = .ok (.ireturn, 1) := by decide +kernel
theorem dX0_sameWrongs_0 : decode cX0_sameWrongs 0 = .ok (.aload_n 0, 1) := by decide +kernel
theorem dX0_sameWrongs_1 : decode cX0_sameWrongs 1 = .ok (.getfield 30, 3) := by decide +kernel
theorem dX0_sameWrongs_4 : decode cX0_sameWrongs 4 = .ok (.iload_n 1, 1) := by decide +kernel
theorem dX0_sameWrongs_5 : decode cX0_sameWrongs 5 = .ok (.iaload, 1) := by decide +kernel
theorem dX0_sameWrongs_6 : decode cX0_sameWrongs 6 = .ok (.istore_n 3, 1) := by decide +kernel
theorem dX0_sameWrongs_7 : decode cX0_sameWrongs 7 = .ok (.iconst 0, 1) := by decide +kernel
theorem dX0_sameWrongs_8 : decode cX0_sameWrongs 8 = .ok (.istore 4, 2) := by decide +kernel
theorem dX0_sameWrongs_10 : decode cX0_sameWrongs 10 = .ok (.iconst 0, 1) := by decide +kernel
theorem dX0_sameWrongs_11 : decode cX0_sameWrongs 11 = .ok (.istore 5, 2) := by decide +kernel
theorem dX0_sameWrongs_13 : decode cX0_sameWrongs 13 = .ok (.iload 5, 2) := by decide +kernel
theorem dX0_sameWrongs_15 : decode cX0_sameWrongs 15 = .ok (.aload_n 0, 1) := by decide +kernel
theorem dX0_sameWrongs_16 : decode cX0_sameWrongs 16 = .ok (.getfield 21, 3) := by decide +kernel
theorem dX0_sameWrongs_19 : decode cX0_sameWrongs 19 = .ok (.iload_n 3, 1) := by decide +kernel
theorem dX0_sameWrongs_20 : decode cX0_sameWrongs 20 = .ok (.iaload, 1) := by decide +kernel
theorem dX0_sameWrongs_21 : decode cX0_sameWrongs 21 = .ok (.if_icmp .ge 76, 3) := by decide +kernel
theorem dX0_sameWrongs_24 : decode cX0_sameWrongs 24 = .ok (.aload_n 0, 1) := by decide +kernel
theorem dX0_sameWrongs_25 : decode cX0_sameWrongs 25 = .ok (.getfield 36, 3) := by decide +kernel
theorem dX0_sameWrongs_28 : decode cX0_sameWrongs 28 = .ok (.iload_n 1, 1) := by decide +kernel
theorem dX0_sameWrongs_29 : decode cX0_sameWrongs 29 = .ok (.bipush 12, 2) := by decide +kernel
theorem dX0_sameWrongs_31 : decode cX0_sameWrongs 31 = .ok (.imul, 1) := by decide +kernel
theorem dX0_sameWrongs_32 : decode cX0_sameWrongs 32 = .ok (.iload 5, 2) := by decide +kernel
theorem dX0_sameWrongs_34 : decode cX0_sameWrongs 34 = .ok (.iadd, 1) := by decide +kernel
theorem dX0_sameWrongs_35 : decode cX0_sameWrongs 35 = .ok (.iaload, 1) := by decide +kernel
theorem dX0_sameWrongs_36 : decode cX0_sameWrongs 36 = .ok (.istore 6, 2) := by decide +kernel
theorem dX0_sameWrongs_38 : decode cX0_sameWrongs 38 = .ok (.iload 6, 2) := by decide +kernel
theorem dX0_sameWrongs_40 : decode cX0_sameWrongs 40 = .ok (.iconst (-1), 1) := by decide +kernel
theorem dX0_sameWrongs_41 : decode cX0_sameWrongs 41 = .ok (.if_icmp .eq 50, 3) := by decide +kernel
theorem dX0_sameWrongs_44 : decode cX0_sameWrongs 44 = .ok (.iload 6, 2) := by decide +kernel
theorem dX0_sameWrongs_46 : decode cX0_sameWrongs 46 = .ok (.aload_n 0, 1) := by decide +kernel
theorem dX0_sameWrongs_47 : decode cX0_sameWrongs 47 = .ok (.getfield 36, 3) := by decide +kernel
theorem dX0_sameWrongs_50 : decode cX0_sameWrongs 50 = .ok (.iload_n 2, 1) := by decide +kernel
theorem dX0_sameWrongs_51 : decode cX0_sameWrongs 51 = .ok (.bipush 12, 2) := by decide +kernel
theorem dX0_sameWrongs_53 : decode cX0_sameWrongs 53 = .ok (.imul, 1) := by decide +kernel
theorem dX0_sameWrongs_54 : decode cX0_sameWrongs 54 = .ok (.iload 5, 2) := by decide +kernel
theorem dX0_sameWrongs_56 : decode cX0_sameWrongs 56 = .ok (.iadd, 1) := by decide +kernel
theorem dX0_sameWrongs_57 : decode cX0_sameWrongs 57 = .ok (.iaload, 1) := by decide +kernel
theorem dX0_sameWrongs_58 : decode cX0_sameWrongs 58 = .ok (.if_icmp .ne 33, 3) := by decide +kernel
theorem dX0_sameWrongs_61 : decode cX0_sameWrongs 61 = .ok (.aload_n 0, 1) := by decide +kernel
theorem dX0_sameWrongs_62 : decode cX0_sameWrongs 62 = .ok (.iload_n 1, 1) := by decide +kernel
theorem dX0_sameWrongs_63 : decode cX0_sameWrongs 63 = .ok (.iload 5, 2) := by decide +kernel
theorem dX0_sameWrongs_65 : decode cX0_sameWrongs 65 = .ok (.invokevirtual 111, 3) := by decide +kernel
theorem dX0_sameWrongs_68 : decode cX0_sameWrongs 68 = .ok (.aload_n 0, 1) := by decide +kernel
theorem dX0_sameWrongs_69 : decode cX0_sameWrongs 69 = .ok (.getfield 15, 3) := by decide +kernel
theorem dX0_sameWrongs_72 : decode cX0_sameWrongs 72 = .ok (.aload_n 0, 1) := by decide +kernel
theorem dX0_sameWrongs_73 : decode cX0_sameWrongs 73 = .ok (.getfield 27, 3) := by decide +kernel
theorem dX0_sameWrongs_76 : decode cX0_sameWrongs 76 = .ok (.iload_n 3, 1) := by decide +kernel
theorem dX0_sameWrongs_77 : decode cX0_sameWrongs 77 = .ok (.bipush 12, 2) := by decide +kernel
theorem dX0_sameWrongs_79 : decode cX0_sameWrongs 79 = .ok (.imul, 1) := by decide +kernel
theorem dX0_sameWrongs_80 : decode cX0_sameWrongs 80 = .ok (.iload 5, 2) := by decide +kernel
theorem dX0_sameWrongs_82 : decode cX0_sameWrongs 82 = .ok (.iadd, 1) := by decide +kernel
theorem dX0_sameWrongs_83 : decode cX0_sameWrongs 83 = .ok (.iaload, 1) := by decide +kernel
theorem dX0_sameWrongs_84 : decode cX0_sameWrongs 84 = .ok (.iaload, 1) := by decide +kernel
theorem dX0_sameWrongs_85 : decode cX0_sameWrongs 85 = .ok (.if_icmp .ge 6, 3) := by decide +kernel
theorem dX0_sameWrongs_88 : decode cX0_sameWrongs 88 = .ok (.iinc 4 1, 3) := by decide +kernel
theorem dX0_sameWrongs_91 : decode cX0_sameWrongs 91 = .ok (.iinc 5 1, 3) := by decide +kernel
theorem dX0_sameWrongs_94 : decode cX0_sameWrongs 94 = .ok (.goto (-81), 3) := by decide +kernel
theorem dX0_sameWrongs_97 : decode cX0_sameWrongs 97 = .ok (.iload 4, 2) := by decide +kernel
theorem dX0_sameWrongs_99 : decode cX0_sameWrongs 99 = .ok (.ireturn, 1) := by decide +kernel
theorem dX0_fraction_0 : decode cX0_fraction 0 = .ok (.lload_n 0, 1) := by decide +kernel
theorem dX0_fraction_1 : decode cX0_fraction 1 = .ok (.invokestatic 189, 3) := by decide +kernel
theorem dX0_fraction_4 : decode cX0_fraction 4 = .ok (.lload_n 2, 1) := by decide +kernel
theorem dX0_fraction_5 : decode cX0_fraction 5 = .ok (.invokestatic 212, 3) := by decide +kernel
theorem dX0_fraction_8 : decode cX0_fraction 8 = .ok (.lstore 5, 2) := by decide +kernel
theorem dX0_fraction_10 : decode cX0_fraction 10 = .ok (.lload 5, 2) := by decide +kernel
theorem dX0_fraction_12 : decode cX0_fraction 12 = .ok (.lconst 0, 1) := by decide +kernel
theorem dX0_fraction_13 : decode cX0_fraction 13 = .ok (.lcmp, 1) := by decide +kernel
theorem dX0_fraction_14 : decode cX0_fraction 14 = .ok (.ifCond .gt 7, 3) := by decide +kernel
theorem dX0_fraction_17 : decode cX0_fraction 17 = .ok (.ldc2_w 127, 3) := by decide +kernel
theorem dX0_fraction_20 : decode cX0_fraction 20 = .ok (.lreturn, 1) := by decide +kernel
theorem dX0_fraction_21 : decode cX0_fraction 21 = .ok (.iload 4, 2) := by decide +kernel
theorem dX0_fraction_23 : decode cX0_fraction 23 = .ok (.ifCond .ne 7, 3) := by decide +kernel
theorem dX0_fraction_26 : decode cX0_fraction 26 = .ok (.lload_n 0, 1) := by decide +kernel
theorem dX0_fraction_27 : decode cX0_fraction 27 = .ok (.goto 4, 3) := by decide +kernel
theorem dX0_fraction_30 : decode cX0_fraction 30 = .ok (.lload_n 2, 1) := by decide +kernel
theorem dX0_fraction_31 : decode cX0_fraction 31 = .ok (.lload 5, 2) := by decide +kernel
theorem dX0_fraction_33 : decode cX0_fraction 33 = .ok (.ldiv, 1) := by decide +kernel
theorem dX0_fraction_34 : decode cX0_fraction 34 = .ok (.lreturn, 1) := by decide +kernel
theorem dX0_commonDivisor_0 : decode cX0_commonDivisor 0 = .ok (.lload_n 0, 1) := by decide +kernel
theorem dX0_commonDivisor_1 : decode cX0_commonDivisor 1 = .ok (.lstore 4, 2) := by decide +kernel
theorem dX0_commonDivisor_3 : decode cX0_commonDivisor 3 = .ok (.lload_n 2, 1) := by decide +kernel
theorem dX0_commonDivisor_4 : decode cX0_commonDivisor 4 = .ok (.lstore 6, 2) := by decide +kernel
theorem dX0_commonDivisor_6 : decode cX0_commonDivisor 6 = .ok (.iconst 0, 1) := by decide +kernel
theorem dX0_commonDivisor_7 : decode cX0_commonDivisor 7 = .ok (.istore 8, 2) := by decide +kernel
theorem dX0_commonDivisor_9 : decode cX0_commonDivisor 9 = .ok (.iload 8, 2) := by decide +kernel
theorem dX0_commonDivisor_11 : decode cX0_commonDivisor 11 = .ok (.sipush 200, 3) := by decide +kernel
theorem dX0_commonDivisor_14 : decode cX0_commonDivisor 14 = .ok (.if_icmp .ge 31, 3) := by decide +kernel
theorem dX0_commonDivisor_17 : decode cX0_commonDivisor 17 = .ok (.lload 6, 2) := by decide +kernel
theorem dX0_commonDivisor_19 : decode cX0_commonDivisor 19 = .ok (.lconst 0, 1) := by decide +kernel
theorem dX0_commonDivisor_20 : decode cX0_commonDivisor 20 = .ok (.lcmp, 1) := by decide +kernel
theorem dX0_commonDivisor_21 : decode cX0_commonDivisor 21 = .ok (.ifCond .eq 24, 3) := by decide +kernel
theorem dX0_commonDivisor_24 : decode cX0_commonDivisor 24 = .ok (.lload 4, 2) := by decide +kernel
theorem dX0_commonDivisor_26 : decode cX0_commonDivisor 26 = .ok (.lload 6, 2) := by decide +kernel
theorem dX0_commonDivisor_28 : decode cX0_commonDivisor 28 = .ok (.lrem, 1) := by decide +kernel
theorem dX0_commonDivisor_29 : decode cX0_commonDivisor 29 = .ok (.lstore 9, 2) := by decide +kernel
theorem dX0_commonDivisor_31 : decode cX0_commonDivisor 31 = .ok (.lload 6, 2) := by decide +kernel
theorem dX0_commonDivisor_33 : decode cX0_commonDivisor 33 = .ok (.lstore 4, 2) := by decide +kernel
theorem dX0_commonDivisor_35 : decode cX0_commonDivisor 35 = .ok (.lload 9, 2) := by decide +kernel
theorem dX0_commonDivisor_37 : decode cX0_commonDivisor 37 = .ok (.lstore 6, 2) := by decide +kernel
theorem dX0_commonDivisor_39 : decode cX0_commonDivisor 39 = .ok (.iinc 8 1, 3) := by decide +kernel
theorem dX0_commonDivisor_42 : decode cX0_commonDivisor 42 = .ok (.goto (-33), 3) := by decide +kernel
theorem dX0_commonDivisor_45 : decode cX0_commonDivisor 45 = .ok (.lload 4, 2) := by decide +kernel
theorem dX0_commonDivisor_47 : decode cX0_commonDivisor 47 = .ok (.lreturn, 1) := by decide +kernel

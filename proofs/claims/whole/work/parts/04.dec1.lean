theorem dX1_init_0 : decode cX1_init 0 = .ok (.aload_n 0, 1) := by decide +kernel
theorem dX1_init_1 : decode cX1_init 1 = .ok (.invokespecial 1, 3) := by decide +kernel
theorem dX1_init_4 : decode cX1_init 4 = .ok (.aload_n 0, 1) := by decide +kernel
theorem dX1_init_5 : decode cX1_init 5 = .ok (.iconst 0, 1) := by decide +kernel
theorem dX1_init_6 : decode cX1_init 6 = .ok (.putfield 7, 3) := by decide +kernel
theorem dX1_init_9 : decode cX1_init 9 = .ok (.aload_n 0, 1) := by decide +kernel
theorem dX1_init_10 : decode cX1_init 10 = .ok (.iconst 0, 1) := by decide +kernel
theorem dX1_init_11 : decode cX1_init 11 = .ok (.putfield 13, 3) := by decide +kernel
theorem dX1_init_14 : decode cX1_init 14 = .ok (.aload_n 0, 1) := by decide +kernel
theorem dX1_init_15 : decode cX1_init 15 = .ok (.iconst 0, 1) := by decide +kernel
theorem dX1_init_16 : decode cX1_init 16 = .ok (.putfield 16, 3) := by decide +kernel
theorem dX1_init_19 : decode cX1_init 19 = .ok (.aload_n 0, 1) := by decide +kernel
theorem dX1_init_20 : decode cX1_init 20 = .ok (.bipush 30, 2) := by decide +kernel
theorem dX1_init_22 : decode cX1_init 22 = .ok (.newarray .int, 2) := by decide +kernel
theorem dX1_init_24 : decode cX1_init 24 = .ok (.putfield 19, 3) := by decide +kernel
theorem dX1_init_27 : decode cX1_init 27 = .ok (.aload_n 0, 1) := by decide +kernel
theorem dX1_init_28 : decode cX1_init 28 = .ok (.bipush 30, 2) := by decide +kernel
theorem dX1_init_30 : decode cX1_init 30 = .ok (.newarray .int, 2) := by decide +kernel
theorem dX1_init_32 : decode cX1_init 32 = .ok (.putfield 23, 3) := by decide +kernel
theorem dX1_init_35 : decode cX1_init 35 = .ok (.aload_n 0, 1) := by decide +kernel
theorem dX1_init_36 : decode cX1_init 36 = .ok (.bipush 30, 2) := by decide +kernel
theorem dX1_init_38 : decode cX1_init 38 = .ok (.newarray .int, 2) := by decide +kernel
theorem dX1_init_40 : decode cX1_init 40 = .ok (.putfield 26, 3) := by decide +kernel
theorem dX1_init_43 : decode cX1_init 43 = .ok (.aload_n 0, 1) := by decide +kernel
theorem dX1_init_44 : decode cX1_init 44 = .ok (.bipush 30, 2) := by decide +kernel
theorem dX1_init_46 : decode cX1_init 46 = .ok (.newarray .boolean, 2) := by decide +kernel
theorem dX1_init_48 : decode cX1_init 48 = .ok (.putfield 29, 3) := by decide +kernel
theorem dX1_init_51 : decode cX1_init 51 = .ok (.aload_n 0, 1) := by decide +kernel
theorem dX1_init_52 : decode cX1_init 52 = .ok (.bipush 96, 2) := by decide +kernel
theorem dX1_init_54 : decode cX1_init 54 = .ok (.newarray .int, 2) := by decide +kernel
theorem dX1_init_56 : decode cX1_init 56 = .ok (.putfield 33, 3) := by decide +kernel
theorem dX1_init_59 : decode cX1_init 59 = .ok (.aload_n 0, 1) := by decide +kernel
theorem dX1_init_60 : decode cX1_init 60 = .ok (.bipush 8, 2) := by decide +kernel
theorem dX1_init_62 : decode cX1_init 62 = .ok (.newarray .int, 2) := by decide +kernel
theorem dX1_init_64 : decode cX1_init 64 = .ok (.putfield 36, 3) := by decide +kernel
theorem dX1_init_67 : decode cX1_init 67 = .ok (.aload_n 0, 1) := by decide +kernel
theorem dX1_init_68 : decode cX1_init 68 = .ok (.bipush 60, 2) := by decide +kernel
theorem dX1_init_70 : decode cX1_init 70 = .ok (.newarray .int, 2) := by decide +kernel
theorem dX1_init_72 : decode cX1_init 72 = .ok (.putfield 39, 3) := by decide +kernel
theorem dX1_init_75 : decode cX1_init 75 = .ok (.aload_n 0, 1) := by decide +kernel
theorem dX1_init_76 : decode cX1_init 76 = .ok (.bipush 60, 2) := by decide +kernel
theorem dX1_init_78 : decode cX1_init 78 = .ok (.newarray .int, 2) := by decide +kernel
theorem dX1_init_80 : decode cX1_init 80 = .ok (.putfield 42, 3) := by decide +kernel
theorem dX1_init_83 : decode cX1_init 83 = .ok (.aload_n 0, 1) := by decide +kernel
theorem dX1_init_84 : decode cX1_init 84 = .ok (.sipush 720, 3) := by decide +kernel
theorem dX1_init_87 : decode cX1_init 87 = .ok (.newarray .int, 2) := by decide +kernel
theorem dX1_init_89 : decode cX1_init 89 = .ok (.putfield 45, 3) := by decide +kernel
theorem dX1_init_92 : decode cX1_init 92 = .ok (.aload_n 0, 1) := by decide +kernel
theorem dX1_init_93 : decode cX1_init 93 = .ok (.sipush 768, 3) := by decide +kernel
theorem dX1_init_96 : decode cX1_init 96 = .ok (.newarray .int, 2) := by decide +kernel
theorem dX1_init_98 : decode cX1_init 98 = .ok (.putfield 48, 3) := by decide +kernel
theorem dX1_init_101 : decode cX1_init 101 = .ok (.return_, 1) := by decide +kernel
theorem dX1_in_0 : decode cX1_in 0 = .ok (.iload_n 1, 1) := by decide +kernel
theorem dX1_in_1 : decode cX1_in 1 = .ok (.iload_n 2, 1) := by decide +kernel
theorem dX1_in_2 : decode cX1_in 2 = .ok (.if_icmp .lt 12, 3) := by decide +kernel
theorem dX1_in_5 : decode cX1_in 5 = .ok (.iload_n 1, 1) := by decide +kernel
theorem dX1_in_6 : decode cX1_in 6 = .ok (.iload_n 3, 1) := by decide +kernel
theorem dX1_in_7 : decode cX1_in 7 = .ok (.if_icmp .gt 7, 3) := by decide +kernel
theorem dX1_in_10 : decode cX1_in 10 = .ok (.iconst 1, 1) := by decide +kernel
theorem dX1_in_11 : decode cX1_in 11 = .ok (.goto 4, 3) := by decide +kernel
theorem dX1_in_14 : decode cX1_in 14 = .ok (.iconst 0, 1) := by decide +kernel
theorem dX1_in_15 : decode cX1_in 15 = .ok (.ireturn, 1) := by decide +kernel
theorem dX1_isQuestion_0 : decode cX1_isQuestion 0 = .ok (.aload_n 0, 1) := by decide +kernel
theorem dX1_isQuestion_1 : decode cX1_isQuestion 1 = .ok (.iload_n 1, 1) := by decide +kernel
theorem dX1_isQuestion_2 : decode cX1_isQuestion 2 = .ok (.iconst 0, 1) := by decide +kernel
theorem dX1_isQuestion_3 : decode cX1_isQuestion 3 = .ok (.aload_n 0, 1) := by decide +kernel
theorem dX1_isQuestion_4 : decode cX1_isQuestion 4 = .ok (.getfield 7, 3) := by decide +kernel
theorem dX1_isQuestion_7 : decode cX1_isQuestion 7 = .ok (.iconst 1, 1) := by decide +kernel
theorem dX1_isQuestion_8 : decode cX1_isQuestion 8 = .ok (.isub, 1) := by decide +kernel
theorem dX1_isQuestion_9 : decode cX1_isQuestion 9 = .ok (.invokevirtual 51, 3) := by decide +kernel
theorem dX1_isQuestion_12 : decode cX1_isQuestion 12 = .ok (.ireturn, 1) := by decide +kernel
theorem dX1_isPaper_0 : decode cX1_isPaper 0 = .ok (.aload_n 0, 1) := by decide +kernel
theorem dX1_isPaper_1 : decode cX1_isPaper 1 = .ok (.iload_n 1, 1) := by decide +kernel
theorem dX1_isPaper_2 : decode cX1_isPaper 2 = .ok (.iconst 0, 1) := by decide +kernel
theorem dX1_isPaper_3 : decode cX1_isPaper 3 = .ok (.aload_n 0, 1) := by decide +kernel
theorem dX1_isPaper_4 : decode cX1_isPaper 4 = .ok (.getfield 13, 3) := by decide +kernel
theorem dX1_isPaper_7 : decode cX1_isPaper 7 = .ok (.iconst 1, 1) := by decide +kernel
theorem dX1_isPaper_8 : decode cX1_isPaper 8 = .ok (.isub, 1) := by decide +kernel
theorem dX1_isPaper_9 : decode cX1_isPaper 9 = .ok (.invokevirtual 51, 3) := by decide +kernel
theorem dX1_isPaper_12 : decode cX1_isPaper 12 = .ok (.ireturn, 1) := by decide +kernel
theorem dX1_isPupil_0 : decode cX1_isPupil 0 = .ok (.aload_n 0, 1) := by decide +kernel
theorem dX1_isPupil_1 : decode cX1_isPupil 1 = .ok (.iload_n 1, 1) := by decide +kernel
theorem dX1_isPupil_2 : decode cX1_isPupil 2 = .ok (.iconst 0, 1) := by decide +kernel
theorem dX1_isPupil_3 : decode cX1_isPupil 3 = .ok (.aload_n 0, 1) := by decide +kernel
theorem dX1_isPupil_4 : decode cX1_isPupil 4 = .ok (.getfield 16, 3) := by decide +kernel
theorem dX1_isPupil_7 : decode cX1_isPupil 7 = .ok (.iconst 1, 1) := by decide +kernel
theorem dX1_isPupil_8 : decode cX1_isPupil 8 = .ok (.isub, 1) := by decide +kernel
theorem dX1_isPupil_9 : decode cX1_isPupil 9 = .ok (.invokevirtual 51, 3) := by decide +kernel
theorem dX1_isPupil_12 : decode cX1_isPupil 12 = .ok (.ireturn, 1) := by decide +kernel
theorem dX1_isKey_0 : decode cX1_isKey 0 = .ok (.iload_n 1, 1) := by decide +kernel
theorem dX1_isKey_1 : decode cX1_isKey 1 = .ok (.iconst 1, 1) := by decide +kernel
theorem dX1_isKey_2 : decode cX1_isKey 2 = .ok (.if_icmp .ne 15, 3) := by decide +kernel
theorem dX1_isKey_5 : decode cX1_isKey 5 = .ok (.aload_n 0, 1) := by decide +kernel
theorem dX1_isKey_6 : decode cX1_isKey 6 = .ok (.iload_n 2, 1) := by decide +kernel
theorem dX1_isKey_7 : decode cX1_isKey 7 = .ok (.iconst 1, 1) := by decide +kernel
theorem dX1_isKey_8 : decode cX1_isKey 8 = .ok (.sipush 255, 3) := by decide +kernel
theorem dX1_isKey_11 : decode cX1_isKey 11 = .ok (.invokevirtual 51, 3) := by decide +kernel
theorem dX1_isKey_14 : decode cX1_isKey 14 = .ok (.goto 12, 3) := by decide +kernel
theorem dX1_isKey_17 : decode cX1_isKey 17 = .ok (.iload_n 2, 1) := by decide +kernel
theorem dX1_isKey_18 : decode cX1_isKey 18 = .ok (.ifCond .ne 7, 3) := by decide +kernel
theorem dX1_isKey_21 : decode cX1_isKey 21 = .ok (.iconst 1, 1) := by decide +kernel
theorem dX1_isKey_22 : decode cX1_isKey 22 = .ok (.goto 4, 3) := by decide +kernel
theorem dX1_isKey_25 : decode cX1_isKey 25 = .ok (.iconst 0, 1) := by decide +kernel
theorem dX1_isKey_26 : decode cX1_isKey 26 = .ok (.ireturn, 1) := by decide +kernel
theorem dX1_question_0 : decode cX1_question 0 = .ok (.aload_n 0, 1) := by decide +kernel
theorem dX1_question_1 : decode cX1_question 1 = .ok (.iload_n 1, 1) := by decide +kernel
theorem dX1_question_2 : decode cX1_question 2 = .ok (.iconst 0, 1) := by decide +kernel
theorem dX1_question_3 : decode cX1_question 3 = .ok (.iconst 3, 1) := by decide +kernel
theorem dX1_question_4 : decode cX1_question 4 = .ok (.invokevirtual 51, 3) := by decide +kernel
theorem dX1_question_7 : decode cX1_question 7 = .ok (.ifCond .eq 23, 3) := by decide +kernel
theorem dX1_question_10 : decode cX1_question 10 = .ok (.aload_n 0, 1) := by decide +kernel
theorem dX1_question_11 : decode cX1_question 11 = .ok (.iload_n 2, 1) := by decide +kernel
theorem dX1_question_12 : decode cX1_question 12 = .ok (.iconst 1, 1) := by decide +kernel
theorem dX1_question_13 : decode cX1_question 13 = .ok (.bipush 10, 2) := by decide +kernel
theorem dX1_question_15 : decode cX1_question 15 = .ok (.invokevirtual 51, 3) := by decide +kernel
theorem dX1_question_18 : decode cX1_question 18 = .ok (.ifCond .eq 12, 3) := by decide +kernel
theorem dX1_question_21 : decode cX1_question 21 = .ok (.aload_n 0, 1) := by decide +kernel
theorem dX1_question_22 : decode cX1_question 22 = .ok (.iload_n 1, 1) := by decide +kernel
theorem dX1_question_23 : decode cX1_question 23 = .ok (.iload_n 3, 1) := by decide +kernel
theorem dX1_question_24 : decode cX1_question 24 = .ok (.invokevirtual 55, 3) := by decide +kernel
theorem dX1_question_27 : decode cX1_question 27 = .ok (.ifCond .ne 6, 3) := by decide +kernel
theorem dX1_question_30 : decode cX1_question 30 = .ok (.bipush (-2), 2) := by decide +kernel
theorem dX1_question_32 : decode cX1_question 32 = .ok (.ireturn, 1) := by decide +kernel
theorem dX1_question_33 : decode cX1_question 33 = .ok (.aload_n 0, 1) := by decide +kernel
theorem dX1_question_34 : decode cX1_question 34 = .ok (.getfield 7, 3) := by decide +kernel
theorem dX1_question_37 : decode cX1_question 37 = .ok (.bipush 30, 2) := by decide +kernel
theorem dX1_question_39 : decode cX1_question 39 = .ok (.if_icmp .ne 6, 3) := by decide +kernel
theorem dX1_question_42 : decode cX1_question 42 = .ok (.bipush (-4), 2) := by decide +kernel
theorem dX1_question_44 : decode cX1_question 44 = .ok (.ireturn, 1) := by decide +kernel
theorem dX1_question_45 : decode cX1_question 45 = .ok (.aload_n 0, 1) := by decide +kernel
theorem dX1_question_46 : decode cX1_question 46 = .ok (.getfield 19, 3) := by decide +kernel
theorem dX1_question_49 : decode cX1_question 49 = .ok (.aload_n 0, 1) := by decide +kernel
theorem dX1_question_50 : decode cX1_question 50 = .ok (.getfield 7, 3) := by decide +kernel
theorem dX1_question_53 : decode cX1_question 53 = .ok (.iload_n 1, 1) := by decide +kernel
theorem dX1_question_54 : decode cX1_question 54 = .ok (.iastore, 1) := by decide +kernel
theorem dX1_question_55 : decode cX1_question 55 = .ok (.aload_n 0, 1) := by decide +kernel
theorem dX1_question_56 : decode cX1_question 56 = .ok (.getfield 23, 3) := by decide +kernel
theorem dX1_question_59 : decode cX1_question 59 = .ok (.aload_n 0, 1) := by decide +kernel
theorem dX1_question_60 : decode cX1_question 60 = .ok (.getfield 7, 3) := by decide +kernel
theorem dX1_question_63 : decode cX1_question 63 = .ok (.iload_n 2, 1) := by decide +kernel
theorem dX1_question_64 : decode cX1_question 64 = .ok (.iastore, 1) := by decide +kernel
theorem dX1_question_65 : decode cX1_question 65 = .ok (.aload_n 0, 1) := by decide +kernel
theorem dX1_question_66 : decode cX1_question 66 = .ok (.getfield 26, 3) := by decide +kernel
theorem dX1_question_69 : decode cX1_question 69 = .ok (.aload_n 0, 1) := by decide +kernel
theorem dX1_question_70 : decode cX1_question 70 = .ok (.getfield 7, 3) := by decide +kernel
theorem dX1_question_73 : decode cX1_question 73 = .ok (.iload_n 3, 1) := by decide +kernel
theorem dX1_question_74 : decode cX1_question 74 = .ok (.iastore, 1) := by decide +kernel
theorem dX1_question_75 : decode cX1_question 75 = .ok (.aload_n 0, 1) := by decide +kernel
theorem dX1_question_76 : decode cX1_question 76 = .ok (.dup, 1) := by decide +kernel
theorem dX1_question_77 : decode cX1_question 77 = .ok (.getfield 7, 3) := by decide +kernel
theorem dX1_question_80 : decode cX1_question 80 = .ok (.iconst 1, 1) := by decide +kernel
theorem dX1_question_81 : decode cX1_question 81 = .ok (.iadd, 1) := by decide +kernel
theorem dX1_question_82 : decode cX1_question 82 = .ok (.putfield 7, 3) := by decide +kernel
theorem dX1_question_85 : decode cX1_question 85 = .ok (.aload_n 0, 1) := by decide +kernel
theorem dX1_question_86 : decode cX1_question 86 = .ok (.getfield 7, 3) := by decide +kernel
theorem dX1_question_89 : decode cX1_question 89 = .ok (.iconst 1, 1) := by decide +kernel
theorem dX1_question_90 : decode cX1_question 90 = .ok (.isub, 1) := by decide +kernel
theorem dX1_question_91 : decode cX1_question 91 = .ok (.ireturn, 1) := by decide +kernel
theorem dX1_key_0 : decode cX1_key 0 = .ok (.aload_n 0, 1) := by decide +kernel
theorem dX1_key_1 : decode cX1_key 1 = .ok (.iload_n 1, 1) := by decide +kernel
theorem dX1_key_2 : decode cX1_key 2 = .ok (.invokevirtual 59, 3) := by decide +kernel
theorem dX1_key_5 : decode cX1_key 5 = .ok (.ifCond .ne 5, 3) := by decide +kernel
theorem dX1_key_8 : decode cX1_key 8 = .ok (.iconst (-1), 1) := by decide +kernel
theorem dX1_key_9 : decode cX1_key 9 = .ok (.ireturn, 1) := by decide +kernel
theorem dX1_key_10 : decode cX1_key 10 = .ok (.aload_n 0, 1) := by decide +kernel
theorem dX1_key_11 : decode cX1_key 11 = .ok (.iload_n 2, 1) := by decide +kernel
theorem dX1_key_12 : decode cX1_key 12 = .ok (.iconst 1, 1) := by decide +kernel
theorem dX1_key_13 : decode cX1_key 13 = .ok (.sipush 255, 3) := by decide +kernel
theorem dX1_key_16 : decode cX1_key 16 = .ok (.invokevirtual 51, 3) := by decide +kernel
theorem dX1_key_19 : decode cX1_key 19 = .ok (.ifCond .ne 6, 3) := by decide +kernel
theorem dX1_key_22 : decode cX1_key 22 = .ok (.bipush (-2), 2) := by decide +kernel
theorem dX1_key_24 : decode cX1_key 24 = .ok (.ireturn, 1) := by decide +kernel
theorem dX1_key_25 : decode cX1_key 25 = .ok (.aload_n 0, 1) := by decide +kernel
theorem dX1_key_26 : decode cX1_key 26 = .ok (.getfield 19, 3) := by decide +kernel
theorem dX1_key_29 : decode cX1_key 29 = .ok (.iload_n 1, 1) := by decide +kernel
theorem dX1_key_30 : decode cX1_key 30 = .ok (.iaload, 1) := by decide +kernel
theorem dX1_key_31 : decode cX1_key 31 = .ok (.iconst 1, 1) := by decide +kernel
theorem dX1_key_32 : decode cX1_key 32 = .ok (.if_icmp .eq 6, 3) := by decide +kernel
theorem dX1_key_35 : decode cX1_key 35 = .ok (.bipush (-3), 2) := by decide +kernel
theorem dX1_key_37 : decode cX1_key 37 = .ok (.ireturn, 1) := by decide +kernel
theorem dX1_key_38 : decode cX1_key 38 = .ok (.aload_n 0, 1) := by decide +kernel
theorem dX1_key_39 : decode cX1_key 39 = .ok (.getfield 26, 3) := by decide +kernel
theorem dX1_key_42 : decode cX1_key 42 = .ok (.iload_n 1, 1) := by decide +kernel
theorem dX1_key_43 : decode cX1_key 43 = .ok (.iaload, 1) := by decide +kernel
theorem dX1_key_44 : decode cX1_key 44 = .ok (.istore_n 3, 1) := by decide +kernel
theorem dX1_key_45 : decode cX1_key 45 = .ok (.aload_n 0, 1) := by decide +kernel
theorem dX1_key_46 : decode cX1_key 46 = .ok (.getfield 26, 3) := by decide +kernel
theorem dX1_key_49 : decode cX1_key 49 = .ok (.iload_n 1, 1) := by decide +kernel
theorem dX1_key_50 : decode cX1_key 50 = .ok (.iload_n 2, 1) := by decide +kernel
theorem dX1_key_51 : decode cX1_key 51 = .ok (.iastore, 1) := by decide +kernel
theorem dX1_key_52 : decode cX1_key 52 = .ok (.iload_n 3, 1) := by decide +kernel
theorem dX1_key_53 : decode cX1_key 53 = .ok (.ireturn, 1) := by decide +kernel
theorem dX1_strike_0 : decode cX1_strike 0 = .ok (.aload_n 0, 1) := by decide +kernel
theorem dX1_strike_1 : decode cX1_strike 1 = .ok (.iload_n 1, 1) := by decide +kernel
theorem dX1_strike_2 : decode cX1_strike 2 = .ok (.invokevirtual 59, 3) := by decide +kernel
theorem dX1_strike_5 : decode cX1_strike 5 = .ok (.ifCond .ne 5, 3) := by decide +kernel
theorem dX1_strike_8 : decode cX1_strike 8 = .ok (.iconst (-1), 1) := by decide +kernel
theorem dX1_strike_9 : decode cX1_strike 9 = .ok (.ireturn, 1) := by decide +kernel
theorem dX1_strike_10 : decode cX1_strike 10 = .ok (.aload_n 0, 1) := by decide +kernel
theorem dX1_strike_11 : decode cX1_strike 11 = .ok (.iload_n 2, 1) := by decide +kernel
theorem dX1_strike_12 : decode cX1_strike 12 = .ok (.iconst 0, 1) := by decide +kernel
theorem dX1_strike_13 : decode cX1_strike 13 = .ok (.iconst 1, 1) := by decide +kernel
theorem dX1_strike_14 : decode cX1_strike 14 = .ok (.invokevirtual 51, 3) := by decide +kernel
theorem dX1_strike_17 : decode cX1_strike 17 = .ok (.ifCond .ne 6, 3) := by decide +kernel
theorem dX1_strike_20 : decode cX1_strike 20 = .ok (.bipush (-2), 2) := by decide +kernel
theorem dX1_strike_22 : decode cX1_strike 22 = .ok (.ireturn, 1) := by decide +kernel
theorem dX1_strike_23 : decode cX1_strike 23 = .ok (.aload_n 0, 1) := by decide +kernel
theorem dX1_strike_24 : decode cX1_strike 24 = .ok (.getfield 29, 3) := by decide +kernel
theorem dX1_strike_27 : decode cX1_strike 27 = .ok (.iload_n 1, 1) := by decide +kernel
theorem dX1_strike_28 : decode cX1_strike 28 = .ok (.baload, 1) := by decide +kernel
theorem dX1_strike_29 : decode cX1_strike 29 = .ok (.ifCond .eq 7, 3) := by decide +kernel
theorem dX1_strike_32 : decode cX1_strike 32 = .ok (.iconst 1, 1) := by decide +kernel
theorem dX1_strike_33 : decode cX1_strike 33 = .ok (.goto 4, 3) := by decide +kernel
theorem dX1_strike_36 : decode cX1_strike 36 = .ok (.iconst 0, 1) := by decide +kernel
theorem dX1_strike_37 : decode cX1_strike 37 = .ok (.istore_n 3, 1) := by decide +kernel
theorem dX1_strike_38 : decode cX1_strike 38 = .ok (.aload_n 0, 1) := by decide +kernel
theorem dX1_strike_39 : decode cX1_strike 39 = .ok (.getfield 29, 3) := by decide +kernel
theorem dX1_strike_42 : decode cX1_strike 42 = .ok (.iload_n 1, 1) := by decide +kernel
theorem dX1_strike_43 : decode cX1_strike 43 = .ok (.iload_n 2, 1) := by decide +kernel
theorem dX1_strike_44 : decode cX1_strike 44 = .ok (.iconst 1, 1) := by decide +kernel
theorem dX1_strike_45 : decode cX1_strike 45 = .ok (.if_icmp .ne 7, 3) := by decide +kernel
theorem dX1_strike_48 : decode cX1_strike 48 = .ok (.iconst 1, 1) := by decide +kernel
theorem dX1_strike_49 : decode cX1_strike 49 = .ok (.goto 4, 3) := by decide +kernel
theorem dX1_strike_52 : decode cX1_strike 52 = .ok (.iconst 0, 1) := by decide +kernel
theorem dX1_strike_53 : decode cX1_strike 53 = .ok (.bastore, 1) := by decide +kernel
theorem dX1_strike_54 : decode cX1_strike 54 = .ok (.iload_n 3, 1) := by decide +kernel
theorem dX1_strike_55 : decode cX1_strike 55 = .ok (.ireturn, 1) := by decide +kernel
theorem dX1_paper_0 : decode cX1_paper 0 = .ok (.aload_n 0, 1) := by decide +kernel
theorem dX1_paper_1 : decode cX1_paper 1 = .ok (.getfield 13, 3) := by decide +kernel
theorem dX1_paper_4 : decode cX1_paper 4 = .ok (.bipush 8, 2) := by decide +kernel
theorem dX1_paper_6 : decode cX1_paper 6 = .ok (.if_icmp .ne 6, 3) := by decide +kernel
theorem dX1_paper_9 : decode cX1_paper 9 = .ok (.bipush (-4), 2) := by decide +kernel
theorem dX1_paper_11 : decode cX1_paper 11 = .ok (.ireturn, 1) := by decide +kernel
theorem dX1_paper_12 : decode cX1_paper 12 = .ok (.aload_n 0, 1) := by decide +kernel
theorem dX1_paper_13 : decode cX1_paper 13 = .ok (.getfield 36, 3) := by decide +kernel
theorem dX1_paper_16 : decode cX1_paper 16 = .ok (.aload_n 0, 1) := by decide +kernel
theorem dX1_paper_17 : decode cX1_paper 17 = .ok (.getfield 13, 3) := by decide +kernel
theorem dX1_paper_20 : decode cX1_paper 20 = .ok (.iconst 0, 1) := by decide +kernel
theorem dX1_paper_21 : decode cX1_paper 21 = .ok (.iastore, 1) := by decide +kernel
theorem dX1_paper_22 : decode cX1_paper 22 = .ok (.aload_n 0, 1) := by decide +kernel
theorem dX1_paper_23 : decode cX1_paper 23 = .ok (.dup, 1) := by decide +kernel
theorem dX1_paper_24 : decode cX1_paper 24 = .ok (.getfield 13, 3) := by decide +kernel
theorem dX1_paper_27 : decode cX1_paper 27 = .ok (.iconst 1, 1) := by decide +kernel
theorem dX1_paper_28 : decode cX1_paper 28 = .ok (.iadd, 1) := by decide +kernel
theorem dX1_paper_29 : decode cX1_paper 29 = .ok (.putfield 13, 3) := by decide +kernel
theorem dX1_paper_32 : decode cX1_paper 32 = .ok (.aload_n 0, 1) := by decide +kernel
theorem dX1_paper_33 : decode cX1_paper 33 = .ok (.getfield 13, 3) := by decide +kernel
theorem dX1_paper_36 : decode cX1_paper 36 = .ok (.iconst 1, 1) := by decide +kernel
theorem dX1_paper_37 : decode cX1_paper 37 = .ok (.isub, 1) := by decide +kernel
theorem dX1_paper_38 : decode cX1_paper 38 = .ok (.ireturn, 1) := by decide +kernel
theorem dX1_spot_0 : decode cX1_spot 0 = .ok (.iconst 0, 1) := by decide +kernel
theorem dX1_spot_1 : decode cX1_spot 1 = .ok (.istore_n 3, 1) := by decide +kernel
theorem dX1_spot_2 : decode cX1_spot 2 = .ok (.iload_n 3, 1) := by decide +kernel
theorem dX1_spot_3 : decode cX1_spot 3 = .ok (.aload_n 0, 1) := by decide +kernel
theorem dX1_spot_4 : decode cX1_spot 4 = .ok (.getfield 36, 3) := by decide +kernel
theorem dX1_spot_7 : decode cX1_spot 7 = .ok (.iload_n 1, 1) := by decide +kernel
theorem dX1_spot_8 : decode cX1_spot 8 = .ok (.iaload, 1) := by decide +kernel
theorem dX1_spot_9 : decode cX1_spot 9 = .ok (.if_icmp .ge 26, 3) := by decide +kernel
theorem dX1_spot_12 : decode cX1_spot 12 = .ok (.aload_n 0, 1) := by decide +kernel
theorem dX1_spot_13 : decode cX1_spot 13 = .ok (.getfield 33, 3) := by decide +kernel
theorem dX1_spot_16 : decode cX1_spot 16 = .ok (.bipush 12, 2) := by decide +kernel
theorem dX1_spot_18 : decode cX1_spot 18 = .ok (.iload_n 1, 1) := by decide +kernel
theorem dX1_spot_19 : decode cX1_spot 19 = .ok (.imul, 1) := by decide +kernel
theorem dX1_spot_20 : decode cX1_spot 20 = .ok (.iload_n 3, 1) := by decide +kernel
theorem dX1_spot_21 : decode cX1_spot 21 = .ok (.iadd, 1) := by decide +kernel
theorem dX1_spot_22 : decode cX1_spot 22 = .ok (.iaload, 1) := by decide +kernel
theorem dX1_spot_23 : decode cX1_spot 23 = .ok (.iload_n 2, 1) := by decide +kernel
theorem dX1_spot_24 : decode cX1_spot 24 = .ok (.if_icmp .ne 5, 3) := by decide +kernel
theorem dX1_spot_27 : decode cX1_spot 27 = .ok (.iload_n 3, 1) := by decide +kernel
theorem dX1_spot_28 : decode cX1_spot 28 = .ok (.ireturn, 1) := by decide +kernel
theorem dX1_spot_29 : decode cX1_spot 29 = .ok (.iinc 3 1, 3) := by decide +kernel
theorem dX1_spot_32 : decode cX1_spot 32 = .ok (.goto (-30), 3) := by decide +kernel
theorem dX1_spot_35 : decode cX1_spot 35 = .ok (.iconst (-1), 1) := by decide +kernel
theorem dX1_spot_36 : decode cX1_spot 36 = .ok (.ireturn, 1) := by decide +kernel
theorem dX1_groupSize_0 : decode cX1_groupSize 0 = .ok (.iconst 0, 1) := by decide +kernel
theorem dX1_groupSize_1 : decode cX1_groupSize 1 = .ok (.istore_n 2, 1) := by decide +kernel
theorem dX1_groupSize_2 : decode cX1_groupSize 2 = .ok (.iconst 0, 1) := by decide +kernel
theorem dX1_groupSize_3 : decode cX1_groupSize 3 = .ok (.istore_n 3, 1) := by decide +kernel
theorem dX1_groupSize_4 : decode cX1_groupSize 4 = .ok (.iload_n 3, 1) := by decide +kernel
theorem dX1_groupSize_5 : decode cX1_groupSize 5 = .ok (.aload_n 0, 1) := by decide +kernel
theorem dX1_groupSize_6 : decode cX1_groupSize 6 = .ok (.getfield 16, 3) := by decide +kernel
theorem dX1_groupSize_9 : decode cX1_groupSize 9 = .ok (.if_icmp .ge 27, 3) := by decide +kernel
theorem dX1_groupSize_12 : decode cX1_groupSize 12 = .ok (.iload_n 2, 1) := by decide +kernel
theorem dX1_groupSize_13 : decode cX1_groupSize 13 = .ok (.aload_n 0, 1) := by decide +kernel
theorem dX1_groupSize_14 : decode cX1_groupSize 14 = .ok (.getfield 39, 3) := by decide +kernel
theorem dX1_groupSize_17 : decode cX1_groupSize 17 = .ok (.iload_n 3, 1) := by decide +kernel
theorem dX1_groupSize_18 : decode cX1_groupSize 18 = .ok (.iaload, 1) := by decide +kernel
theorem dX1_groupSize_19 : decode cX1_groupSize 19 = .ok (.iload_n 1, 1) := by decide +kernel
theorem dX1_groupSize_20 : decode cX1_groupSize 20 = .ok (.if_icmp .ne 7, 3) := by decide +kernel
theorem dX1_groupSize_23 : decode cX1_groupSize 23 = .ok (.iconst 1, 1) := by decide +kernel
theorem dX1_groupSize_24 : decode cX1_groupSize 24 = .ok (.goto 4, 3) := by decide +kernel
theorem dX1_groupSize_27 : decode cX1_groupSize 27 = .ok (.iconst 0, 1) := by decide +kernel
theorem dX1_groupSize_28 : decode cX1_groupSize 28 = .ok (.iadd, 1) := by decide +kernel
theorem dX1_groupSize_29 : decode cX1_groupSize 29 = .ok (.istore_n 2, 1) := by decide +kernel
theorem dX1_groupSize_30 : decode cX1_groupSize 30 = .ok (.iinc 3 1, 3) := by decide +kernel
theorem dX1_groupSize_33 : decode cX1_groupSize 33 = .ok (.goto (-29), 3) := by decide +kernel
theorem dX1_groupSize_36 : decode cX1_groupSize 36 = .ok (.iload_n 2, 1) := by decide +kernel
theorem dX1_groupSize_37 : decode cX1_groupSize 37 = .ok (.ireturn, 1) := by decide +kernel
theorem dX1_put_0 : decode cX1_put 0 = .ok (.aload_n 0, 1) := by decide +kernel
theorem dX1_put_1 : decode cX1_put 1 = .ok (.iload_n 1, 1) := by decide +kernel
theorem dX1_put_2 : decode cX1_put 2 = .ok (.invokevirtual 63, 3) := by decide +kernel
theorem dX1_put_5 : decode cX1_put 5 = .ok (.ifCond .eq 11, 3) := by decide +kernel
theorem dX1_put_8 : decode cX1_put 8 = .ok (.aload_n 0, 1) := by decide +kernel
theorem dX1_put_9 : decode cX1_put 9 = .ok (.iload_n 2, 1) := by decide +kernel
theorem dX1_put_10 : decode cX1_put 10 = .ok (.invokevirtual 59, 3) := by decide +kernel
theorem dX1_put_13 : decode cX1_put 13 = .ok (.ifCond .ne 5, 3) := by decide +kernel
theorem dX1_put_16 : decode cX1_put 16 = .ok (.iconst (-1), 1) := by decide +kernel
theorem dX1_put_17 : decode cX1_put 17 = .ok (.ireturn, 1) := by decide +kernel
theorem dX1_put_18 : decode cX1_put 18 = .ok (.aload_n 0, 1) := by decide +kernel
theorem dX1_put_19 : decode cX1_put 19 = .ok (.iload_n 1, 1) := by decide +kernel
theorem dX1_put_20 : decode cX1_put 20 = .ok (.iload_n 2, 1) := by decide +kernel
theorem dX1_put_21 : decode cX1_put 21 = .ok (.invokevirtual 66, 3) := by decide +kernel
theorem dX1_put_24 : decode cX1_put 24 = .ok (.ifCond .ge 11, 3) := by decide +kernel
theorem dX1_put_27 : decode cX1_put 27 = .ok (.aload_n 0, 1) := by decide +kernel
theorem dX1_put_28 : decode cX1_put 28 = .ok (.iload_n 1, 1) := by decide +kernel
theorem dX1_put_29 : decode cX1_put 29 = .ok (.invokevirtual 70, 3) := by decide +kernel
theorem dX1_put_32 : decode cX1_put 32 = .ok (.ifCond .le 6, 3) := by decide +kernel
theorem dX1_put_35 : decode cX1_put 35 = .ok (.bipush (-3), 2) := by decide +kernel
theorem dX1_put_37 : decode cX1_put 37 = .ok (.ireturn, 1) := by decide +kernel
theorem dX1_put_38 : decode cX1_put 38 = .ok (.aload_n 0, 1) := by decide +kernel
theorem dX1_put_39 : decode cX1_put 39 = .ok (.getfield 36, 3) := by decide +kernel
theorem dX1_put_42 : decode cX1_put 42 = .ok (.iload_n 1, 1) := by decide +kernel
theorem dX1_put_43 : decode cX1_put 43 = .ok (.iaload, 1) := by decide +kernel
theorem dX1_put_44 : decode cX1_put 44 = .ok (.bipush 12, 2) := by decide +kernel
theorem dX1_put_46 : decode cX1_put 46 = .ok (.if_icmp .ne 6, 3) := by decide +kernel
theorem dX1_put_49 : decode cX1_put 49 = .ok (.bipush (-4), 2) := by decide +kernel
theorem dX1_put_51 : decode cX1_put 51 = .ok (.ireturn, 1) := by decide +kernel
theorem dX1_put_52 : decode cX1_put 52 = .ok (.aload_n 0, 1) := by decide +kernel
theorem dX1_put_53 : decode cX1_put 53 = .ok (.getfield 33, 3) := by decide +kernel
theorem dX1_put_56 : decode cX1_put 56 = .ok (.bipush 12, 2) := by decide +kernel
theorem dX1_put_58 : decode cX1_put 58 = .ok (.iload_n 1, 1) := by decide +kernel
theorem dX1_put_59 : decode cX1_put 59 = .ok (.imul, 1) := by decide +kernel
theorem dX1_put_60 : decode cX1_put 60 = .ok (.aload_n 0, 1) := by decide +kernel
theorem dX1_put_61 : decode cX1_put 61 = .ok (.getfield 36, 3) := by decide +kernel
theorem dX1_put_64 : decode cX1_put 64 = .ok (.iload_n 1, 1) := by decide +kernel
theorem dX1_put_65 : decode cX1_put 65 = .ok (.iaload, 1) := by decide +kernel
theorem dX1_put_66 : decode cX1_put 66 = .ok (.iadd, 1) := by decide +kernel
theorem dX1_put_67 : decode cX1_put 67 = .ok (.iload_n 2, 1) := by decide +kernel
theorem dX1_put_68 : decode cX1_put 68 = .ok (.iastore, 1) := by decide +kernel
theorem dX1_put_69 : decode cX1_put 69 = .ok (.iconst 0, 1) := by decide +kernel
theorem dX1_put_70 : decode cX1_put 70 = .ok (.istore_n 3, 1) := by decide +kernel
theorem dX1_put_71 : decode cX1_put 71 = .ok (.iload_n 3, 1) := by decide +kernel
theorem dX1_put_72 : decode cX1_put 72 = .ok (.bipush 8, 2) := by decide +kernel
theorem dX1_put_74 : decode cX1_put 74 = .ok (.if_icmp .ge 31, 3) := by decide +kernel
theorem dX1_put_77 : decode cX1_put 77 = .ok (.aload_n 0, 1) := by decide +kernel
theorem dX1_put_78 : decode cX1_put 78 = .ok (.getfield 48, 3) := by decide +kernel
theorem dX1_put_81 : decode cX1_put 81 = .ok (.bipush 96, 2) := by decide +kernel
theorem dX1_put_83 : decode cX1_put 83 = .ok (.iload_n 3, 1) := by decide +kernel
theorem dX1_put_84 : decode cX1_put 84 = .ok (.imul, 1) := by decide +kernel
theorem dX1_put_85 : decode cX1_put 85 = .ok (.bipush 12, 2) := by decide +kernel
theorem dX1_put_87 : decode cX1_put 87 = .ok (.iload_n 1, 1) := by decide +kernel
theorem dX1_put_88 : decode cX1_put 88 = .ok (.imul, 1) := by decide +kernel
theorem dX1_put_89 : decode cX1_put 89 = .ok (.iadd, 1) := by decide +kernel
theorem dX1_put_90 : decode cX1_put 90 = .ok (.aload_n 0, 1) := by decide +kernel
theorem dX1_put_91 : decode cX1_put 91 = .ok (.getfield 36, 3) := by decide +kernel
theorem dX1_put_94 : decode cX1_put 94 = .ok (.iload_n 1, 1) := by decide +kernel
theorem dX1_put_95 : decode cX1_put 95 = .ok (.iaload, 1) := by decide +kernel
theorem dX1_put_96 : decode cX1_put 96 = .ok (.iadd, 1) := by decide +kernel
theorem dX1_put_97 : decode cX1_put 97 = .ok (.iconst (-1), 1) := by decide +kernel
theorem dX1_put_98 : decode cX1_put 98 = .ok (.iastore, 1) := by decide +kernel
theorem dX1_put_99 : decode cX1_put 99 = .ok (.iinc 3 1, 3) := by decide +kernel
theorem dX1_put_102 : decode cX1_put 102 = .ok (.goto (-31), 3) := by decide +kernel
theorem dX1_put_105 : decode cX1_put 105 = .ok (.aload_n 0, 1) := by decide +kernel
theorem dX1_put_106 : decode cX1_put 106 = .ok (.getfield 36, 3) := by decide +kernel
theorem dX1_put_109 : decode cX1_put 109 = .ok (.iload_n 1, 1) := by decide +kernel
theorem dX1_put_110 : decode cX1_put 110 = .ok (.dup2, 1) := by decide +kernel
theorem dX1_put_111 : decode cX1_put 111 = .ok (.iaload, 1) := by decide +kernel
theorem dX1_put_112 : decode cX1_put 112 = .ok (.iconst 1, 1) := by decide +kernel
theorem dX1_put_113 : decode cX1_put 113 = .ok (.iadd, 1) := by decide +kernel
theorem dX1_put_114 : decode cX1_put 114 = .ok (.iastore, 1) := by decide +kernel
theorem dX1_put_115 : decode cX1_put 115 = .ok (.aload_n 0, 1) := by decide +kernel
theorem dX1_put_116 : decode cX1_put 116 = .ok (.getfield 36, 3) := by decide +kernel
theorem dX1_put_119 : decode cX1_put 119 = .ok (.iload_n 1, 1) := by decide +kernel
theorem dX1_put_120 : decode cX1_put 120 = .ok (.iaload, 1) := by decide +kernel
theorem dX1_put_121 : decode cX1_put 121 = .ok (.iconst 1, 1) := by decide +kernel
theorem dX1_put_122 : decode cX1_put 122 = .ok (.isub, 1) := by decide +kernel
theorem dX1_put_123 : decode cX1_put 123 = .ok (.ireturn, 1) := by decide +kernel
theorem dX1_at_0 : decode cX1_at 0 = .ok (.aload_n 0, 1) := by decide +kernel
theorem dX1_at_1 : decode cX1_at 1 = .ok (.iload_n 1, 1) := by decide +kernel
theorem dX1_at_2 : decode cX1_at 2 = .ok (.invokevirtual 63, 3) := by decide +kernel
theorem dX1_at_5 : decode cX1_at 5 = .ok (.ifCond .eq 34, 3) := by decide +kernel
theorem dX1_at_8 : decode cX1_at 8 = .ok (.aload_n 0, 1) := by decide +kernel
theorem dX1_at_9 : decode cX1_at 9 = .ok (.iload_n 2, 1) := by decide +kernel
theorem dX1_at_10 : decode cX1_at 10 = .ok (.iconst 0, 1) := by decide +kernel
theorem dX1_at_11 : decode cX1_at 11 = .ok (.aload_n 0, 1) := by decide +kernel
theorem dX1_at_12 : decode cX1_at 12 = .ok (.getfield 36, 3) := by decide +kernel
theorem dX1_at_15 : decode cX1_at 15 = .ok (.iload_n 1, 1) := by decide +kernel
theorem dX1_at_16 : decode cX1_at 16 = .ok (.iaload, 1) := by decide +kernel
theorem dX1_at_17 : decode cX1_at 17 = .ok (.iconst 1, 1) := by decide +kernel
theorem dX1_at_18 : decode cX1_at 18 = .ok (.isub, 1) := by decide +kernel
theorem dX1_at_19 : decode cX1_at 19 = .ok (.invokevirtual 51, 3) := by decide +kernel
theorem dX1_at_22 : decode cX1_at 22 = .ok (.ifCond .eq 17, 3) := by decide +kernel
theorem dX1_at_25 : decode cX1_at 25 = .ok (.aload_n 0, 1) := by decide +kernel
theorem dX1_at_26 : decode cX1_at 26 = .ok (.getfield 33, 3) := by decide +kernel
theorem dX1_at_29 : decode cX1_at 29 = .ok (.bipush 12, 2) := by decide +kernel
theorem dX1_at_31 : decode cX1_at 31 = .ok (.iload_n 1, 1) := by decide +kernel
theorem dX1_at_32 : decode cX1_at 32 = .ok (.imul, 1) := by decide +kernel
theorem dX1_at_33 : decode cX1_at 33 = .ok (.iload_n 2, 1) := by decide +kernel
theorem dX1_at_34 : decode cX1_at 34 = .ok (.iadd, 1) := by decide +kernel
theorem dX1_at_35 : decode cX1_at 35 = .ok (.iaload, 1) := by decide +kernel
theorem dX1_at_36 : decode cX1_at 36 = .ok (.goto 4, 3) := by decide +kernel
theorem dX1_at_39 : decode cX1_at 39 = .ok (.iconst (-1), 1) := by decide +kernel
theorem dX1_at_40 : decode cX1_at 40 = .ok (.ireturn, 1) := by decide +kernel
theorem dX1_pupil_0 : decode cX1_pupil 0 = .ok (.aload_n 0, 1) := by decide +kernel
theorem dX1_pupil_1 : decode cX1_pupil 1 = .ok (.iload_n 1, 1) := by decide +kernel
theorem dX1_pupil_2 : decode cX1_pupil 2 = .ok (.invokevirtual 63, 3) := by decide +kernel
theorem dX1_pupil_5 : decode cX1_pupil 5 = .ok (.ifCond .eq 13, 3) := by decide +kernel
theorem dX1_pupil_8 : decode cX1_pupil 8 = .ok (.aload_n 0, 1) := by decide +kernel
theorem dX1_pupil_9 : decode cX1_pupil 9 = .ok (.iload_n 2, 1) := by decide +kernel
theorem dX1_pupil_10 : decode cX1_pupil 10 = .ok (.iconst 0, 1) := by decide +kernel
theorem dX1_pupil_11 : decode cX1_pupil 11 = .ok (.iconst 3, 1) := by decide +kernel
theorem dX1_pupil_12 : decode cX1_pupil 12 = .ok (.invokevirtual 51, 3) := by decide +kernel
theorem dX1_pupil_15 : decode cX1_pupil 15 = .ok (.ifCond .ne 5, 3) := by decide +kernel
theorem dX1_pupil_18 : decode cX1_pupil 18 = .ok (.iconst (-1), 1) := by decide +kernel
theorem dX1_pupil_19 : decode cX1_pupil 19 = .ok (.ireturn, 1) := by decide +kernel
theorem dX1_pupil_20 : decode cX1_pupil 20 = .ok (.aload_n 0, 1) := by decide +kernel
theorem dX1_pupil_21 : decode cX1_pupil 21 = .ok (.getfield 16, 3) := by decide +kernel
theorem dX1_pupil_24 : decode cX1_pupil 24 = .ok (.bipush 60, 2) := by decide +kernel
theorem dX1_pupil_26 : decode cX1_pupil 26 = .ok (.if_icmp .ne 6, 3) := by decide +kernel
theorem dX1_pupil_29 : decode cX1_pupil 29 = .ok (.bipush (-4), 2) := by decide +kernel
theorem dX1_pupil_31 : decode cX1_pupil 31 = .ok (.ireturn, 1) := by decide +kernel
theorem dX1_pupil_32 : decode cX1_pupil 32 = .ok (.aload_n 0, 1) := by decide +kernel
theorem dX1_pupil_33 : decode cX1_pupil 33 = .ok (.getfield 39, 3) := by decide +kernel
theorem dX1_pupil_36 : decode cX1_pupil 36 = .ok (.aload_n 0, 1) := by decide +kernel
theorem dX1_pupil_37 : decode cX1_pupil 37 = .ok (.getfield 16, 3) := by decide +kernel
theorem dX1_pupil_40 : decode cX1_pupil 40 = .ok (.iload_n 1, 1) := by decide +kernel
theorem dX1_pupil_41 : decode cX1_pupil 41 = .ok (.iastore, 1) := by decide +kernel
theorem dX1_pupil_42 : decode cX1_pupil 42 = .ok (.aload_n 0, 1) := by decide +kernel
theorem dX1_pupil_43 : decode cX1_pupil 43 = .ok (.getfield 42, 3) := by decide +kernel
theorem dX1_pupil_46 : decode cX1_pupil 46 = .ok (.aload_n 0, 1) := by decide +kernel
theorem dX1_pupil_47 : decode cX1_pupil 47 = .ok (.getfield 16, 3) := by decide +kernel
theorem dX1_pupil_50 : decode cX1_pupil 50 = .ok (.iload_n 2, 1) := by decide +kernel
theorem dX1_pupil_51 : decode cX1_pupil 51 = .ok (.iastore, 1) := by decide +kernel
theorem dX1_pupil_52 : decode cX1_pupil 52 = .ok (.iconst 0, 1) := by decide +kernel
theorem dX1_pupil_53 : decode cX1_pupil 53 = .ok (.istore_n 3, 1) := by decide +kernel
theorem dX1_pupil_54 : decode cX1_pupil 54 = .ok (.iload_n 3, 1) := by decide +kernel
theorem dX1_pupil_55 : decode cX1_pupil 55 = .ok (.bipush 12, 2) := by decide +kernel
theorem dX1_pupil_57 : decode cX1_pupil 57 = .ok (.if_icmp .ge 24, 3) := by decide +kernel
theorem dX1_pupil_60 : decode cX1_pupil 60 = .ok (.aload_n 0, 1) := by decide +kernel
theorem dX1_pupil_61 : decode cX1_pupil 61 = .ok (.getfield 45, 3) := by decide +kernel
theorem dX1_pupil_64 : decode cX1_pupil 64 = .ok (.bipush 12, 2) := by decide +kernel
theorem dX1_pupil_66 : decode cX1_pupil 66 = .ok (.aload_n 0, 1) := by decide +kernel
theorem dX1_pupil_67 : decode cX1_pupil 67 = .ok (.getfield 16, 3) := by decide +kernel
theorem dX1_pupil_70 : decode cX1_pupil 70 = .ok (.imul, 1) := by decide +kernel
theorem dX1_pupil_71 : decode cX1_pupil 71 = .ok (.iload_n 3, 1) := by decide +kernel
theorem dX1_pupil_72 : decode cX1_pupil 72 = .ok (.iadd, 1) := by decide +kernel
theorem dX1_pupil_73 : decode cX1_pupil 73 = .ok (.iconst (-1), 1) := by decide +kernel
theorem dX1_pupil_74 : decode cX1_pupil 74 = .ok (.iastore, 1) := by decide +kernel
theorem dX1_pupil_75 : decode cX1_pupil 75 = .ok (.iinc 3 1, 3) := by decide +kernel
theorem dX1_pupil_78 : decode cX1_pupil 78 = .ok (.goto (-24), 3) := by decide +kernel
theorem dX1_pupil_81 : decode cX1_pupil 81 = .ok (.aload_n 0, 1) := by decide +kernel
theorem dX1_pupil_82 : decode cX1_pupil 82 = .ok (.dup, 1) := by decide +kernel
theorem dX1_pupil_83 : decode cX1_pupil 83 = .ok (.getfield 16, 3) := by decide +kernel
theorem dX1_pupil_86 : decode cX1_pupil 86 = .ok (.iconst 1, 1) := by decide +kernel
theorem dX1_pupil_87 : decode cX1_pupil 87 = .ok (.iadd, 1) := by decide +kernel
theorem dX1_pupil_88 : decode cX1_pupil 88 = .ok (.putfield 16, 3) := by decide +kernel
theorem dX1_pupil_91 : decode cX1_pupil 91 = .ok (.aload_n 0, 1) := by decide +kernel
theorem dX1_pupil_92 : decode cX1_pupil 92 = .ok (.getfield 16, 3) := by decide +kernel
theorem dX1_pupil_95 : decode cX1_pupil 95 = .ok (.iconst 1, 1) := by decide +kernel
theorem dX1_pupil_96 : decode cX1_pupil 96 = .ok (.isub, 1) := by decide +kernel
theorem dX1_pupil_97 : decode cX1_pupil 97 = .ok (.ireturn, 1) := by decide +kernel
theorem dX1_isAnswer_0 : decode cX1_isAnswer 0 = .ok (.aload_n 0, 1) := by decide +kernel
theorem dX1_isAnswer_1 : decode cX1_isAnswer 1 = .ok (.getfield 19, 3) := by decide +kernel
theorem dX1_isAnswer_4 : decode cX1_isAnswer 4 = .ok (.iload_n 1, 1) := by decide +kernel
theorem dX1_isAnswer_5 : decode cX1_isAnswer 5 = .ok (.iaload, 1) := by decide +kernel
theorem dX1_isAnswer_6 : decode cX1_isAnswer 6 = .ok (.iconst 1, 1) := by decide +kernel
theorem dX1_isAnswer_7 : decode cX1_isAnswer 7 = .ok (.if_icmp .ne 8, 3) := by decide +kernel
theorem dX1_isAnswer_10 : decode cX1_isAnswer 10 = .ok (.bipush 7, 2) := by decide +kernel
theorem dX1_isAnswer_12 : decode cX1_isAnswer 12 = .ok (.goto 32, 3) := by decide +kernel
theorem dX1_isAnswer_15 : decode cX1_isAnswer 15 = .ok (.aload_n 0, 1) := by decide +kernel
theorem dX1_isAnswer_16 : decode cX1_isAnswer 16 = .ok (.getfield 19, 3) := by decide +kernel
theorem dX1_isAnswer_19 : decode cX1_isAnswer 19 = .ok (.iload_n 1, 1) := by decide +kernel
theorem dX1_isAnswer_20 : decode cX1_isAnswer 20 = .ok (.iaload, 1) := by decide +kernel
theorem dX1_isAnswer_21 : decode cX1_isAnswer 21 = .ok (.iconst 2, 1) := by decide +kernel
theorem dX1_isAnswer_22 : decode cX1_isAnswer 22 = .ok (.if_icmp .ne 16, 3) := by decide +kernel
theorem dX1_isAnswer_25 : decode cX1_isAnswer 25 = .ok (.iconst 1, 1) := by decide +kernel
theorem dX1_isAnswer_26 : decode cX1_isAnswer 26 = .ok (.aload_n 0, 1) := by decide +kernel
theorem dX1_isAnswer_27 : decode cX1_isAnswer 27 = .ok (.getfield 23, 3) := by decide +kernel
theorem dX1_isAnswer_30 : decode cX1_isAnswer 30 = .ok (.iload_n 1, 1) := by decide +kernel
theorem dX1_isAnswer_31 : decode cX1_isAnswer 31 = .ok (.iaload, 1) := by decide +kernel
theorem dX1_isAnswer_32 : decode cX1_isAnswer 32 = .ok (.ishl, 1) := by decide +kernel
theorem dX1_isAnswer_33 : decode cX1_isAnswer 33 = .ok (.iconst 1, 1) := by decide +kernel
theorem dX1_isAnswer_34 : decode cX1_isAnswer 34 = .ok (.isub, 1) := by decide +kernel
theorem dX1_isAnswer_35 : decode cX1_isAnswer 35 = .ok (.goto 9, 3) := by decide +kernel
theorem dX1_isAnswer_38 : decode cX1_isAnswer 38 = .ok (.aload_n 0, 1) := by decide +kernel
theorem dX1_isAnswer_39 : decode cX1_isAnswer 39 = .ok (.getfield 23, 3) := by decide +kernel
theorem dX1_isAnswer_42 : decode cX1_isAnswer 42 = .ok (.iload_n 1, 1) := by decide +kernel
theorem dX1_isAnswer_43 : decode cX1_isAnswer 43 = .ok (.iaload, 1) := by decide +kernel
theorem dX1_isAnswer_44 : decode cX1_isAnswer 44 = .ok (.istore_n 3, 1) := by decide +kernel
theorem dX1_isAnswer_45 : decode cX1_isAnswer 45 = .ok (.aload_n 0, 1) := by decide +kernel
theorem dX1_isAnswer_46 : decode cX1_isAnswer 46 = .ok (.iload_n 2, 1) := by decide +kernel
theorem dX1_isAnswer_47 : decode cX1_isAnswer 47 = .ok (.iconst 0, 1) := by decide +kernel
theorem dX1_isAnswer_48 : decode cX1_isAnswer 48 = .ok (.iload_n 3, 1) := by decide +kernel
theorem dX1_isAnswer_49 : decode cX1_isAnswer 49 = .ok (.invokevirtual 51, 3) := by decide +kernel
theorem dX1_isAnswer_52 : decode cX1_isAnswer 52 = .ok (.ireturn, 1) := by decide +kernel
theorem dX1_worth_0 : decode cX1_worth 0 = .ok (.iload_n 2, 1) := by decide +kernel
theorem dX1_worth_1 : decode cX1_worth 1 = .ok (.ifCond .ge 5, 3) := by decide +kernel
theorem dX1_worth_4 : decode cX1_worth 4 = .ok (.iconst 0, 1) := by decide +kernel
theorem dX1_worth_5 : decode cX1_worth 5 = .ok (.ireturn, 1) := by decide +kernel
theorem dX1_worth_6 : decode cX1_worth 6 = .ok (.aload_n 0, 1) := by decide +kernel
theorem dX1_worth_7 : decode cX1_worth 7 = .ok (.getfield 19, 3) := by decide +kernel
theorem dX1_worth_10 : decode cX1_worth 10 = .ok (.iload_n 1, 1) := by decide +kernel
theorem dX1_worth_11 : decode cX1_worth 11 = .ok (.iaload, 1) := by decide +kernel
theorem dX1_worth_12 : decode cX1_worth 12 = .ok (.iconst 1, 1) := by decide +kernel
theorem dX1_worth_13 : decode cX1_worth 13 = .ok (.if_icmp .ne 28, 3) := by decide +kernel
theorem dX1_worth_16 : decode cX1_worth 16 = .ok (.aload_n 0, 1) := by decide +kernel
theorem dX1_worth_17 : decode cX1_worth 17 = .ok (.getfield 26, 3) := by decide +kernel
theorem dX1_worth_20 : decode cX1_worth 20 = .ok (.iload_n 1, 1) := by decide +kernel
theorem dX1_worth_21 : decode cX1_worth 21 = .ok (.iaload, 1) := by decide +kernel
theorem dX1_worth_22 : decode cX1_worth 22 = .ok (.iload_n 2, 1) := by decide +kernel
theorem dX1_worth_23 : decode cX1_worth 23 = .ok (.ishr, 1) := by decide +kernel
theorem dX1_worth_24 : decode cX1_worth 24 = .ok (.iconst 1, 1) := by decide +kernel
theorem dX1_worth_25 : decode cX1_worth 25 = .ok (.iand, 1) := by decide +kernel
theorem dX1_worth_26 : decode cX1_worth 26 = .ok (.iconst 1, 1) := by decide +kernel
theorem dX1_worth_27 : decode cX1_worth 27 = .ok (.if_icmp .ne 12, 3) := by decide +kernel
theorem dX1_worth_30 : decode cX1_worth 30 = .ok (.aload_n 0, 1) := by decide +kernel
theorem dX1_worth_31 : decode cX1_worth 31 = .ok (.getfield 23, 3) := by decide +kernel
theorem dX1_worth_34 : decode cX1_worth 34 = .ok (.iload_n 1, 1) := by decide +kernel
theorem dX1_worth_35 : decode cX1_worth 35 = .ok (.iaload, 1) := by decide +kernel
theorem dX1_worth_36 : decode cX1_worth 36 = .ok (.goto 4, 3) := by decide +kernel
theorem dX1_worth_39 : decode cX1_worth 39 = .ok (.iconst 0, 1) := by decide +kernel
theorem dX1_worth_40 : decode cX1_worth 40 = .ok (.ireturn, 1) := by decide +kernel
theorem dX1_worth_41 : decode cX1_worth 41 = .ok (.aload_n 0, 1) := by decide +kernel
theorem dX1_worth_42 : decode cX1_worth 42 = .ok (.getfield 19, 3) := by decide +kernel
theorem dX1_worth_45 : decode cX1_worth 45 = .ok (.iload_n 1, 1) := by decide +kernel
theorem dX1_worth_46 : decode cX1_worth 46 = .ok (.iaload, 1) := by decide +kernel
theorem dX1_worth_47 : decode cX1_worth 47 = .ok (.iconst 2, 1) := by decide +kernel
theorem dX1_worth_48 : decode cX1_worth 48 = .ok (.if_icmp .eq 5, 3) := by decide +kernel
theorem dX1_worth_51 : decode cX1_worth 51 = .ok (.iload_n 2, 1) := by decide +kernel
theorem dX1_worth_52 : decode cX1_worth 52 = .ok (.ireturn, 1) := by decide +kernel
theorem dX1_worth_53 : decode cX1_worth 53 = .ok (.iconst 0, 1) := by decide +kernel
theorem dX1_worth_54 : decode cX1_worth 54 = .ok (.istore_n 3, 1) := by decide +kernel
theorem dX1_worth_55 : decode cX1_worth 55 = .ok (.iload_n 3, 1) := by decide +kernel
theorem dX1_worth_56 : decode cX1_worth 56 = .ok (.aload_n 0, 1) := by decide +kernel
theorem dX1_worth_57 : decode cX1_worth 57 = .ok (.getfield 23, 3) := by decide +kernel
theorem dX1_worth_60 : decode cX1_worth 60 = .ok (.iload_n 1, 1) := by decide +kernel
theorem dX1_worth_61 : decode cX1_worth 61 = .ok (.iaload, 1) := by decide +kernel
theorem dX1_worth_62 : decode cX1_worth 62 = .ok (.if_icmp .ge 18, 3) := by decide +kernel
theorem dX1_worth_65 : decode cX1_worth 65 = .ok (.iload_n 2, 1) := by decide +kernel
theorem dX1_worth_66 : decode cX1_worth 66 = .ok (.iload_n 3, 1) := by decide +kernel
theorem dX1_worth_67 : decode cX1_worth 67 = .ok (.ishr, 1) := by decide +kernel
theorem dX1_worth_68 : decode cX1_worth 68 = .ok (.iconst 1, 1) := by decide +kernel
theorem dX1_worth_69 : decode cX1_worth 69 = .ok (.iand, 1) := by decide +kernel
theorem dX1_worth_70 : decode cX1_worth 70 = .ok (.iconst 1, 1) := by decide +kernel
theorem dX1_worth_71 : decode cX1_worth 71 = .ok (.if_icmp .ne 9, 3) := by decide +kernel
theorem dX1_worth_74 : decode cX1_worth 74 = .ok (.iinc 3 1, 3) := by decide +kernel
theorem dX1_worth_77 : decode cX1_worth 77 = .ok (.goto (-22), 3) := by decide +kernel
theorem dX1_worth_80 : decode cX1_worth 80 = .ok (.iload_n 3, 1) := by decide +kernel
theorem dX1_worth_81 : decode cX1_worth 81 = .ok (.ireturn, 1) := by decide +kernel
theorem dX1_own_0 : decode cX1_own 0 = .ok (.aload_n 0, 1) := by decide +kernel
theorem dX1_own_1 : decode cX1_own 1 = .ok (.iload_n 1, 1) := by decide +kernel
theorem dX1_own_2 : decode cX1_own 2 = .ok (.invokevirtual 74, 3) := by decide +kernel
theorem dX1_own_5 : decode cX1_own 5 = .ok (.ifCond .eq 25, 3) := by decide +kernel
theorem dX1_own_8 : decode cX1_own 8 = .ok (.aload_n 0, 1) := by decide +kernel
theorem dX1_own_9 : decode cX1_own 9 = .ok (.iload_n 2, 1) := by decide +kernel
theorem dX1_own_10 : decode cX1_own 10 = .ok (.invokevirtual 59, 3) := by decide +kernel
theorem dX1_own_13 : decode cX1_own 13 = .ok (.ifCond .eq 17, 3) := by decide +kernel
theorem dX1_own_16 : decode cX1_own 16 = .ok (.aload_n 0, 1) := by decide +kernel
theorem dX1_own_17 : decode cX1_own 17 = .ok (.aload_n 0, 1) := by decide +kernel
theorem dX1_own_18 : decode cX1_own 18 = .ok (.getfield 39, 3) := by decide +kernel
theorem dX1_own_21 : decode cX1_own 21 = .ok (.iload_n 1, 1) := by decide +kernel
theorem dX1_own_22 : decode cX1_own 22 = .ok (.iaload, 1) := by decide +kernel
theorem dX1_own_23 : decode cX1_own 23 = .ok (.iload_n 2, 1) := by decide +kernel
theorem dX1_own_24 : decode cX1_own 24 = .ok (.invokevirtual 66, 3) := by decide +kernel
theorem dX1_own_27 : decode cX1_own 27 = .ok (.goto 4, 3) := by decide +kernel
theorem dX1_own_30 : decode cX1_own 30 = .ok (.iconst (-1), 1) := by decide +kernel
theorem dX1_own_31 : decode cX1_own 31 = .ok (.ireturn, 1) := by decide +kernel
theorem dX1_answer_0 : decode cX1_answer 0 = .ok (.aload_n 0, 1) := by decide +kernel
theorem dX1_answer_1 : decode cX1_answer 1 = .ok (.iload_n 1, 1) := by decide +kernel
theorem dX1_answer_2 : decode cX1_answer 2 = .ok (.iload_n 2, 1) := by decide +kernel
theorem dX1_answer_3 : decode cX1_answer 3 = .ok (.invokevirtual 77, 3) := by decide +kernel
theorem dX1_answer_6 : decode cX1_answer 6 = .ok (.istore 4, 2) := by decide +kernel
theorem dX1_answer_8 : decode cX1_answer 8 = .ok (.iload 4, 2) := by decide +kernel
theorem dX1_answer_10 : decode cX1_answer 10 = .ok (.ifCond .ge 5, 3) := by decide +kernel
theorem dX1_answer_13 : decode cX1_answer 13 = .ok (.iconst (-1), 1) := by decide +kernel
theorem dX1_answer_14 : decode cX1_answer 14 = .ok (.ireturn, 1) := by decide +kernel
theorem dX1_answer_15 : decode cX1_answer 15 = .ok (.aload_n 0, 1) := by decide +kernel
theorem dX1_answer_16 : decode cX1_answer 16 = .ok (.iload_n 2, 1) := by decide +kernel
theorem dX1_answer_17 : decode cX1_answer 17 = .ok (.iload_n 3, 1) := by decide +kernel
theorem dX1_answer_18 : decode cX1_answer 18 = .ok (.invokevirtual 80, 3) := by decide +kernel
theorem dX1_answer_21 : decode cX1_answer 21 = .ok (.ifCond .ne 6, 3) := by decide +kernel
theorem dX1_answer_24 : decode cX1_answer 24 = .ok (.bipush (-2), 2) := by decide +kernel
theorem dX1_answer_26 : decode cX1_answer 26 = .ok (.ireturn, 1) := by decide +kernel
theorem dX1_answer_27 : decode cX1_answer 27 = .ok (.aload_n 0, 1) := by decide +kernel
theorem dX1_answer_28 : decode cX1_answer 28 = .ok (.getfield 45, 3) := by decide +kernel
theorem dX1_answer_31 : decode cX1_answer 31 = .ok (.bipush 12, 2) := by decide +kernel
theorem dX1_answer_33 : decode cX1_answer 33 = .ok (.iload_n 1, 1) := by decide +kernel
theorem dX1_answer_34 : decode cX1_answer 34 = .ok (.imul, 1) := by decide +kernel
theorem dX1_answer_35 : decode cX1_answer 35 = .ok (.iload 4, 2) := by decide +kernel
theorem dX1_answer_37 : decode cX1_answer 37 = .ok (.iadd, 1) := by decide +kernel
theorem dX1_answer_38 : decode cX1_answer 38 = .ok (.iload_n 3, 1) := by decide +kernel
theorem dX1_answer_39 : decode cX1_answer 39 = .ok (.iastore, 1) := by decide +kernel
theorem dX1_answer_40 : decode cX1_answer 40 = .ok (.aload_n 0, 1) := by decide +kernel
theorem dX1_answer_41 : decode cX1_answer 41 = .ok (.iload_n 2, 1) := by decide +kernel
theorem dX1_answer_42 : decode cX1_answer 42 = .ok (.iload_n 3, 1) := by decide +kernel
theorem dX1_answer_43 : decode cX1_answer 43 = .ok (.invokevirtual 83, 3) := by decide +kernel
theorem dX1_answer_46 : decode cX1_answer 46 = .ok (.ireturn, 1) := by decide +kernel
theorem dX1_gap_0 : decode cX1_gap 0 = .ok (.aload_n 0, 1) := by decide +kernel
theorem dX1_gap_1 : decode cX1_gap 1 = .ok (.iload_n 1, 1) := by decide +kernel
theorem dX1_gap_2 : decode cX1_gap 2 = .ok (.iload_n 2, 1) := by decide +kernel
theorem dX1_gap_3 : decode cX1_gap 3 = .ok (.invokevirtual 77, 3) := by decide +kernel
theorem dX1_gap_6 : decode cX1_gap 6 = .ok (.istore_n 3, 1) := by decide +kernel
theorem dX1_gap_7 : decode cX1_gap 7 = .ok (.iload_n 3, 1) := by decide +kernel
theorem dX1_gap_8 : decode cX1_gap 8 = .ok (.ifCond .ge 5, 3) := by decide +kernel
theorem dX1_gap_11 : decode cX1_gap 11 = .ok (.iconst (-1), 1) := by decide +kernel
theorem dX1_gap_12 : decode cX1_gap 12 = .ok (.ireturn, 1) := by decide +kernel
theorem dX1_gap_13 : decode cX1_gap 13 = .ok (.aload_n 0, 1) := by decide +kernel
theorem dX1_gap_14 : decode cX1_gap 14 = .ok (.getfield 45, 3) := by decide +kernel
theorem dX1_gap_17 : decode cX1_gap 17 = .ok (.bipush 12, 2) := by decide +kernel
theorem dX1_gap_19 : decode cX1_gap 19 = .ok (.iload_n 1, 1) := by decide +kernel
theorem dX1_gap_20 : decode cX1_gap 20 = .ok (.imul, 1) := by decide +kernel
theorem dX1_gap_21 : decode cX1_gap 21 = .ok (.iload_n 3, 1) := by decide +kernel
theorem dX1_gap_22 : decode cX1_gap 22 = .ok (.iadd, 1) := by decide +kernel
theorem dX1_gap_23 : decode cX1_gap 23 = .ok (.iaload, 1) := by decide +kernel
theorem dX1_gap_24 : decode cX1_gap 24 = .ok (.istore 4, 2) := by decide +kernel
theorem dX1_gap_26 : decode cX1_gap 26 = .ok (.aload_n 0, 1) := by decide +kernel
theorem dX1_gap_27 : decode cX1_gap 27 = .ok (.getfield 45, 3) := by decide +kernel
theorem dX1_gap_30 : decode cX1_gap 30 = .ok (.bipush 12, 2) := by decide +kernel
theorem dX1_gap_32 : decode cX1_gap 32 = .ok (.iload_n 1, 1) := by decide +kernel
theorem dX1_gap_33 : decode cX1_gap 33 = .ok (.imul, 1) := by decide +kernel
theorem dX1_gap_34 : decode cX1_gap 34 = .ok (.iload_n 3, 1) := by decide +kernel
theorem dX1_gap_35 : decode cX1_gap 35 = .ok (.iadd, 1) := by decide +kernel
theorem dX1_gap_36 : decode cX1_gap 36 = .ok (.iconst (-1), 1) := by decide +kernel
theorem dX1_gap_37 : decode cX1_gap 37 = .ok (.iastore, 1) := by decide +kernel
theorem dX1_gap_38 : decode cX1_gap 38 = .ok (.iload 4, 2) := by decide +kernel
theorem dX1_gap_40 : decode cX1_gap 40 = .ok (.ireturn, 1) := by decide +kernel
theorem dX1_row_0 : decode cX1_row 0 = .ok (.aload_n 0, 1) := by decide +kernel
theorem dX1_row_1 : decode cX1_row 1 = .ok (.iload_n 1, 1) := by decide +kernel
theorem dX1_row_2 : decode cX1_row 2 = .ok (.invokevirtual 74, 3) := by decide +kernel
theorem dX1_row_5 : decode cX1_row 5 = .ok (.ifCond .ne 5, 3) := by decide +kernel
theorem dX1_row_8 : decode cX1_row 8 = .ok (.iconst (-1), 1) := by decide +kernel
theorem dX1_row_9 : decode cX1_row 9 = .ok (.ireturn, 1) := by decide +kernel
theorem dX1_row_10 : decode cX1_row 10 = .ok (.aload_n 0, 1) := by decide +kernel
theorem dX1_row_11 : decode cX1_row 11 = .ok (.getfield 39, 3) := by decide +kernel
theorem dX1_row_14 : decode cX1_row 14 = .ok (.iload_n 1, 1) := by decide +kernel
theorem dX1_row_15 : decode cX1_row 15 = .ok (.iaload, 1) := by decide +kernel
theorem dX1_row_16 : decode cX1_row 16 = .ok (.istore 4, 2) := by decide +kernel
theorem dX1_row_18 : decode cX1_row 18 = .ok (.iconst 0, 1) := by decide +kernel
theorem dX1_row_19 : decode cX1_row 19 = .ok (.istore 5, 2) := by decide +kernel
theorem dX1_row_21 : decode cX1_row 21 = .ok (.iload 5, 2) := by decide +kernel
theorem dX1_row_23 : decode cX1_row 23 = .ok (.bipush 8, 2) := by decide +kernel
theorem dX1_row_25 : decode cX1_row 25 = .ok (.if_icmp .ge 105, 3) := by decide +kernel
theorem dX1_row_28 : decode cX1_row 28 = .ok (.iload 5, 2) := by decide +kernel
theorem dX1_row_30 : decode cX1_row 30 = .ok (.aload_n 0, 1) := by decide +kernel
theorem dX1_row_31 : decode cX1_row 31 = .ok (.getfield 36, 3) := by decide +kernel
theorem dX1_row_34 : decode cX1_row 34 = .ok (.iload 4, 2) := by decide +kernel
theorem dX1_row_36 : decode cX1_row 36 = .ok (.iaload, 1) := by decide +kernel
theorem dX1_row_37 : decode cX1_row 37 = .ok (.if_icmp .ge 93, 3) := by decide +kernel
theorem dX1_row_40 : decode cX1_row 40 = .ok (.lload_n 2, 1) := by decide +kernel
theorem dX1_row_41 : decode cX1_row 41 = .ok (.bipush 56, 2) := by decide +kernel
theorem dX1_row_43 : decode cX1_row 43 = .ok (.bipush 8, 2) := by decide +kernel
theorem dX1_row_45 : decode cX1_row 45 = .ok (.iload 5, 2) := by decide +kernel
theorem dX1_row_47 : decode cX1_row 47 = .ok (.imul, 1) := by decide +kernel
theorem dX1_row_48 : decode cX1_row 48 = .ok (.isub, 1) := by decide +kernel
theorem dX1_row_49 : decode cX1_row 49 = .ok (.lshr, 1) := by decide +kernel
theorem dX1_row_50 : decode cX1_row 50 = .ok (.ldc2_w 86, 3) := by decide +kernel
theorem dX1_row_53 : decode cX1_row 53 = .ok (.land, 1) := by decide +kernel
theorem dX1_row_54 : decode cX1_row 54 = .ok (.l2i, 1) := by decide +kernel
theorem dX1_row_55 : decode cX1_row 55 = .ok (.istore 6, 2) := by decide +kernel
theorem dX1_row_57 : decode cX1_row 57 = .ok (.iload 6, 2) := by decide +kernel
theorem dX1_row_59 : decode cX1_row 59 = .ok (.sipush 254, 3) := by decide +kernel
theorem dX1_row_62 : decode cX1_row 62 = .ok (.if_icmp .eq 33, 3) := by decide +kernel
theorem dX1_row_65 : decode cX1_row 65 = .ok (.iload 6, 2) := by decide +kernel
theorem dX1_row_67 : decode cX1_row 67 = .ok (.sipush 255, 3) := by decide +kernel
theorem dX1_row_70 : decode cX1_row 70 = .ok (.if_icmp .eq 28, 3) := by decide +kernel
theorem dX1_row_73 : decode cX1_row 73 = .ok (.aload_n 0, 1) := by decide +kernel
theorem dX1_row_74 : decode cX1_row 74 = .ok (.aload_n 0, 1) := by decide +kernel
theorem dX1_row_75 : decode cX1_row 75 = .ok (.getfield 33, 3) := by decide +kernel
theorem dX1_row_78 : decode cX1_row 78 = .ok (.bipush 12, 2) := by decide +kernel
theorem dX1_row_80 : decode cX1_row 80 = .ok (.iload 4, 2) := by decide +kernel
theorem dX1_row_82 : decode cX1_row 82 = .ok (.imul, 1) := by decide +kernel
theorem dX1_row_83 : decode cX1_row 83 = .ok (.iload 5, 2) := by decide +kernel
theorem dX1_row_85 : decode cX1_row 85 = .ok (.iadd, 1) := by decide +kernel
theorem dX1_row_86 : decode cX1_row 86 = .ok (.iaload, 1) := by decide +kernel
theorem dX1_row_87 : decode cX1_row 87 = .ok (.iload 6, 2) := by decide +kernel
theorem dX1_row_89 : decode cX1_row 89 = .ok (.invokevirtual 80, 3) := by decide +kernel
theorem dX1_row_92 : decode cX1_row 92 = .ok (.ifCond .ne 6, 3) := by decide +kernel
theorem dX1_row_95 : decode cX1_row 95 = .ok (.iload 5, 2) := by decide +kernel
theorem dX1_row_97 : decode cX1_row 97 = .ok (.ireturn, 1) := by decide +kernel
theorem dX1_row_98 : decode cX1_row 98 = .ok (.aload_n 0, 1) := by decide +kernel
theorem dX1_row_99 : decode cX1_row 99 = .ok (.getfield 45, 3) := by decide +kernel
theorem dX1_row_102 : decode cX1_row 102 = .ok (.bipush 12, 2) := by decide +kernel
theorem dX1_row_104 : decode cX1_row 104 = .ok (.iload_n 1, 1) := by decide +kernel
theorem dX1_row_105 : decode cX1_row 105 = .ok (.imul, 1) := by decide +kernel
theorem dX1_row_106 : decode cX1_row 106 = .ok (.iload 5, 2) := by decide +kernel
theorem dX1_row_108 : decode cX1_row 108 = .ok (.iadd, 1) := by decide +kernel
theorem dX1_row_109 : decode cX1_row 109 = .ok (.iload 6, 2) := by decide +kernel
theorem dX1_row_111 : decode cX1_row 111 = .ok (.sipush 255, 3) := by decide +kernel
theorem dX1_row_114 : decode cX1_row 114 = .ok (.if_icmp .ne 7, 3) := by decide +kernel
theorem dX1_row_117 : decode cX1_row 117 = .ok (.iconst (-1), 1) := by decide +kernel
theorem dX1_row_118 : decode cX1_row 118 = .ok (.goto 5, 3) := by decide +kernel
theorem dX1_row_121 : decode cX1_row 121 = .ok (.iload 6, 2) := by decide +kernel
theorem dX1_row_123 : decode cX1_row 123 = .ok (.iastore, 1) := by decide +kernel
theorem dX1_row_124 : decode cX1_row 124 = .ok (.iinc 5 1, 3) := by decide +kernel
theorem dX1_row_127 : decode cX1_row 127 = .ok (.goto (-106), 3) := by decide +kernel
theorem dX1_row_130 : decode cX1_row 130 = .ok (.iload 5, 2) := by decide +kernel
theorem dX1_row_132 : decode cX1_row 132 = .ok (.ireturn, 1) := by decide +kernel
theorem dX1_markAt_0 : decode cX1_markAt 0 = .ok (.aload_n 0, 1) := by decide +kernel
theorem dX1_markAt_1 : decode cX1_markAt 1 = .ok (.aload_n 0, 1) := by decide +kernel
theorem dX1_markAt_2 : decode cX1_markAt 2 = .ok (.getfield 33, 3) := by decide +kernel
theorem dX1_markAt_5 : decode cX1_markAt 5 = .ok (.bipush 12, 2) := by decide +kernel
theorem dX1_markAt_7 : decode cX1_markAt 7 = .ok (.aload_n 0, 1) := by decide +kernel
theorem dX1_markAt_8 : decode cX1_markAt 8 = .ok (.getfield 39, 3) := by decide +kernel
theorem dX1_markAt_11 : decode cX1_markAt 11 = .ok (.iload_n 1, 1) := by decide +kernel
theorem dX1_markAt_12 : decode cX1_markAt 12 = .ok (.iaload, 1) := by decide +kernel
theorem dX1_markAt_13 : decode cX1_markAt 13 = .ok (.imul, 1) := by decide +kernel
theorem dX1_markAt_14 : decode cX1_markAt 14 = .ok (.iload_n 2, 1) := by decide +kernel
theorem dX1_markAt_15 : decode cX1_markAt 15 = .ok (.iadd, 1) := by decide +kernel
theorem dX1_markAt_16 : decode cX1_markAt 16 = .ok (.iaload, 1) := by decide +kernel
theorem dX1_markAt_17 : decode cX1_markAt 17 = .ok (.aload_n 0, 1) := by decide +kernel
theorem dX1_markAt_18 : decode cX1_markAt 18 = .ok (.getfield 45, 3) := by decide +kernel
theorem dX1_markAt_21 : decode cX1_markAt 21 = .ok (.bipush 12, 2) := by decide +kernel
theorem dX1_markAt_23 : decode cX1_markAt 23 = .ok (.iload_n 1, 1) := by decide +kernel
theorem dX1_markAt_24 : decode cX1_markAt 24 = .ok (.imul, 1) := by decide +kernel
theorem dX1_markAt_25 : decode cX1_markAt 25 = .ok (.iload_n 2, 1) := by decide +kernel
theorem dX1_markAt_26 : decode cX1_markAt 26 = .ok (.iadd, 1) := by decide +kernel
theorem dX1_markAt_27 : decode cX1_markAt 27 = .ok (.iaload, 1) := by decide +kernel
theorem dX1_markAt_28 : decode cX1_markAt 28 = .ok (.invokevirtual 83, 3) := by decide +kernel
theorem dX1_markAt_31 : decode cX1_markAt 31 = .ok (.ireturn, 1) := by decide +kernel
theorem dX1_mark_0 : decode cX1_mark 0 = .ok (.aload_n 0, 1) := by decide +kernel
theorem dX1_mark_1 : decode cX1_mark 1 = .ok (.iload_n 1, 1) := by decide +kernel
theorem dX1_mark_2 : decode cX1_mark 2 = .ok (.iload_n 2, 1) := by decide +kernel
theorem dX1_mark_3 : decode cX1_mark 3 = .ok (.invokevirtual 77, 3) := by decide +kernel
theorem dX1_mark_6 : decode cX1_mark 6 = .ok (.istore_n 3, 1) := by decide +kernel
theorem dX1_mark_7 : decode cX1_mark 7 = .ok (.iload_n 3, 1) := by decide +kernel
theorem dX1_mark_8 : decode cX1_mark 8 = .ok (.ifCond .ge 7, 3) := by decide +kernel
theorem dX1_mark_11 : decode cX1_mark 11 = .ok (.iconst (-1), 1) := by decide +kernel
theorem dX1_mark_12 : decode cX1_mark 12 = .ok (.goto 9, 3) := by decide +kernel
theorem dX1_mark_15 : decode cX1_mark 15 = .ok (.aload_n 0, 1) := by decide +kernel
theorem dX1_mark_16 : decode cX1_mark 16 = .ok (.iload_n 1, 1) := by decide +kernel
theorem dX1_mark_17 : decode cX1_mark 17 = .ok (.iload_n 3, 1) := by decide +kernel
theorem dX1_mark_18 : decode cX1_mark 18 = .ok (.invokevirtual 88, 3) := by decide +kernel
theorem dX1_mark_21 : decode cX1_mark 21 = .ok (.ireturn, 1) := by decide +kernel
theorem dX1_cameTo_0 : decode cX1_cameTo 0 = .ok (.iconst 0, 1) := by decide +kernel
theorem dX1_cameTo_1 : decode cX1_cameTo 1 = .ok (.istore_n 3, 1) := by decide +kernel
theorem dX1_cameTo_2 : decode cX1_cameTo 2 = .ok (.iload_n 2, 1) := by decide +kernel
theorem dX1_cameTo_3 : decode cX1_cameTo 3 = .ok (.istore 4, 2) := by decide +kernel
theorem dX1_cameTo_5 : decode cX1_cameTo 5 = .ok (.iload 4, 2) := by decide +kernel
theorem dX1_cameTo_7 : decode cX1_cameTo 7 = .ok (.aload_n 0, 1) := by decide +kernel
theorem dX1_cameTo_8 : decode cX1_cameTo 8 = .ok (.getfield 36, 3) := by decide +kernel
theorem dX1_cameTo_11 : decode cX1_cameTo 11 = .ok (.aload_n 0, 1) := by decide +kernel
theorem dX1_cameTo_12 : decode cX1_cameTo 12 = .ok (.getfield 39, 3) := by decide +kernel
theorem dX1_cameTo_15 : decode cX1_cameTo 15 = .ok (.iload_n 1, 1) := by decide +kernel
theorem dX1_cameTo_16 : decode cX1_cameTo 16 = .ok (.iaload, 1) := by decide +kernel
theorem dX1_cameTo_17 : decode cX1_cameTo 17 = .ok (.iaload, 1) := by decide +kernel
theorem dX1_cameTo_18 : decode cX1_cameTo 18 = .ok (.if_icmp .ge 34, 3) := by decide +kernel
theorem dX1_cameTo_21 : decode cX1_cameTo 21 = .ok (.iload_n 3, 1) := by decide +kernel
theorem dX1_cameTo_22 : decode cX1_cameTo 22 = .ok (.ifCond .ne 18, 3) := by decide +kernel
theorem dX1_cameTo_25 : decode cX1_cameTo 25 = .ok (.aload_n 0, 1) := by decide +kernel
theorem dX1_cameTo_26 : decode cX1_cameTo 26 = .ok (.getfield 45, 3) := by decide +kernel
theorem dX1_cameTo_29 : decode cX1_cameTo 29 = .ok (.bipush 12, 2) := by decide +kernel
theorem dX1_cameTo_31 : decode cX1_cameTo 31 = .ok (.iload_n 1, 1) := by decide +kernel
theorem dX1_cameTo_32 : decode cX1_cameTo 32 = .ok (.imul, 1) := by decide +kernel
theorem dX1_cameTo_33 : decode cX1_cameTo 33 = .ok (.iload 4, 2) := by decide +kernel
theorem dX1_cameTo_35 : decode cX1_cameTo 35 = .ok (.iadd, 1) := by decide +kernel
theorem dX1_cameTo_36 : decode cX1_cameTo 36 = .ok (.iaload, 1) := by decide +kernel
theorem dX1_cameTo_37 : decode cX1_cameTo 37 = .ok (.ifCond .lt 7, 3) := by decide +kernel
theorem dX1_cameTo_40 : decode cX1_cameTo 40 = .ok (.iconst 1, 1) := by decide +kernel
theorem dX1_cameTo_41 : decode cX1_cameTo 41 = .ok (.goto 4, 3) := by decide +kernel
theorem dX1_cameTo_44 : decode cX1_cameTo 44 = .ok (.iconst 0, 1) := by decide +kernel
theorem dX1_cameTo_45 : decode cX1_cameTo 45 = .ok (.istore_n 3, 1) := by decide +kernel
theorem dX1_cameTo_46 : decode cX1_cameTo 46 = .ok (.iinc 4 1, 3) := by decide +kernel
theorem dX1_cameTo_49 : decode cX1_cameTo 49 = .ok (.goto (-44), 3) := by decide +kernel
theorem dX1_cameTo_52 : decode cX1_cameTo 52 = .ok (.iload_n 3, 1) := by decide +kernel
theorem dX1_cameTo_53 : decode cX1_cameTo 53 = .ok (.ireturn, 1) := by decide +kernel
theorem dX1_come_0 : decode cX1_come 0 = .ok (.aload_n 0, 1) := by decide +kernel
theorem dX1_come_1 : decode cX1_come 1 = .ok (.iload_n 1, 1) := by decide +kernel
theorem dX1_come_2 : decode cX1_come 2 = .ok (.iload_n 2, 1) := by decide +kernel
theorem dX1_come_3 : decode cX1_come 3 = .ok (.invokevirtual 77, 3) := by decide +kernel
theorem dX1_come_6 : decode cX1_come 6 = .ok (.istore_n 3, 1) := by decide +kernel
theorem dX1_come_7 : decode cX1_come 7 = .ok (.iload_n 3, 1) := by decide +kernel
theorem dX1_come_8 : decode cX1_come 8 = .ok (.ifCond .ge 7, 3) := by decide +kernel
theorem dX1_come_11 : decode cX1_come 11 = .ok (.iconst (-1), 1) := by decide +kernel
theorem dX1_come_12 : decode cX1_come 12 = .ok (.goto 17, 3) := by decide +kernel
theorem dX1_come_15 : decode cX1_come 15 = .ok (.aload_n 0, 1) := by decide +kernel
theorem dX1_come_16 : decode cX1_come 16 = .ok (.iload_n 1, 1) := by decide +kernel
theorem dX1_come_17 : decode cX1_come 17 = .ok (.iload_n 3, 1) := by decide +kernel
theorem dX1_come_18 : decode cX1_come 18 = .ok (.invokevirtual 91, 3) := by decide +kernel
theorem dX1_come_21 : decode cX1_come 21 = .ok (.ifCond .eq 7, 3) := by decide +kernel
theorem dX1_come_24 : decode cX1_come 24 = .ok (.iconst 1, 1) := by decide +kernel
theorem dX1_come_25 : decode cX1_come 25 = .ok (.goto 4, 3) := by decide +kernel
theorem dX1_come_28 : decode cX1_come 28 = .ok (.iconst 0, 1) := by decide +kernel
theorem dX1_come_29 : decode cX1_come 29 = .ok (.ireturn, 1) := by decide +kernel
theorem dX1_isCounted_0 : decode cX1_isCounted 0 = .ok (.aload_n 0, 1) := by decide +kernel
theorem dX1_isCounted_1 : decode cX1_isCounted 1 = .ok (.getfield 19, 3) := by decide +kernel
theorem dX1_isCounted_4 : decode cX1_isCounted 4 = .ok (.iload_n 1, 1) := by decide +kernel
theorem dX1_isCounted_5 : decode cX1_isCounted 5 = .ok (.iaload, 1) := by decide +kernel
theorem dX1_isCounted_6 : decode cX1_isCounted 6 = .ok (.iconst 3, 1) := by decide +kernel
theorem dX1_isCounted_7 : decode cX1_isCounted 7 = .ok (.if_icmp .eq 16, 3) := by decide +kernel
theorem dX1_isCounted_10 : decode cX1_isCounted 10 = .ok (.aload_n 0, 1) := by decide +kernel
theorem dX1_isCounted_11 : decode cX1_isCounted 11 = .ok (.getfield 29, 3) := by decide +kernel
theorem dX1_isCounted_14 : decode cX1_isCounted 14 = .ok (.iload_n 1, 1) := by decide +kernel
theorem dX1_isCounted_15 : decode cX1_isCounted 15 = .ok (.baload, 1) := by decide +kernel
theorem dX1_isCounted_16 : decode cX1_isCounted 16 = .ok (.ifCond .ne 7, 3) := by decide +kernel
theorem dX1_isCounted_19 : decode cX1_isCounted 19 = .ok (.iconst 1, 1) := by decide +kernel
theorem dX1_isCounted_20 : decode cX1_isCounted 20 = .ok (.goto 4, 3) := by decide +kernel
theorem dX1_isCounted_23 : decode cX1_isCounted 23 = .ok (.iconst 0, 1) := by decide +kernel
theorem dX1_isCounted_24 : decode cX1_isCounted 24 = .ok (.ireturn, 1) := by decide +kernel
theorem dX1_totalOf_0 : decode cX1_totalOf 0 = .ok (.iconst 0, 1) := by decide +kernel
theorem dX1_totalOf_1 : decode cX1_totalOf 1 = .ok (.istore_n 2, 1) := by decide +kernel
theorem dX1_totalOf_2 : decode cX1_totalOf 2 = .ok (.iconst 0, 1) := by decide +kernel
theorem dX1_totalOf_3 : decode cX1_totalOf 3 = .ok (.istore_n 3, 1) := by decide +kernel
theorem dX1_totalOf_4 : decode cX1_totalOf 4 = .ok (.iload_n 3, 1) := by decide +kernel
theorem dX1_totalOf_5 : decode cX1_totalOf 5 = .ok (.aload_n 0, 1) := by decide +kernel
theorem dX1_totalOf_6 : decode cX1_totalOf 6 = .ok (.getfield 36, 3) := by decide +kernel
theorem dX1_totalOf_9 : decode cX1_totalOf 9 = .ok (.aload_n 0, 1) := by decide +kernel
theorem dX1_totalOf_10 : decode cX1_totalOf 10 = .ok (.getfield 39, 3) := by decide +kernel
theorem dX1_totalOf_13 : decode cX1_totalOf 13 = .ok (.iload_n 1, 1) := by decide +kernel
theorem dX1_totalOf_14 : decode cX1_totalOf 14 = .ok (.iaload, 1) := by decide +kernel
theorem dX1_totalOf_15 : decode cX1_totalOf 15 = .ok (.iaload, 1) := by decide +kernel
theorem dX1_totalOf_16 : decode cX1_totalOf 16 = .ok (.if_icmp .ge 45, 3) := by decide +kernel
theorem dX1_totalOf_19 : decode cX1_totalOf 19 = .ok (.iload_n 2, 1) := by decide +kernel
theorem dX1_totalOf_20 : decode cX1_totalOf 20 = .ok (.aload_n 0, 1) := by decide +kernel
theorem dX1_totalOf_21 : decode cX1_totalOf 21 = .ok (.aload_n 0, 1) := by decide +kernel
theorem dX1_totalOf_22 : decode cX1_totalOf 22 = .ok (.getfield 33, 3) := by decide +kernel
theorem dX1_totalOf_25 : decode cX1_totalOf 25 = .ok (.bipush 12, 2) := by decide +kernel
theorem dX1_totalOf_27 : decode cX1_totalOf 27 = .ok (.aload_n 0, 1) := by decide +kernel
theorem dX1_totalOf_28 : decode cX1_totalOf 28 = .ok (.getfield 39, 3) := by decide +kernel
theorem dX1_totalOf_31 : decode cX1_totalOf 31 = .ok (.iload_n 1, 1) := by decide +kernel
theorem dX1_totalOf_32 : decode cX1_totalOf 32 = .ok (.iaload, 1) := by decide +kernel
theorem dX1_totalOf_33 : decode cX1_totalOf 33 = .ok (.imul, 1) := by decide +kernel
theorem dX1_totalOf_34 : decode cX1_totalOf 34 = .ok (.iload_n 3, 1) := by decide +kernel
theorem dX1_totalOf_35 : decode cX1_totalOf 35 = .ok (.iadd, 1) := by decide +kernel
theorem dX1_totalOf_36 : decode cX1_totalOf 36 = .ok (.iaload, 1) := by decide +kernel
theorem dX1_totalOf_37 : decode cX1_totalOf 37 = .ok (.invokevirtual 94, 3) := by decide +kernel
theorem dX1_totalOf_40 : decode cX1_totalOf 40 = .ok (.ifCond .eq 12, 3) := by decide +kernel
theorem dX1_totalOf_43 : decode cX1_totalOf 43 = .ok (.aload_n 0, 1) := by decide +kernel
theorem dX1_totalOf_44 : decode cX1_totalOf 44 = .ok (.iload_n 1, 1) := by decide +kernel
theorem dX1_totalOf_45 : decode cX1_totalOf 45 = .ok (.iload_n 3, 1) := by decide +kernel
theorem dX1_totalOf_46 : decode cX1_totalOf 46 = .ok (.invokevirtual 88, 3) := by decide +kernel
theorem dX1_totalOf_49 : decode cX1_totalOf 49 = .ok (.goto 4, 3) := by decide +kernel
theorem dX1_totalOf_52 : decode cX1_totalOf 52 = .ok (.iconst 0, 1) := by decide +kernel
theorem dX1_totalOf_53 : decode cX1_totalOf 53 = .ok (.iadd, 1) := by decide +kernel
theorem dX1_totalOf_54 : decode cX1_totalOf 54 = .ok (.istore_n 2, 1) := by decide +kernel
theorem dX1_totalOf_55 : decode cX1_totalOf 55 = .ok (.iinc 3 1, 3) := by decide +kernel
theorem dX1_totalOf_58 : decode cX1_totalOf 58 = .ok (.goto (-54), 3) := by decide +kernel
theorem dX1_totalOf_61 : decode cX1_totalOf 61 = .ok (.iload_n 2, 1) := by decide +kernel
theorem dX1_totalOf_62 : decode cX1_totalOf 62 = .ok (.ireturn, 1) := by decide +kernel
theorem dX1_total_0 : decode cX1_total 0 = .ok (.aload_n 0, 1) := by decide +kernel
theorem dX1_total_1 : decode cX1_total 1 = .ok (.iload_n 1, 1) := by decide +kernel
theorem dX1_total_2 : decode cX1_total 2 = .ok (.invokevirtual 74, 3) := by decide +kernel
theorem dX1_total_5 : decode cX1_total 5 = .ok (.ifCond .eq 11, 3) := by decide +kernel
theorem dX1_total_8 : decode cX1_total 8 = .ok (.aload_n 0, 1) := by decide +kernel
theorem dX1_total_9 : decode cX1_total 9 = .ok (.iload_n 1, 1) := by decide +kernel
theorem dX1_total_10 : decode cX1_total 10 = .ok (.invokevirtual 97, 3) := by decide +kernel
theorem dX1_total_13 : decode cX1_total 13 = .ok (.goto 4, 3) := by decide +kernel
theorem dX1_total_16 : decode cX1_total 16 = .ok (.iconst (-1), 1) := by decide +kernel
theorem dX1_total_17 : decode cX1_total 17 = .ok (.ireturn, 1) := by decide +kernel
theorem dX1_divisor_0 : decode cX1_divisor 0 = .ok (.lload_n 1, 1) := by decide +kernel
theorem dX1_divisor_1 : decode cX1_divisor 1 = .ok (.lconst 0, 1) := by decide +kernel
theorem dX1_divisor_2 : decode cX1_divisor 2 = .ok (.lcmp, 1) := by decide +kernel
theorem dX1_divisor_3 : decode cX1_divisor 3 = .ok (.ifCond .ge 8, 3) := by decide +kernel
theorem dX1_divisor_6 : decode cX1_divisor 6 = .ok (.lload_n 1, 1) := by decide +kernel
theorem dX1_divisor_7 : decode cX1_divisor 7 = .ok (.lneg, 1) := by decide +kernel
theorem dX1_divisor_8 : decode cX1_divisor 8 = .ok (.goto 4, 3) := by decide +kernel
theorem dX1_divisor_11 : decode cX1_divisor 11 = .ok (.lload_n 1, 1) := by decide +kernel
theorem dX1_divisor_12 : decode cX1_divisor 12 = .ok (.lstore 5, 2) := by decide +kernel
theorem dX1_divisor_14 : decode cX1_divisor 14 = .ok (.lload_n 3, 1) := by decide +kernel
theorem dX1_divisor_15 : decode cX1_divisor 15 = .ok (.lstore 7, 2) := by decide +kernel
theorem dX1_divisor_17 : decode cX1_divisor 17 = .ok (.lload 7, 2) := by decide +kernel
theorem dX1_divisor_19 : decode cX1_divisor 19 = .ok (.lconst 0, 1) := by decide +kernel
theorem dX1_divisor_20 : decode cX1_divisor 20 = .ok (.lcmp, 1) := by decide +kernel
theorem dX1_divisor_21 : decode cX1_divisor 21 = .ok (.ifCond .eq 21, 3) := by decide +kernel
theorem dX1_divisor_24 : decode cX1_divisor 24 = .ok (.lload 5, 2) := by decide +kernel
theorem dX1_divisor_26 : decode cX1_divisor 26 = .ok (.lload 7, 2) := by decide +kernel
theorem dX1_divisor_28 : decode cX1_divisor 28 = .ok (.lrem, 1) := by decide +kernel
theorem dX1_divisor_29 : decode cX1_divisor 29 = .ok (.lstore 9, 2) := by decide +kernel
theorem dX1_divisor_31 : decode cX1_divisor 31 = .ok (.lload 7, 2) := by decide +kernel
theorem dX1_divisor_33 : decode cX1_divisor 33 = .ok (.lstore 5, 2) := by decide +kernel
theorem dX1_divisor_35 : decode cX1_divisor 35 = .ok (.lload 9, 2) := by decide +kernel
theorem dX1_divisor_37 : decode cX1_divisor 37 = .ok (.lstore 7, 2) := by decide +kernel
theorem dX1_divisor_39 : decode cX1_divisor 39 = .ok (.goto (-22), 3) := by decide +kernel
theorem dX1_divisor_42 : decode cX1_divisor 42 = .ok (.lload 5, 2) := by decide +kernel
theorem dX1_divisor_44 : decode cX1_divisor 44 = .ok (.lreturn, 1) := by decide +kernel
theorem dX1_part_0 : decode cX1_part 0 = .ok (.lload_n 1, 1) := by decide +kernel
theorem dX1_part_1 : decode cX1_part 1 = .ok (.lconst 0, 1) := by decide +kernel
theorem dX1_part_2 : decode cX1_part 2 = .ok (.lcmp, 1) := by decide +kernel
theorem dX1_part_3 : decode cX1_part 3 = .ok (.ifCond .ne 14, 3) := by decide +kernel
theorem dX1_part_6 : decode cX1_part 6 = .ok (.iload 5, 2) := by decide +kernel
theorem dX1_part_8 : decode cX1_part 8 = .ok (.ifCond .ne 7, 3) := by decide +kernel
theorem dX1_part_11 : decode cX1_part 11 = .ok (.lconst 0, 1) := by decide +kernel
theorem dX1_part_12 : decode cX1_part 12 = .ok (.goto 4, 3) := by decide +kernel
theorem dX1_part_15 : decode cX1_part 15 = .ok (.lconst 1, 1) := by decide +kernel
theorem dX1_part_16 : decode cX1_part 16 = .ok (.lreturn, 1) := by decide +kernel
theorem dX1_part_17 : decode cX1_part 17 = .ok (.aload_n 0, 1) := by decide +kernel
theorem dX1_part_18 : decode cX1_part 18 = .ok (.lload_n 1, 1) := by decide +kernel
theorem dX1_part_19 : decode cX1_part 19 = .ok (.lload_n 3, 1) := by decide +kernel
theorem dX1_part_20 : decode cX1_part 20 = .ok (.invokevirtual 100, 3) := by decide +kernel
theorem dX1_part_23 : decode cX1_part 23 = .ok (.lstore 6, 2) := by decide +kernel
theorem dX1_part_25 : decode cX1_part 25 = .ok (.iload 5, 2) := by decide +kernel
theorem dX1_part_27 : decode cX1_part 27 = .ok (.ifCond .ne 10, 3) := by decide +kernel
theorem dX1_part_30 : decode cX1_part 30 = .ok (.lload_n 1, 1) := by decide +kernel
theorem dX1_part_31 : decode cX1_part 31 = .ok (.lload 6, 2) := by decide +kernel
theorem dX1_part_33 : decode cX1_part 33 = .ok (.ldiv, 1) := by decide +kernel
theorem dX1_part_34 : decode cX1_part 34 = .ok (.goto 7, 3) := by decide +kernel
theorem dX1_part_37 : decode cX1_part 37 = .ok (.lload_n 3, 1) := by decide +kernel
theorem dX1_part_38 : decode cX1_part 38 = .ok (.lload 6, 2) := by decide +kernel
theorem dX1_part_40 : decode cX1_part 40 = .ok (.ldiv, 1) := by decide +kernel
theorem dX1_part_41 : decode cX1_part 41 = .ok (.lreturn, 1) := by decide +kernel
theorem dX1_easy_0 : decode cX1_easy 0 = .ok (.aload_n 0, 1) := by decide +kernel
theorem dX1_easy_1 : decode cX1_easy 1 = .ok (.iload_n 1, 1) := by decide +kernel
theorem dX1_easy_2 : decode cX1_easy 2 = .ok (.invokevirtual 59, 3) := by decide +kernel
theorem dX1_easy_5 : decode cX1_easy 5 = .ok (.ifCond .eq 13, 3) := by decide +kernel
theorem dX1_easy_8 : decode cX1_easy 8 = .ok (.aload_n 0, 1) := by decide +kernel
theorem dX1_easy_9 : decode cX1_easy 9 = .ok (.iload_n 2, 1) := by decide +kernel
theorem dX1_easy_10 : decode cX1_easy 10 = .ok (.iconst 0, 1) := by decide +kernel
theorem dX1_easy_11 : decode cX1_easy 11 = .ok (.iconst 1, 1) := by decide +kernel
theorem dX1_easy_12 : decode cX1_easy 12 = .ok (.invokevirtual 51, 3) := by decide +kernel
theorem dX1_easy_15 : decode cX1_easy 15 = .ok (.ifCond .ne 7, 3) := by decide +kernel
theorem dX1_easy_18 : decode cX1_easy 18 = .ok (.ldc2_w 104, 3) := by decide +kernel
theorem dX1_easy_21 : decode cX1_easy 21 = .ok (.lreturn, 1) := by decide +kernel
theorem dX1_easy_22 : decode cX1_easy 22 = .ok (.lconst 0, 1) := by decide +kernel
theorem dX1_easy_23 : decode cX1_easy 23 = .ok (.lstore_n 3, 1) := by decide +kernel
theorem dX1_easy_24 : decode cX1_easy 24 = .ok (.lconst 0, 1) := by decide +kernel
theorem dX1_easy_25 : decode cX1_easy 25 = .ok (.lstore 5, 2) := by decide +kernel
theorem dX1_easy_27 : decode cX1_easy 27 = .ok (.iconst 0, 1) := by decide +kernel
theorem dX1_easy_28 : decode cX1_easy 28 = .ok (.istore 7, 2) := by decide +kernel
theorem dX1_easy_30 : decode cX1_easy 30 = .ok (.iload 7, 2) := by decide +kernel
theorem dX1_easy_32 : decode cX1_easy 32 = .ok (.aload_n 0, 1) := by decide +kernel
theorem dX1_easy_33 : decode cX1_easy 33 = .ok (.getfield 16, 3) := by decide +kernel
theorem dX1_easy_36 : decode cX1_easy 36 = .ok (.if_icmp .ge 55, 3) := by decide +kernel
theorem dX1_easy_39 : decode cX1_easy 39 = .ok (.aload_n 0, 1) := by decide +kernel
theorem dX1_easy_40 : decode cX1_easy 40 = .ok (.iload 7, 2) := by decide +kernel
theorem dX1_easy_42 : decode cX1_easy 42 = .ok (.iload_n 1, 1) := by decide +kernel
theorem dX1_easy_43 : decode cX1_easy 43 = .ok (.invokevirtual 77, 3) := by decide +kernel
theorem dX1_easy_46 : decode cX1_easy 46 = .ok (.istore 8, 2) := by decide +kernel
theorem dX1_easy_48 : decode cX1_easy 48 = .ok (.iload 8, 2) := by decide +kernel
theorem dX1_easy_50 : decode cX1_easy 50 = .ok (.ifCond .lt 35, 3) := by decide +kernel
theorem dX1_easy_53 : decode cX1_easy 53 = .ok (.aload_n 0, 1) := by decide +kernel
theorem dX1_easy_54 : decode cX1_easy 54 = .ok (.iload 7, 2) := by decide +kernel
theorem dX1_easy_56 : decode cX1_easy 56 = .ok (.iload 8, 2) := by decide +kernel
theorem dX1_easy_58 : decode cX1_easy 58 = .ok (.invokevirtual 91, 3) := by decide +kernel
theorem dX1_easy_61 : decode cX1_easy 61 = .ok (.ifCond .ne 6, 3) := by decide +kernel
theorem dX1_easy_64 : decode cX1_easy 64 = .ok (.goto 21, 3) := by decide +kernel
theorem dX1_easy_67 : decode cX1_easy 67 = .ok (.lload_n 3, 1) := by decide +kernel
theorem dX1_easy_68 : decode cX1_easy 68 = .ok (.aload_n 0, 1) := by decide +kernel
theorem dX1_easy_69 : decode cX1_easy 69 = .ok (.iload 7, 2) := by decide +kernel
theorem dX1_easy_71 : decode cX1_easy 71 = .ok (.iload 8, 2) := by decide +kernel
theorem dX1_easy_73 : decode cX1_easy 73 = .ok (.invokevirtual 88, 3) := by decide +kernel
theorem dX1_easy_76 : decode cX1_easy 76 = .ok (.i2l, 1) := by decide +kernel
theorem dX1_easy_77 : decode cX1_easy 77 = .ok (.ladd, 1) := by decide +kernel
theorem dX1_easy_78 : decode cX1_easy 78 = .ok (.lstore_n 3, 1) := by decide +kernel
theorem dX1_easy_79 : decode cX1_easy 79 = .ok (.lload 5, 2) := by decide +kernel
theorem dX1_easy_81 : decode cX1_easy 81 = .ok (.lconst 1, 1) := by decide +kernel
theorem dX1_easy_82 : decode cX1_easy 82 = .ok (.ladd, 1) := by decide +kernel
theorem dX1_easy_83 : decode cX1_easy 83 = .ok (.lstore 5, 2) := by decide +kernel
theorem dX1_easy_85 : decode cX1_easy 85 = .ok (.iinc 7 1, 3) := by decide +kernel
theorem dX1_easy_88 : decode cX1_easy 88 = .ok (.goto (-58), 3) := by decide +kernel
theorem dX1_easy_91 : decode cX1_easy 91 = .ok (.aload_n 0, 1) := by decide +kernel
theorem dX1_easy_92 : decode cX1_easy 92 = .ok (.lload_n 3, 1) := by decide +kernel
theorem dX1_easy_93 : decode cX1_easy 93 = .ok (.lload 5, 2) := by decide +kernel
theorem dX1_easy_95 : decode cX1_easy 95 = .ok (.aload_n 0, 1) := by decide +kernel
theorem dX1_easy_96 : decode cX1_easy 96 = .ok (.getfield 23, 3) := by decide +kernel
theorem dX1_easy_99 : decode cX1_easy 99 = .ok (.iload_n 1, 1) := by decide +kernel
theorem dX1_easy_100 : decode cX1_easy 100 = .ok (.iaload, 1) := by decide +kernel
theorem dX1_easy_101 : decode cX1_easy 101 = .ok (.i2l, 1) := by decide +kernel
theorem dX1_easy_102 : decode cX1_easy 102 = .ok (.lmul, 1) := by decide +kernel
theorem dX1_easy_103 : decode cX1_easy 103 = .ok (.iload_n 2, 1) := by decide +kernel
theorem dX1_easy_104 : decode cX1_easy 104 = .ok (.invokevirtual 106, 3) := by decide +kernel
theorem dX1_easy_107 : decode cX1_easy 107 = .ok (.lreturn, 1) := by decide +kernel
theorem dX1_sharp_0 : decode cX1_sharp 0 = .ok (.aload_n 0, 1) := by decide +kernel
theorem dX1_sharp_1 : decode cX1_sharp 1 = .ok (.iload_n 1, 1) := by decide +kernel
theorem dX1_sharp_2 : decode cX1_sharp 2 = .ok (.invokevirtual 59, 3) := by decide +kernel
theorem dX1_sharp_5 : decode cX1_sharp 5 = .ok (.ifCond .ne 7, 3) := by decide +kernel
theorem dX1_sharp_8 : decode cX1_sharp 8 = .ok (.ldc2_w 104, 3) := by decide +kernel
theorem dX1_sharp_11 : decode cX1_sharp 11 = .ok (.lreturn, 1) := by decide +kernel
theorem dX1_sharp_12 : decode cX1_sharp 12 = .ok (.lconst 0, 1) := by decide +kernel
theorem dX1_sharp_13 : decode cX1_sharp 13 = .ok (.lstore_n 2, 1) := by decide +kernel
theorem dX1_sharp_14 : decode cX1_sharp 14 = .ok (.lconst 0, 1) := by decide +kernel
theorem dX1_sharp_15 : decode cX1_sharp 15 = .ok (.lstore 4, 2) := by decide +kernel
theorem dX1_sharp_17 : decode cX1_sharp 17 = .ok (.lconst 0, 1) := by decide +kernel
theorem dX1_sharp_18 : decode cX1_sharp 18 = .ok (.lstore 6, 2) := by decide +kernel
theorem dX1_sharp_20 : decode cX1_sharp 20 = .ok (.lconst 0, 1) := by decide +kernel
theorem dX1_sharp_21 : decode cX1_sharp 21 = .ok (.lstore 8, 2) := by decide +kernel
theorem dX1_sharp_23 : decode cX1_sharp 23 = .ok (.iconst 0, 1) := by decide +kernel
theorem dX1_sharp_24 : decode cX1_sharp 24 = .ok (.istore 10, 2) := by decide +kernel
theorem dX1_sharp_26 : decode cX1_sharp 26 = .ok (.iload 10, 2) := by decide +kernel
theorem dX1_sharp_28 : decode cX1_sharp 28 = .ok (.aload_n 0, 1) := by decide +kernel
theorem dX1_sharp_29 : decode cX1_sharp 29 = .ok (.getfield 16, 3) := by decide +kernel
theorem dX1_sharp_32 : decode cX1_sharp 32 = .ok (.if_icmp .ge 100, 3) := by decide +kernel
theorem dX1_sharp_35 : decode cX1_sharp 35 = .ok (.aload_n 0, 1) := by decide +kernel
theorem dX1_sharp_36 : decode cX1_sharp 36 = .ok (.iload 10, 2) := by decide +kernel
theorem dX1_sharp_38 : decode cX1_sharp 38 = .ok (.iload_n 1, 1) := by decide +kernel
theorem dX1_sharp_39 : decode cX1_sharp 39 = .ok (.invokevirtual 77, 3) := by decide +kernel
theorem dX1_sharp_42 : decode cX1_sharp 42 = .ok (.istore 11, 2) := by decide +kernel
theorem dX1_sharp_44 : decode cX1_sharp 44 = .ok (.iload 11, 2) := by decide +kernel
theorem dX1_sharp_46 : decode cX1_sharp 46 = .ok (.ifCond .lt 80, 3) := by decide +kernel
theorem dX1_sharp_49 : decode cX1_sharp 49 = .ok (.aload_n 0, 1) := by decide +kernel
theorem dX1_sharp_50 : decode cX1_sharp 50 = .ok (.iload 10, 2) := by decide +kernel
theorem dX1_sharp_52 : decode cX1_sharp 52 = .ok (.iload 11, 2) := by decide +kernel
theorem dX1_sharp_54 : decode cX1_sharp 54 = .ok (.invokevirtual 91, 3) := by decide +kernel
theorem dX1_sharp_57 : decode cX1_sharp 57 = .ok (.ifCond .ne 6, 3) := by decide +kernel
theorem dX1_sharp_60 : decode cX1_sharp 60 = .ok (.goto 66, 3) := by decide +kernel
theorem dX1_sharp_63 : decode cX1_sharp 63 = .ok (.aload_n 0, 1) := by decide +kernel
theorem dX1_sharp_64 : decode cX1_sharp 64 = .ok (.iload 10, 2) := by decide +kernel
theorem dX1_sharp_66 : decode cX1_sharp 66 = .ok (.iload 11, 2) := by decide +kernel
theorem dX1_sharp_68 : decode cX1_sharp 68 = .ok (.invokevirtual 88, 3) := by decide +kernel
theorem dX1_sharp_71 : decode cX1_sharp 71 = .ok (.i2l, 1) := by decide +kernel
theorem dX1_sharp_72 : decode cX1_sharp 72 = .ok (.lstore 12, 2) := by decide +kernel
theorem dX1_sharp_74 : decode cX1_sharp 74 = .ok (.aload_n 0, 1) := by decide +kernel
theorem dX1_sharp_75 : decode cX1_sharp 75 = .ok (.iload 10, 2) := by decide +kernel
theorem dX1_sharp_77 : decode cX1_sharp 77 = .ok (.invokevirtual 97, 3) := by decide +kernel
theorem dX1_sharp_80 : decode cX1_sharp 80 = .ok (.i2l, 1) := by decide +kernel
theorem dX1_sharp_81 : decode cX1_sharp 81 = .ok (.aload_n 0, 1) := by decide +kernel
theorem dX1_sharp_82 : decode cX1_sharp 82 = .ok (.iload_n 1, 1) := by decide +kernel
theorem dX1_sharp_83 : decode cX1_sharp 83 = .ok (.invokevirtual 94, 3) := by decide +kernel
theorem dX1_sharp_86 : decode cX1_sharp 86 = .ok (.ifCond .eq 8, 3) := by decide +kernel
theorem dX1_sharp_89 : decode cX1_sharp 89 = .ok (.lload 12, 2) := by decide +kernel
theorem dX1_sharp_91 : decode cX1_sharp 91 = .ok (.goto 4, 3) := by decide +kernel
theorem dX1_sharp_94 : decode cX1_sharp 94 = .ok (.lconst 0, 1) := by decide +kernel
theorem dX1_sharp_95 : decode cX1_sharp 95 = .ok (.lsub, 1) := by decide +kernel
theorem dX1_sharp_96 : decode cX1_sharp 96 = .ok (.lstore 14, 2) := by decide +kernel
theorem dX1_sharp_98 : decode cX1_sharp 98 = .ok (.lload_n 2, 1) := by decide +kernel
theorem dX1_sharp_99 : decode cX1_sharp 99 = .ok (.lconst 1, 1) := by decide +kernel
theorem dX1_sharp_100 : decode cX1_sharp 100 = .ok (.ladd, 1) := by decide +kernel
theorem dX1_sharp_101 : decode cX1_sharp 101 = .ok (.lstore_n 2, 1) := by decide +kernel
theorem dX1_sharp_102 : decode cX1_sharp 102 = .ok (.lload 4, 2) := by decide +kernel
theorem dX1_sharp_104 : decode cX1_sharp 104 = .ok (.lload 12, 2) := by decide +kernel
theorem dX1_sharp_106 : decode cX1_sharp 106 = .ok (.lload 14, 2) := by decide +kernel
theorem dX1_sharp_108 : decode cX1_sharp 108 = .ok (.lmul, 1) := by decide +kernel
theorem dX1_sharp_109 : decode cX1_sharp 109 = .ok (.ladd, 1) := by decide +kernel
theorem dX1_sharp_110 : decode cX1_sharp 110 = .ok (.lstore 4, 2) := by decide +kernel
theorem dX1_sharp_112 : decode cX1_sharp 112 = .ok (.lload 6, 2) := by decide +kernel
theorem dX1_sharp_114 : decode cX1_sharp 114 = .ok (.lload 12, 2) := by decide +kernel
theorem dX1_sharp_116 : decode cX1_sharp 116 = .ok (.ladd, 1) := by decide +kernel
theorem dX1_sharp_117 : decode cX1_sharp 117 = .ok (.lstore 6, 2) := by decide +kernel
theorem dX1_sharp_119 : decode cX1_sharp 119 = .ok (.lload 8, 2) := by decide +kernel
theorem dX1_sharp_121 : decode cX1_sharp 121 = .ok (.lload 14, 2) := by decide +kernel
theorem dX1_sharp_123 : decode cX1_sharp 123 = .ok (.ladd, 1) := by decide +kernel
theorem dX1_sharp_124 : decode cX1_sharp 124 = .ok (.lstore 8, 2) := by decide +kernel
theorem dX1_sharp_126 : decode cX1_sharp 126 = .ok (.iinc 10 1, 3) := by decide +kernel
theorem dX1_sharp_129 : decode cX1_sharp 129 = .ok (.goto (-103), 3) := by decide +kernel
theorem dX1_sharp_132 : decode cX1_sharp 132 = .ok (.lload_n 2, 1) := by decide +kernel
theorem dX1_sharp_133 : decode cX1_sharp 133 = .ok (.lload 4, 2) := by decide +kernel
theorem dX1_sharp_135 : decode cX1_sharp 135 = .ok (.lmul, 1) := by decide +kernel
theorem dX1_sharp_136 : decode cX1_sharp 136 = .ok (.lload 6, 2) := by decide +kernel
theorem dX1_sharp_138 : decode cX1_sharp 138 = .ok (.lload 8, 2) := by decide +kernel
theorem dX1_sharp_140 : decode cX1_sharp 140 = .ok (.lmul, 1) := by decide +kernel
theorem dX1_sharp_141 : decode cX1_sharp 141 = .ok (.lsub, 1) := by decide +kernel
theorem dX1_sharp_142 : decode cX1_sharp 142 = .ok (.lreturn, 1) := by decide +kernel
theorem dX1_leaks_0 : decode cX1_leaks 0 = .ok (.lconst 0, 1) := by decide +kernel
theorem dX1_leaks_1 : decode cX1_leaks 1 = .ok (.lstore 4, 2) := by decide +kernel
theorem dX1_leaks_3 : decode cX1_leaks 3 = .ok (.lconst 0, 1) := by decide +kernel
theorem dX1_leaks_4 : decode cX1_leaks 4 = .ok (.lstore 6, 2) := by decide +kernel
theorem dX1_leaks_6 : decode cX1_leaks 6 = .ok (.lconst 0, 1) := by decide +kernel
theorem dX1_leaks_7 : decode cX1_leaks 7 = .ok (.lstore 8, 2) := by decide +kernel
theorem dX1_leaks_9 : decode cX1_leaks 9 = .ok (.lconst 0, 1) := by decide +kernel
theorem dX1_leaks_10 : decode cX1_leaks 10 = .ok (.lstore 10, 2) := by decide +kernel
theorem dX1_leaks_12 : decode cX1_leaks 12 = .ok (.iconst 0, 1) := by decide +kernel
theorem dX1_leaks_13 : decode cX1_leaks 13 = .ok (.istore 12, 2) := by decide +kernel
theorem dX1_leaks_15 : decode cX1_leaks 15 = .ok (.iload 12, 2) := by decide +kernel
theorem dX1_leaks_17 : decode cX1_leaks 17 = .ok (.aload_n 0, 1) := by decide +kernel
theorem dX1_leaks_18 : decode cX1_leaks 18 = .ok (.getfield 16, 3) := by decide +kernel
theorem dX1_leaks_21 : decode cX1_leaks 21 = .ok (.if_icmp .ge 103, 3) := by decide +kernel
theorem dX1_leaks_24 : decode cX1_leaks 24 = .ok (.aload_n 0, 1) := by decide +kernel
theorem dX1_leaks_25 : decode cX1_leaks 25 = .ok (.iload 12, 2) := by decide +kernel
theorem dX1_leaks_27 : decode cX1_leaks 27 = .ok (.iload_n 1, 1) := by decide +kernel
theorem dX1_leaks_28 : decode cX1_leaks 28 = .ok (.invokevirtual 77, 3) := by decide +kernel
theorem dX1_leaks_31 : decode cX1_leaks 31 = .ok (.istore 13, 2) := by decide +kernel
theorem dX1_leaks_33 : decode cX1_leaks 33 = .ok (.iload 13, 2) := by decide +kernel
theorem dX1_leaks_35 : decode cX1_leaks 35 = .ok (.ifCond .lt 83, 3) := by decide +kernel
theorem dX1_leaks_38 : decode cX1_leaks 38 = .ok (.aload_n 0, 1) := by decide +kernel
theorem dX1_leaks_39 : decode cX1_leaks 39 = .ok (.iload 12, 2) := by decide +kernel
theorem dX1_leaks_41 : decode cX1_leaks 41 = .ok (.iload 13, 2) := by decide +kernel
theorem dX1_leaks_43 : decode cX1_leaks 43 = .ok (.invokevirtual 91, 3) := by decide +kernel
theorem dX1_leaks_46 : decode cX1_leaks 46 = .ok (.ifCond .ne 6, 3) := by decide +kernel
theorem dX1_leaks_49 : decode cX1_leaks 49 = .ok (.goto 69, 3) := by decide +kernel
theorem dX1_leaks_52 : decode cX1_leaks 52 = .ok (.aload_n 0, 1) := by decide +kernel
theorem dX1_leaks_53 : decode cX1_leaks 53 = .ok (.iload 12, 2) := by decide +kernel
theorem dX1_leaks_55 : decode cX1_leaks 55 = .ok (.iload 13, 2) := by decide +kernel
theorem dX1_leaks_57 : decode cX1_leaks 57 = .ok (.invokevirtual 88, 3) := by decide +kernel
theorem dX1_leaks_60 : decode cX1_leaks 60 = .ok (.aload_n 0, 1) := by decide +kernel
theorem dX1_leaks_61 : decode cX1_leaks 61 = .ok (.getfield 23, 3) := by decide +kernel
theorem dX1_leaks_64 : decode cX1_leaks 64 = .ok (.iload_n 1, 1) := by decide +kernel
theorem dX1_leaks_65 : decode cX1_leaks 65 = .ok (.iaload, 1) := by decide +kernel
theorem dX1_leaks_66 : decode cX1_leaks 66 = .ok (.if_icmp .ne 7, 3) := by decide +kernel
theorem dX1_leaks_69 : decode cX1_leaks 69 = .ok (.iconst 1, 1) := by decide +kernel
theorem dX1_leaks_70 : decode cX1_leaks 70 = .ok (.goto 4, 3) := by decide +kernel
theorem dX1_leaks_73 : decode cX1_leaks 73 = .ok (.iconst 0, 1) := by decide +kernel
theorem dX1_leaks_74 : decode cX1_leaks 74 = .ok (.istore 14, 2) := by decide +kernel
theorem dX1_leaks_76 : decode cX1_leaks 76 = .ok (.aload_n 0, 1) := by decide +kernel
theorem dX1_leaks_77 : decode cX1_leaks 77 = .ok (.getfield 42, 3) := by decide +kernel
theorem dX1_leaks_80 : decode cX1_leaks 80 = .ok (.iload 12, 2) := by decide +kernel
theorem dX1_leaks_82 : decode cX1_leaks 82 = .ok (.iaload, 1) := by decide +kernel
theorem dX1_leaks_83 : decode cX1_leaks 83 = .ok (.iload_n 2, 1) := by decide +kernel
theorem dX1_leaks_84 : decode cX1_leaks 84 = .ok (.if_icmp .ne 20, 3) := by decide +kernel
theorem dX1_leaks_87 : decode cX1_leaks 87 = .ok (.lload 4, 2) := by decide +kernel
theorem dX1_leaks_89 : decode cX1_leaks 89 = .ok (.lconst 1, 1) := by decide +kernel
theorem dX1_leaks_90 : decode cX1_leaks 90 = .ok (.ladd, 1) := by decide +kernel
theorem dX1_leaks_91 : decode cX1_leaks 91 = .ok (.lstore 4, 2) := by decide +kernel
theorem dX1_leaks_93 : decode cX1_leaks 93 = .ok (.lload 6, 2) := by decide +kernel
theorem dX1_leaks_95 : decode cX1_leaks 95 = .ok (.iload 14, 2) := by decide +kernel
theorem dX1_leaks_97 : decode cX1_leaks 97 = .ok (.i2l, 1) := by decide +kernel
theorem dX1_leaks_98 : decode cX1_leaks 98 = .ok (.ladd, 1) := by decide +kernel
theorem dX1_leaks_99 : decode cX1_leaks 99 = .ok (.lstore 6, 2) := by decide +kernel
theorem dX1_leaks_101 : decode cX1_leaks 101 = .ok (.goto 17, 3) := by decide +kernel
theorem dX1_leaks_104 : decode cX1_leaks 104 = .ok (.lload 8, 2) := by decide +kernel
theorem dX1_leaks_106 : decode cX1_leaks 106 = .ok (.lconst 1, 1) := by decide +kernel
theorem dX1_leaks_107 : decode cX1_leaks 107 = .ok (.ladd, 1) := by decide +kernel
theorem dX1_leaks_108 : decode cX1_leaks 108 = .ok (.lstore 8, 2) := by decide +kernel
theorem dX1_leaks_110 : decode cX1_leaks 110 = .ok (.lload 10, 2) := by decide +kernel
theorem dX1_leaks_112 : decode cX1_leaks 112 = .ok (.iload 14, 2) := by decide +kernel
theorem dX1_leaks_114 : decode cX1_leaks 114 = .ok (.i2l, 1) := by decide +kernel
theorem dX1_leaks_115 : decode cX1_leaks 115 = .ok (.ladd, 1) := by decide +kernel
theorem dX1_leaks_116 : decode cX1_leaks 116 = .ok (.lstore 10, 2) := by decide +kernel
theorem dX1_leaks_118 : decode cX1_leaks 118 = .ok (.iinc 12 1, 3) := by decide +kernel
theorem dX1_leaks_121 : decode cX1_leaks 121 = .ok (.goto (-106), 3) := by decide +kernel
theorem dX1_leaks_124 : decode cX1_leaks 124 = .ok (.lload 4, 2) := by decide +kernel
theorem dX1_leaks_126 : decode cX1_leaks 126 = .ok (.lconst 0, 1) := by decide +kernel
theorem dX1_leaks_127 : decode cX1_leaks 127 = .ok (.lcmp, 1) := by decide +kernel
theorem dX1_leaks_128 : decode cX1_leaks 128 = .ok (.ifCond .le 41, 3) := by decide +kernel
theorem dX1_leaks_131 : decode cX1_leaks 131 = .ok (.lload 8, 2) := by decide +kernel
theorem dX1_leaks_133 : decode cX1_leaks 133 = .ok (.lconst 0, 1) := by decide +kernel
theorem dX1_leaks_134 : decode cX1_leaks 134 = .ok (.lcmp, 1) := by decide +kernel
theorem dX1_leaks_135 : decode cX1_leaks 135 = .ok (.ifCond .le 34, 3) := by decide +kernel
theorem dX1_leaks_138 : decode cX1_leaks 138 = .ok (.ldc2_w 110, 3) := by decide +kernel
theorem dX1_leaks_141 : decode cX1_leaks 141 = .ok (.lload 6, 2) := by decide +kernel
theorem dX1_leaks_143 : decode cX1_leaks 143 = .ok (.lload 8, 2) := by decide +kernel
theorem dX1_leaks_145 : decode cX1_leaks 145 = .ok (.lmul, 1) := by decide +kernel
theorem dX1_leaks_146 : decode cX1_leaks 146 = .ok (.lload 10, 2) := by decide +kernel
theorem dX1_leaks_148 : decode cX1_leaks 148 = .ok (.lload 4, 2) := by decide +kernel
theorem dX1_leaks_150 : decode cX1_leaks 150 = .ok (.lmul, 1) := by decide +kernel
theorem dX1_leaks_151 : decode cX1_leaks 151 = .ok (.lsub, 1) := by decide +kernel
theorem dX1_leaks_152 : decode cX1_leaks 152 = .ok (.lmul, 1) := by decide +kernel
theorem dX1_leaks_153 : decode cX1_leaks 153 = .ok (.iload_n 3, 1) := by decide +kernel
theorem dX1_leaks_154 : decode cX1_leaks 154 = .ok (.i2l, 1) := by decide +kernel
theorem dX1_leaks_155 : decode cX1_leaks 155 = .ok (.lload 4, 2) := by decide +kernel
theorem dX1_leaks_157 : decode cX1_leaks 157 = .ok (.lmul, 1) := by decide +kernel
theorem dX1_leaks_158 : decode cX1_leaks 158 = .ok (.lload 8, 2) := by decide +kernel
theorem dX1_leaks_160 : decode cX1_leaks 160 = .ok (.lmul, 1) := by decide +kernel
theorem dX1_leaks_161 : decode cX1_leaks 161 = .ok (.lcmp, 1) := by decide +kernel
theorem dX1_leaks_162 : decode cX1_leaks 162 = .ok (.ifCond .le 7, 3) := by decide +kernel
theorem dX1_leaks_165 : decode cX1_leaks 165 = .ok (.iconst 1, 1) := by decide +kernel
theorem dX1_leaks_166 : decode cX1_leaks 166 = .ok (.goto 4, 3) := by decide +kernel
theorem dX1_leaks_169 : decode cX1_leaks 169 = .ok (.iconst 0, 1) := by decide +kernel
theorem dX1_leaks_170 : decode cX1_leaks 170 = .ok (.ireturn, 1) := by decide +kernel
theorem dX1_leaky_0 : decode cX1_leaky 0 = .ok (.aload_n 0, 1) := by decide +kernel
theorem dX1_leaky_1 : decode cX1_leaky 1 = .ok (.iload_n 1, 1) := by decide +kernel
theorem dX1_leaky_2 : decode cX1_leaky 2 = .ok (.invokevirtual 59, 3) := by decide +kernel
theorem dX1_leaky_5 : decode cX1_leaky 5 = .ok (.ifCond .eq 13, 3) := by decide +kernel
theorem dX1_leaky_8 : decode cX1_leaky 8 = .ok (.aload_n 0, 1) := by decide +kernel
theorem dX1_leaky_9 : decode cX1_leaky 9 = .ok (.iload_n 2, 1) := by decide +kernel
theorem dX1_leaky_10 : decode cX1_leaky 10 = .ok (.iconst 0, 1) := by decide +kernel
theorem dX1_leaky_11 : decode cX1_leaky 11 = .ok (.iconst 3, 1) := by decide +kernel
theorem dX1_leaky_12 : decode cX1_leaky 12 = .ok (.invokevirtual 51, 3) := by decide +kernel
theorem dX1_leaky_15 : decode cX1_leaky 15 = .ok (.ifCond .ne 5, 3) := by decide +kernel
theorem dX1_leaky_18 : decode cX1_leaky 18 = .ok (.iconst (-1), 1) := by decide +kernel
theorem dX1_leaky_19 : decode cX1_leaky 19 = .ok (.ireturn, 1) := by decide +kernel
theorem dX1_leaky_20 : decode cX1_leaky 20 = .ok (.aload_n 0, 1) := by decide +kernel
theorem dX1_leaky_21 : decode cX1_leaky 21 = .ok (.iload_n 3, 1) := by decide +kernel
theorem dX1_leaky_22 : decode cX1_leaky 22 = .ok (.iconst 1, 1) := by decide +kernel
theorem dX1_leaky_23 : decode cX1_leaky 23 = .ok (.bipush 100, 2) := by decide +kernel
theorem dX1_leaky_25 : decode cX1_leaky 25 = .ok (.invokevirtual 51, 3) := by decide +kernel
theorem dX1_leaky_28 : decode cX1_leaky 28 = .ok (.ifCond .ne 6, 3) := by decide +kernel
theorem dX1_leaky_31 : decode cX1_leaky 31 = .ok (.bipush (-2), 2) := by decide +kernel
theorem dX1_leaky_33 : decode cX1_leaky 33 = .ok (.ireturn, 1) := by decide +kernel
theorem dX1_leaky_34 : decode cX1_leaky 34 = .ok (.aload_n 0, 1) := by decide +kernel
theorem dX1_leaky_35 : decode cX1_leaky 35 = .ok (.iload_n 1, 1) := by decide +kernel
theorem dX1_leaky_36 : decode cX1_leaky 36 = .ok (.iload_n 2, 1) := by decide +kernel
theorem dX1_leaky_37 : decode cX1_leaky 37 = .ok (.iload_n 3, 1) := by decide +kernel
theorem dX1_leaky_38 : decode cX1_leaky 38 = .ok (.invokevirtual 112, 3) := by decide +kernel
theorem dX1_leaky_41 : decode cX1_leaky 41 = .ok (.ifCond .eq 7, 3) := by decide +kernel
theorem dX1_leaky_44 : decode cX1_leaky 44 = .ok (.iconst 1, 1) := by decide +kernel
theorem dX1_leaky_45 : decode cX1_leaky 45 = .ok (.goto 4, 3) := by decide +kernel
theorem dX1_leaky_48 : decode cX1_leaky 48 = .ok (.iconst 0, 1) := by decide +kernel
theorem dX1_leaky_49 : decode cX1_leaky 49 = .ok (.ireturn, 1) := by decide +kernel
theorem dX1_leak_0 : decode cX1_leak 0 = .ok (.iload_n 2, 1) := by decide +kernel
theorem dX1_leak_1 : decode cX1_leak 1 = .ok (.ifCond .ge 5, 3) := by decide +kernel
theorem dX1_leak_4 : decode cX1_leak 4 = .ok (.iconst (-1), 1) := by decide +kernel
theorem dX1_leak_5 : decode cX1_leak 5 = .ok (.ireturn, 1) := by decide +kernel
theorem dX1_leak_6 : decode cX1_leak 6 = .ok (.aload_n 0, 1) := by decide +kernel
theorem dX1_leak_7 : decode cX1_leak 7 = .ok (.iload_n 1, 1) := by decide +kernel
theorem dX1_leak_8 : decode cX1_leak 8 = .ok (.iconst 1, 1) := by decide +kernel
theorem dX1_leak_9 : decode cX1_leak 9 = .ok (.bipush 100, 2) := by decide +kernel
theorem dX1_leak_11 : decode cX1_leak 11 = .ok (.invokevirtual 51, 3) := by decide +kernel
theorem dX1_leak_14 : decode cX1_leak 14 = .ok (.ifCond .ne 6, 3) := by decide +kernel
theorem dX1_leak_17 : decode cX1_leak 17 = .ok (.bipush (-2), 2) := by decide +kernel
theorem dX1_leak_19 : decode cX1_leak 19 = .ok (.ireturn, 1) := by decide +kernel
theorem dX1_leak_20 : decode cX1_leak 20 = .ok (.iload_n 2, 1) := by decide +kernel
theorem dX1_leak_21 : decode cX1_leak 21 = .ok (.istore_n 3, 1) := by decide +kernel
theorem dX1_leak_22 : decode cX1_leak 22 = .ok (.iconst 0, 1) := by decide +kernel
theorem dX1_leak_23 : decode cX1_leak 23 = .ok (.istore 4, 2) := by decide +kernel
theorem dX1_leak_25 : decode cX1_leak 25 = .ok (.iload 4, 2) := by decide +kernel
theorem dX1_leak_27 : decode cX1_leak 27 = .ok (.iconst 4, 1) := by decide +kernel
theorem dX1_leak_28 : decode cX1_leak 28 = .ok (.aload_n 0, 1) := by decide +kernel
theorem dX1_leak_29 : decode cX1_leak 29 = .ok (.getfield 7, 3) := by decide +kernel
theorem dX1_leak_32 : decode cX1_leak 32 = .ok (.imul, 1) := by decide +kernel
theorem dX1_leak_33 : decode cX1_leak 33 = .ok (.if_icmp .ge 38, 3) := by decide +kernel
theorem dX1_leak_36 : decode cX1_leak 36 = .ok (.aload_n 0, 1) := by decide +kernel
theorem dX1_leak_37 : decode cX1_leak 37 = .ok (.iload 4, 2) := by decide +kernel
theorem dX1_leak_39 : decode cX1_leak 39 = .ok (.iconst 4, 1) := by decide +kernel
theorem dX1_leak_40 : decode cX1_leak 40 = .ok (.idiv, 1) := by decide +kernel
theorem dX1_leak_41 : decode cX1_leak 41 = .ok (.iload 4, 2) := by decide +kernel
theorem dX1_leak_43 : decode cX1_leak 43 = .ok (.iconst 4, 1) := by decide +kernel
theorem dX1_leak_44 : decode cX1_leak 44 = .ok (.irem, 1) := by decide +kernel
theorem dX1_leak_45 : decode cX1_leak 45 = .ok (.iload_n 1, 1) := by decide +kernel
theorem dX1_leak_46 : decode cX1_leak 46 = .ok (.invokevirtual 112, 3) := by decide +kernel
theorem dX1_leak_49 : decode cX1_leak 49 = .ok (.ifCond .ne 6, 3) := by decide +kernel
theorem dX1_leak_52 : decode cX1_leak 52 = .ok (.goto 13, 3) := by decide +kernel
theorem dX1_leak_55 : decode cX1_leak 55 = .ok (.iload_n 3, 1) := by decide +kernel
theorem dX1_leak_56 : decode cX1_leak 56 = .ok (.ifCond .ne 6, 3) := by decide +kernel
theorem dX1_leak_59 : decode cX1_leak 59 = .ok (.iload 4, 2) := by decide +kernel
theorem dX1_leak_61 : decode cX1_leak 61 = .ok (.ireturn, 1) := by decide +kernel
theorem dX1_leak_62 : decode cX1_leak 62 = .ok (.iinc 3 (-1), 3) := by decide +kernel
theorem dX1_leak_65 : decode cX1_leak 65 = .ok (.iinc 4 1, 3) := by decide +kernel
theorem dX1_leak_68 : decode cX1_leak 68 = .ok (.goto (-43), 3) := by decide +kernel
theorem dX1_leak_71 : decode cX1_leak 71 = .ok (.iconst (-1), 1) := by decide +kernel
theorem dX1_leak_72 : decode cX1_leak 72 = .ok (.ireturn, 1) := by decide +kernel
theorem dX1_isShared_0 : decode cX1_isShared 0 = .ok (.aload_n 0, 1) := by decide +kernel
theorem dX1_isShared_1 : decode cX1_isShared 1 = .ok (.aload_n 0, 1) := by decide +kernel
theorem dX1_isShared_2 : decode cX1_isShared 2 = .ok (.getfield 33, 3) := by decide +kernel
theorem dX1_isShared_5 : decode cX1_isShared 5 = .ok (.bipush 12, 2) := by decide +kernel
theorem dX1_isShared_7 : decode cX1_isShared 7 = .ok (.iload_n 1, 1) := by decide +kernel
theorem dX1_isShared_8 : decode cX1_isShared 8 = .ok (.imul, 1) := by decide +kernel
theorem dX1_isShared_9 : decode cX1_isShared 9 = .ok (.iload_n 2, 1) := by decide +kernel
theorem dX1_isShared_10 : decode cX1_isShared 10 = .ok (.iadd, 1) := by decide +kernel
theorem dX1_isShared_11 : decode cX1_isShared 11 = .ok (.iaload, 1) := by decide +kernel
theorem dX1_isShared_12 : decode cX1_isShared 12 = .ok (.invokevirtual 94, 3) := by decide +kernel
theorem dX1_isShared_15 : decode cX1_isShared 15 = .ok (.ifCond .eq 26, 3) := by decide +kernel
theorem dX1_isShared_18 : decode cX1_isShared 18 = .ok (.aload_n 0, 1) := by decide +kernel
theorem dX1_isShared_19 : decode cX1_isShared 19 = .ok (.iload_n 3, 1) := by decide +kernel
theorem dX1_isShared_20 : decode cX1_isShared 20 = .ok (.aload_n 0, 1) := by decide +kernel
theorem dX1_isShared_21 : decode cX1_isShared 21 = .ok (.getfield 33, 3) := by decide +kernel
theorem dX1_isShared_24 : decode cX1_isShared 24 = .ok (.bipush 12, 2) := by decide +kernel
theorem dX1_isShared_26 : decode cX1_isShared 26 = .ok (.iload_n 1, 1) := by decide +kernel
theorem dX1_isShared_27 : decode cX1_isShared 27 = .ok (.imul, 1) := by decide +kernel
theorem dX1_isShared_28 : decode cX1_isShared 28 = .ok (.iload_n 2, 1) := by decide +kernel
theorem dX1_isShared_29 : decode cX1_isShared 29 = .ok (.iadd, 1) := by decide +kernel
theorem dX1_isShared_30 : decode cX1_isShared 30 = .ok (.iaload, 1) := by decide +kernel
theorem dX1_isShared_31 : decode cX1_isShared 31 = .ok (.invokevirtual 66, 3) := by decide +kernel
theorem dX1_isShared_34 : decode cX1_isShared 34 = .ok (.ifCond .lt 7, 3) := by decide +kernel
theorem dX1_isShared_37 : decode cX1_isShared 37 = .ok (.iconst 1, 1) := by decide +kernel
theorem dX1_isShared_38 : decode cX1_isShared 38 = .ok (.goto 4, 3) := by decide +kernel
theorem dX1_isShared_41 : decode cX1_isShared 41 = .ok (.iconst 0, 1) := by decide +kernel
theorem dX1_isShared_42 : decode cX1_isShared 42 = .ok (.ireturn, 1) := by decide +kernel
theorem dX1_sharedMany_0 : decode cX1_sharedMany 0 = .ok (.iconst 0, 1) := by decide +kernel
theorem dX1_sharedMany_1 : decode cX1_sharedMany 1 = .ok (.istore_n 3, 1) := by decide +kernel
theorem dX1_sharedMany_2 : decode cX1_sharedMany 2 = .ok (.iconst 0, 1) := by decide +kernel
theorem dX1_sharedMany_3 : decode cX1_sharedMany 3 = .ok (.istore 4, 2) := by decide +kernel
theorem dX1_sharedMany_5 : decode cX1_sharedMany 5 = .ok (.iload 4, 2) := by decide +kernel
theorem dX1_sharedMany_7 : decode cX1_sharedMany 7 = .ok (.aload_n 0, 1) := by decide +kernel
theorem dX1_sharedMany_8 : decode cX1_sharedMany 8 = .ok (.getfield 36, 3) := by decide +kernel
theorem dX1_sharedMany_11 : decode cX1_sharedMany 11 = .ok (.iload_n 1, 1) := by decide +kernel
theorem dX1_sharedMany_12 : decode cX1_sharedMany 12 = .ok (.iaload, 1) := by decide +kernel
theorem dX1_sharedMany_13 : decode cX1_sharedMany 13 = .ok (.if_icmp .ge 28, 3) := by decide +kernel
theorem dX1_sharedMany_16 : decode cX1_sharedMany 16 = .ok (.iload_n 3, 1) := by decide +kernel
theorem dX1_sharedMany_17 : decode cX1_sharedMany 17 = .ok (.aload_n 0, 1) := by decide +kernel
theorem dX1_sharedMany_18 : decode cX1_sharedMany 18 = .ok (.iload_n 1, 1) := by decide +kernel
theorem dX1_sharedMany_19 : decode cX1_sharedMany 19 = .ok (.iload 4, 2) := by decide +kernel
theorem dX1_sharedMany_21 : decode cX1_sharedMany 21 = .ok (.iload_n 2, 1) := by decide +kernel
theorem dX1_sharedMany_22 : decode cX1_sharedMany 22 = .ok (.invokevirtual 115, 3) := by decide +kernel
theorem dX1_sharedMany_25 : decode cX1_sharedMany 25 = .ok (.ifCond .eq 7, 3) := by decide +kernel
theorem dX1_sharedMany_28 : decode cX1_sharedMany 28 = .ok (.iconst 1, 1) := by decide +kernel
theorem dX1_sharedMany_29 : decode cX1_sharedMany 29 = .ok (.goto 4, 3) := by decide +kernel
theorem dX1_sharedMany_32 : decode cX1_sharedMany 32 = .ok (.iconst 0, 1) := by decide +kernel
theorem dX1_sharedMany_33 : decode cX1_sharedMany 33 = .ok (.iadd, 1) := by decide +kernel
theorem dX1_sharedMany_34 : decode cX1_sharedMany 34 = .ok (.istore_n 3, 1) := by decide +kernel
theorem dX1_sharedMany_35 : decode cX1_sharedMany 35 = .ok (.iinc 4 1, 3) := by decide +kernel
theorem dX1_sharedMany_38 : decode cX1_sharedMany 38 = .ok (.goto (-33), 3) := by decide +kernel
theorem dX1_sharedMany_41 : decode cX1_sharedMany 41 = .ok (.iload_n 3, 1) := by decide +kernel
theorem dX1_sharedMany_42 : decode cX1_sharedMany 42 = .ok (.ireturn, 1) := by decide +kernel
theorem dX1_shared_0 : decode cX1_shared 0 = .ok (.aload_n 0, 1) := by decide +kernel
theorem dX1_shared_1 : decode cX1_shared 1 = .ok (.iload_n 1, 1) := by decide +kernel
theorem dX1_shared_2 : decode cX1_shared 2 = .ok (.invokevirtual 63, 3) := by decide +kernel
theorem dX1_shared_5 : decode cX1_shared 5 = .ok (.ifCond .eq 11, 3) := by decide +kernel
theorem dX1_shared_8 : decode cX1_shared 8 = .ok (.aload_n 0, 1) := by decide +kernel
theorem dX1_shared_9 : decode cX1_shared 9 = .ok (.iload_n 2, 1) := by decide +kernel
theorem dX1_shared_10 : decode cX1_shared 10 = .ok (.invokevirtual 63, 3) := by decide +kernel
theorem dX1_shared_13 : decode cX1_shared 13 = .ok (.ifCond .ne 5, 3) := by decide +kernel
theorem dX1_shared_16 : decode cX1_shared 16 = .ok (.iconst (-1), 1) := by decide +kernel
theorem dX1_shared_17 : decode cX1_shared 17 = .ok (.ireturn, 1) := by decide +kernel
theorem dX1_shared_18 : decode cX1_shared 18 = .ok (.iload_n 1, 1) := by decide +kernel
theorem dX1_shared_19 : decode cX1_shared 19 = .ok (.iload_n 2, 1) := by decide +kernel
theorem dX1_shared_20 : decode cX1_shared 20 = .ok (.if_icmp .ne 8, 3) := by decide +kernel
theorem dX1_shared_23 : decode cX1_shared 23 = .ok (.bipush (-2), 2) := by decide +kernel
theorem dX1_shared_25 : decode cX1_shared 25 = .ok (.goto 9, 3) := by decide +kernel
theorem dX1_shared_28 : decode cX1_shared 28 = .ok (.aload_n 0, 1) := by decide +kernel
theorem dX1_shared_29 : decode cX1_shared 29 = .ok (.iload_n 1, 1) := by decide +kernel
theorem dX1_shared_30 : decode cX1_shared 30 = .ok (.iload_n 2, 1) := by decide +kernel
theorem dX1_shared_31 : decode cX1_shared 31 = .ok (.invokevirtual 118, 3) := by decide +kernel
theorem dX1_shared_34 : decode cX1_shared 34 = .ok (.ireturn, 1) := by decide +kernel
theorem dX1_sharedSum_0 : decode cX1_sharedSum 0 = .ok (.iconst 0, 1) := by decide +kernel
theorem dX1_sharedSum_1 : decode cX1_sharedSum 1 = .ok (.istore_n 3, 1) := by decide +kernel
theorem dX1_sharedSum_2 : decode cX1_sharedSum 2 = .ok (.iconst 0, 1) := by decide +kernel
theorem dX1_sharedSum_3 : decode cX1_sharedSum 3 = .ok (.istore 4, 2) := by decide +kernel
theorem dX1_sharedSum_5 : decode cX1_sharedSum 5 = .ok (.iload 4, 2) := by decide +kernel
theorem dX1_sharedSum_7 : decode cX1_sharedSum 7 = .ok (.aload_n 0, 1) := by decide +kernel
theorem dX1_sharedSum_8 : decode cX1_sharedSum 8 = .ok (.getfield 36, 3) := by decide +kernel
theorem dX1_sharedSum_11 : decode cX1_sharedSum 11 = .ok (.aload_n 0, 1) := by decide +kernel
theorem dX1_sharedSum_12 : decode cX1_sharedSum 12 = .ok (.getfield 39, 3) := by decide +kernel
theorem dX1_sharedSum_15 : decode cX1_sharedSum 15 = .ok (.iload_n 1, 1) := by decide +kernel
theorem dX1_sharedSum_16 : decode cX1_sharedSum 16 = .ok (.iaload, 1) := by decide +kernel
theorem dX1_sharedSum_17 : decode cX1_sharedSum 17 = .ok (.iaload, 1) := by decide +kernel
theorem dX1_sharedSum_18 : decode cX1_sharedSum 18 = .ok (.if_icmp .ge 39, 3) := by decide +kernel
theorem dX1_sharedSum_21 : decode cX1_sharedSum 21 = .ok (.iload_n 3, 1) := by decide +kernel
theorem dX1_sharedSum_22 : decode cX1_sharedSum 22 = .ok (.aload_n 0, 1) := by decide +kernel
theorem dX1_sharedSum_23 : decode cX1_sharedSum 23 = .ok (.aload_n 0, 1) := by decide +kernel
theorem dX1_sharedSum_24 : decode cX1_sharedSum 24 = .ok (.getfield 39, 3) := by decide +kernel
theorem dX1_sharedSum_27 : decode cX1_sharedSum 27 = .ok (.iload_n 1, 1) := by decide +kernel
theorem dX1_sharedSum_28 : decode cX1_sharedSum 28 = .ok (.iaload, 1) := by decide +kernel
theorem dX1_sharedSum_29 : decode cX1_sharedSum 29 = .ok (.iload 4, 2) := by decide +kernel
theorem dX1_sharedSum_31 : decode cX1_sharedSum 31 = .ok (.iload_n 2, 1) := by decide +kernel
theorem dX1_sharedSum_32 : decode cX1_sharedSum 32 = .ok (.invokevirtual 115, 3) := by decide +kernel
theorem dX1_sharedSum_35 : decode cX1_sharedSum 35 = .ok (.ifCond .eq 13, 3) := by decide +kernel
theorem dX1_sharedSum_38 : decode cX1_sharedSum 38 = .ok (.aload_n 0, 1) := by decide +kernel
theorem dX1_sharedSum_39 : decode cX1_sharedSum 39 = .ok (.iload_n 1, 1) := by decide +kernel
theorem dX1_sharedSum_40 : decode cX1_sharedSum 40 = .ok (.iload 4, 2) := by decide +kernel
theorem dX1_sharedSum_42 : decode cX1_sharedSum 42 = .ok (.invokevirtual 88, 3) := by decide +kernel
theorem dX1_sharedSum_45 : decode cX1_sharedSum 45 = .ok (.goto 4, 3) := by decide +kernel
theorem dX1_sharedSum_48 : decode cX1_sharedSum 48 = .ok (.iconst 0, 1) := by decide +kernel
theorem dX1_sharedSum_49 : decode cX1_sharedSum 49 = .ok (.iadd, 1) := by decide +kernel
theorem dX1_sharedSum_50 : decode cX1_sharedSum 50 = .ok (.istore_n 3, 1) := by decide +kernel
theorem dX1_sharedSum_51 : decode cX1_sharedSum 51 = .ok (.iinc 4 1, 3) := by decide +kernel
theorem dX1_sharedSum_54 : decode cX1_sharedSum 54 = .ok (.goto (-49), 3) := by decide +kernel
theorem dX1_sharedSum_57 : decode cX1_sharedSum 57 = .ok (.iload_n 3, 1) := by decide +kernel
theorem dX1_sharedSum_58 : decode cX1_sharedSum 58 = .ok (.ireturn, 1) := by decide +kernel
theorem dX1_sum_0 : decode cX1_sum 0 = .ok (.aload_n 0, 1) := by decide +kernel
theorem dX1_sum_1 : decode cX1_sum 1 = .ok (.iload_n 1, 1) := by decide +kernel
theorem dX1_sum_2 : decode cX1_sum 2 = .ok (.invokevirtual 74, 3) := by decide +kernel
theorem dX1_sum_5 : decode cX1_sum 5 = .ok (.ifCond .eq 11, 3) := by decide +kernel
theorem dX1_sum_8 : decode cX1_sum 8 = .ok (.aload_n 0, 1) := by decide +kernel
theorem dX1_sum_9 : decode cX1_sum 9 = .ok (.iload_n 2, 1) := by decide +kernel
theorem dX1_sum_10 : decode cX1_sum 10 = .ok (.invokevirtual 63, 3) := by decide +kernel
theorem dX1_sum_13 : decode cX1_sum 13 = .ok (.ifCond .ne 5, 3) := by decide +kernel
theorem dX1_sum_16 : decode cX1_sum 16 = .ok (.iconst (-1), 1) := by decide +kernel
theorem dX1_sum_17 : decode cX1_sum 17 = .ok (.ireturn, 1) := by decide +kernel
theorem dX1_sum_18 : decode cX1_sum 18 = .ok (.aload_n 0, 1) := by decide +kernel
theorem dX1_sum_19 : decode cX1_sum 19 = .ok (.getfield 39, 3) := by decide +kernel
theorem dX1_sum_22 : decode cX1_sum 22 = .ok (.iload_n 1, 1) := by decide +kernel
theorem dX1_sum_23 : decode cX1_sum 23 = .ok (.iaload, 1) := by decide +kernel
theorem dX1_sum_24 : decode cX1_sum 24 = .ok (.iload_n 2, 1) := by decide +kernel
theorem dX1_sum_25 : decode cX1_sum 25 = .ok (.if_icmp .ne 8, 3) := by decide +kernel
theorem dX1_sum_28 : decode cX1_sum 28 = .ok (.bipush (-2), 2) := by decide +kernel
theorem dX1_sum_30 : decode cX1_sum 30 = .ok (.goto 9, 3) := by decide +kernel
theorem dX1_sum_33 : decode cX1_sum 33 = .ok (.aload_n 0, 1) := by decide +kernel
theorem dX1_sum_34 : decode cX1_sum 34 = .ok (.iload_n 1, 1) := by decide +kernel
theorem dX1_sum_35 : decode cX1_sum 35 = .ok (.iload_n 2, 1) := by decide +kernel
theorem dX1_sum_36 : decode cX1_sum 36 = .ok (.invokevirtual 121, 3) := by decide +kernel
theorem dX1_sum_39 : decode cX1_sum 39 = .ok (.ireturn, 1) := by decide +kernel
theorem dX1_valueOf_0 : decode cX1_valueOf 0 = .ok (.aload_n 0, 1) := by decide +kernel
theorem dX1_valueOf_1 : decode cX1_valueOf 1 = .ok (.getfield 39, 3) := by decide +kernel
theorem dX1_valueOf_4 : decode cX1_valueOf 4 = .ok (.iload_n 1, 1) := by decide +kernel
theorem dX1_valueOf_5 : decode cX1_valueOf 5 = .ok (.iaload, 1) := by decide +kernel
theorem dX1_valueOf_6 : decode cX1_valueOf 6 = .ok (.iload_n 2, 1) := by decide +kernel
theorem dX1_valueOf_7 : decode cX1_valueOf 7 = .ok (.if_icmp .ne 12, 3) := by decide +kernel
theorem dX1_valueOf_10 : decode cX1_valueOf 10 = .ok (.aload_n 0, 1) := by decide +kernel
theorem dX1_valueOf_11 : decode cX1_valueOf 11 = .ok (.iload_n 1, 1) := by decide +kernel
theorem dX1_valueOf_12 : decode cX1_valueOf 12 = .ok (.invokevirtual 97, 3) := by decide +kernel
theorem dX1_valueOf_15 : decode cX1_valueOf 15 = .ok (.i2l, 1) := by decide +kernel
theorem dX1_valueOf_16 : decode cX1_valueOf 16 = .ok (.goto 10, 3) := by decide +kernel
theorem dX1_valueOf_19 : decode cX1_valueOf 19 = .ok (.aload_n 0, 1) := by decide +kernel
theorem dX1_valueOf_20 : decode cX1_valueOf 20 = .ok (.iload_n 1, 1) := by decide +kernel
theorem dX1_valueOf_21 : decode cX1_valueOf 21 = .ok (.iload_n 2, 1) := by decide +kernel
theorem dX1_valueOf_22 : decode cX1_valueOf 22 = .ok (.invokevirtual 121, 3) := by decide +kernel
theorem dX1_valueOf_25 : decode cX1_valueOf 25 = .ok (.i2l, 1) := by decide +kernel
theorem dX1_valueOf_26 : decode cX1_valueOf 26 = .ok (.lreturn, 1) := by decide +kernel
theorem dX1_sumOf_0 : decode cX1_sumOf 0 = .ok (.lconst 0, 1) := by decide +kernel
theorem dX1_sumOf_1 : decode cX1_sumOf 1 = .ok (.lstore_n 3, 1) := by decide +kernel
theorem dX1_sumOf_2 : decode cX1_sumOf 2 = .ok (.iconst 0, 1) := by decide +kernel
theorem dX1_sumOf_3 : decode cX1_sumOf 3 = .ok (.istore 5, 2) := by decide +kernel
theorem dX1_sumOf_5 : decode cX1_sumOf 5 = .ok (.iload 5, 2) := by decide +kernel
theorem dX1_sumOf_7 : decode cX1_sumOf 7 = .ok (.aload_n 0, 1) := by decide +kernel
theorem dX1_sumOf_8 : decode cX1_sumOf 8 = .ok (.getfield 16, 3) := by decide +kernel
theorem dX1_sumOf_11 : decode cX1_sumOf 11 = .ok (.if_icmp .ge 34, 3) := by decide +kernel
theorem dX1_sumOf_14 : decode cX1_sumOf 14 = .ok (.lload_n 3, 1) := by decide +kernel
theorem dX1_sumOf_15 : decode cX1_sumOf 15 = .ok (.aload_n 0, 1) := by decide +kernel
theorem dX1_sumOf_16 : decode cX1_sumOf 16 = .ok (.getfield 39, 3) := by decide +kernel
theorem dX1_sumOf_19 : decode cX1_sumOf 19 = .ok (.iload 5, 2) := by decide +kernel
theorem dX1_sumOf_21 : decode cX1_sumOf 21 = .ok (.iaload, 1) := by decide +kernel
theorem dX1_sumOf_22 : decode cX1_sumOf 22 = .ok (.iload_n 1, 1) := by decide +kernel
theorem dX1_sumOf_23 : decode cX1_sumOf 23 = .ok (.if_icmp .ne 13, 3) := by decide +kernel
theorem dX1_sumOf_26 : decode cX1_sumOf 26 = .ok (.aload_n 0, 1) := by decide +kernel
theorem dX1_sumOf_27 : decode cX1_sumOf 27 = .ok (.iload 5, 2) := by decide +kernel
theorem dX1_sumOf_29 : decode cX1_sumOf 29 = .ok (.iload_n 2, 1) := by decide +kernel
theorem dX1_sumOf_30 : decode cX1_sumOf 30 = .ok (.invokevirtual 124, 3) := by decide +kernel
theorem dX1_sumOf_33 : decode cX1_sumOf 33 = .ok (.goto 4, 3) := by decide +kernel
theorem dX1_sumOf_36 : decode cX1_sumOf 36 = .ok (.lconst 0, 1) := by decide +kernel
theorem dX1_sumOf_37 : decode cX1_sumOf 37 = .ok (.ladd, 1) := by decide +kernel
theorem dX1_sumOf_38 : decode cX1_sumOf 38 = .ok (.lstore_n 3, 1) := by decide +kernel
theorem dX1_sumOf_39 : decode cX1_sumOf 39 = .ok (.iinc 5 1, 3) := by decide +kernel
theorem dX1_sumOf_42 : decode cX1_sumOf 42 = .ok (.goto (-37), 3) := by decide +kernel
theorem dX1_sumOf_45 : decode cX1_sumOf 45 = .ok (.lload_n 3, 1) := by decide +kernel
theorem dX1_sumOf_46 : decode cX1_sumOf 46 = .ok (.lreturn, 1) := by decide +kernel
theorem dX1_away_0 : decode cX1_away 0 = .ok (.aload_n 0, 1) := by decide +kernel
theorem dX1_away_1 : decode cX1_away 1 = .ok (.iload_n 1, 1) := by decide +kernel
theorem dX1_away_2 : decode cX1_away 2 = .ok (.invokevirtual 70, 3) := by decide +kernel
theorem dX1_away_5 : decode cX1_away 5 = .ok (.i2l, 1) := by decide +kernel
theorem dX1_away_6 : decode cX1_away 6 = .ok (.lstore_n 3, 1) := by decide +kernel
theorem dX1_away_7 : decode cX1_away 7 = .ok (.aload_n 0, 1) := by decide +kernel
theorem dX1_away_8 : decode cX1_away 8 = .ok (.iload_n 1, 1) := by decide +kernel
theorem dX1_away_9 : decode cX1_away 9 = .ok (.iload_n 2, 1) := by decide +kernel
theorem dX1_away_10 : decode cX1_away 10 = .ok (.invokevirtual 128, 3) := by decide +kernel
theorem dX1_away_13 : decode cX1_away 13 = .ok (.lstore 5, 2) := by decide +kernel
theorem dX1_away_15 : decode cX1_away 15 = .ok (.lconst 0, 1) := by decide +kernel
theorem dX1_away_16 : decode cX1_away 16 = .ok (.lstore 7, 2) := by decide +kernel
theorem dX1_away_18 : decode cX1_away 18 = .ok (.iconst 0, 1) := by decide +kernel
theorem dX1_away_19 : decode cX1_away 19 = .ok (.istore 9, 2) := by decide +kernel
theorem dX1_away_21 : decode cX1_away 21 = .ok (.iload 9, 2) := by decide +kernel
theorem dX1_away_23 : decode cX1_away 23 = .ok (.aload_n 0, 1) := by decide +kernel
theorem dX1_away_24 : decode cX1_away 24 = .ok (.getfield 16, 3) := by decide +kernel
theorem dX1_away_27 : decode cX1_away 27 = .ok (.if_icmp .ge 57, 3) := by decide +kernel
theorem dX1_away_30 : decode cX1_away 30 = .ok (.aload_n 0, 1) := by decide +kernel
theorem dX1_away_31 : decode cX1_away 31 = .ok (.getfield 39, 3) := by decide +kernel
theorem dX1_away_34 : decode cX1_away 34 = .ok (.iload 9, 2) := by decide +kernel
theorem dX1_away_36 : decode cX1_away 36 = .ok (.iaload, 1) := by decide +kernel
theorem dX1_away_37 : decode cX1_away 37 = .ok (.iload_n 1, 1) := by decide +kernel
theorem dX1_away_38 : decode cX1_away 38 = .ok (.if_icmp .eq 6, 3) := by decide +kernel
theorem dX1_away_41 : decode cX1_away 41 = .ok (.goto 37, 3) := by decide +kernel
theorem dX1_away_44 : decode cX1_away 44 = .ok (.lload_n 3, 1) := by decide +kernel
theorem dX1_away_45 : decode cX1_away 45 = .ok (.aload_n 0, 1) := by decide +kernel
theorem dX1_away_46 : decode cX1_away 46 = .ok (.iload 9, 2) := by decide +kernel
theorem dX1_away_48 : decode cX1_away 48 = .ok (.iload_n 2, 1) := by decide +kernel
theorem dX1_away_49 : decode cX1_away 49 = .ok (.invokevirtual 124, 3) := by decide +kernel
theorem dX1_away_52 : decode cX1_away 52 = .ok (.lmul, 1) := by decide +kernel
theorem dX1_away_53 : decode cX1_away 53 = .ok (.lload 5, 2) := by decide +kernel
theorem dX1_away_55 : decode cX1_away 55 = .ok (.lsub, 1) := by decide +kernel
theorem dX1_away_56 : decode cX1_away 56 = .ok (.lstore 10, 2) := by decide +kernel
theorem dX1_away_58 : decode cX1_away 58 = .ok (.lload 7, 2) := by decide +kernel
theorem dX1_away_60 : decode cX1_away 60 = .ok (.lload 10, 2) := by decide +kernel
theorem dX1_away_62 : decode cX1_away 62 = .ok (.lconst 0, 1) := by decide +kernel
theorem dX1_away_63 : decode cX1_away 63 = .ok (.lcmp, 1) := by decide +kernel
theorem dX1_away_64 : decode cX1_away 64 = .ok (.ifCond .ge 9, 3) := by decide +kernel
theorem dX1_away_67 : decode cX1_away 67 = .ok (.lload 10, 2) := by decide +kernel
theorem dX1_away_69 : decode cX1_away 69 = .ok (.lneg, 1) := by decide +kernel
theorem dX1_away_70 : decode cX1_away 70 = .ok (.goto 5, 3) := by decide +kernel
theorem dX1_away_73 : decode cX1_away 73 = .ok (.lload 10, 2) := by decide +kernel
theorem dX1_away_75 : decode cX1_away 75 = .ok (.ladd, 1) := by decide +kernel
theorem dX1_away_76 : decode cX1_away 76 = .ok (.lstore 7, 2) := by decide +kernel
theorem dX1_away_78 : decode cX1_away 78 = .ok (.iinc 9 1, 3) := by decide +kernel
theorem dX1_away_81 : decode cX1_away 81 = .ok (.goto (-60), 3) := by decide +kernel
theorem dX1_away_84 : decode cX1_away 84 = .ok (.lload 7, 2) := by decide +kernel
theorem dX1_away_86 : decode cX1_away 86 = .ok (.lreturn, 1) := by decide +kernel
theorem dX1_group_0 : decode cX1_group 0 = .ok (.aload_n 0, 1) := by decide +kernel
theorem dX1_group_1 : decode cX1_group 1 = .ok (.iload_n 1, 1) := by decide +kernel
theorem dX1_group_2 : decode cX1_group 2 = .ok (.invokevirtual 63, 3) := by decide +kernel
theorem dX1_group_5 : decode cX1_group 5 = .ok (.ifCond .eq 21, 3) := by decide +kernel
theorem dX1_group_8 : decode cX1_group 8 = .ok (.aload_n 0, 1) := by decide +kernel
theorem dX1_group_9 : decode cX1_group 9 = .ok (.iload_n 2, 1) := by decide +kernel
theorem dX1_group_10 : decode cX1_group 10 = .ok (.invokevirtual 63, 3) := by decide +kernel
theorem dX1_group_13 : decode cX1_group 13 = .ok (.ifCond .eq 13, 3) := by decide +kernel
theorem dX1_group_16 : decode cX1_group 16 = .ok (.aload_n 0, 1) := by decide +kernel
theorem dX1_group_17 : decode cX1_group 17 = .ok (.iload_n 3, 1) := by decide +kernel
theorem dX1_group_18 : decode cX1_group 18 = .ok (.iconst 0, 1) := by decide +kernel
theorem dX1_group_19 : decode cX1_group 19 = .ok (.iconst 2, 1) := by decide +kernel
theorem dX1_group_20 : decode cX1_group 20 = .ok (.invokevirtual 51, 3) := by decide +kernel
theorem dX1_group_23 : decode cX1_group 23 = .ok (.ifCond .ne 7, 3) := by decide +kernel
theorem dX1_group_26 : decode cX1_group 26 = .ok (.ldc2_w 104, 3) := by decide +kernel
theorem dX1_group_29 : decode cX1_group 29 = .ok (.lreturn, 1) := by decide +kernel
theorem dX1_group_30 : decode cX1_group 30 = .ok (.iload_n 3, 1) := by decide +kernel
theorem dX1_group_31 : decode cX1_group 31 = .ok (.ifCond .ne 12, 3) := by decide +kernel
theorem dX1_group_34 : decode cX1_group 34 = .ok (.aload_n 0, 1) := by decide +kernel
theorem dX1_group_35 : decode cX1_group 35 = .ok (.iload_n 1, 1) := by decide +kernel
theorem dX1_group_36 : decode cX1_group 36 = .ok (.invokevirtual 70, 3) := by decide +kernel
theorem dX1_group_39 : decode cX1_group 39 = .ok (.i2l, 1) := by decide +kernel
theorem dX1_group_40 : decode cX1_group 40 = .ok (.goto 23, 3) := by decide +kernel
theorem dX1_group_43 : decode cX1_group 43 = .ok (.iload_n 3, 1) := by decide +kernel
theorem dX1_group_44 : decode cX1_group 44 = .ok (.iconst 1, 1) := by decide +kernel
theorem dX1_group_45 : decode cX1_group 45 = .ok (.if_icmp .ne 12, 3) := by decide +kernel
theorem dX1_group_48 : decode cX1_group 48 = .ok (.aload_n 0, 1) := by decide +kernel
theorem dX1_group_49 : decode cX1_group 49 = .ok (.iload_n 1, 1) := by decide +kernel
theorem dX1_group_50 : decode cX1_group 50 = .ok (.iload_n 2, 1) := by decide +kernel
theorem dX1_group_51 : decode cX1_group 51 = .ok (.invokevirtual 128, 3) := by decide +kernel
theorem dX1_group_54 : decode cX1_group 54 = .ok (.goto 9, 3) := by decide +kernel
theorem dX1_group_57 : decode cX1_group 57 = .ok (.aload_n 0, 1) := by decide +kernel
theorem dX1_group_58 : decode cX1_group 58 = .ok (.iload_n 1, 1) := by decide +kernel
theorem dX1_group_59 : decode cX1_group 59 = .ok (.iload_n 2, 1) := by decide +kernel
theorem dX1_group_60 : decode cX1_group 60 = .ok (.invokevirtual 131, 3) := by decide +kernel
theorem dX1_group_63 : decode cX1_group 63 = .ok (.lreturn, 1) := by decide +kernel
theorem dX1_scale_0 : decode cX1_scale 0 = .ok (.aload_n 0, 1) := by decide +kernel
theorem dX1_scale_1 : decode cX1_scale 1 = .ok (.iload_n 1, 1) := by decide +kernel
theorem dX1_scale_2 : decode cX1_scale 2 = .ok (.invokevirtual 63, 3) := by decide +kernel
theorem dX1_scale_5 : decode cX1_scale 5 = .ok (.ifCond .eq 38, 3) := by decide +kernel
theorem dX1_scale_8 : decode cX1_scale 8 = .ok (.aload_n 0, 1) := by decide +kernel
theorem dX1_scale_9 : decode cX1_scale 9 = .ok (.iload_n 2, 1) := by decide +kernel
theorem dX1_scale_10 : decode cX1_scale 10 = .ok (.invokevirtual 63, 3) := by decide +kernel
theorem dX1_scale_13 : decode cX1_scale 13 = .ok (.ifCond .eq 30, 3) := by decide +kernel
theorem dX1_scale_16 : decode cX1_scale 16 = .ok (.iload_n 1, 1) := by decide +kernel
theorem dX1_scale_17 : decode cX1_scale 17 = .ok (.iload_n 2, 1) := by decide +kernel
theorem dX1_scale_18 : decode cX1_scale 18 = .ok (.if_icmp .eq 25, 3) := by decide +kernel
theorem dX1_scale_21 : decode cX1_scale 21 = .ok (.aload_n 0, 1) := by decide +kernel
theorem dX1_scale_22 : decode cX1_scale 22 = .ok (.iload_n 3, 1) := by decide +kernel
theorem dX1_scale_23 : decode cX1_scale 23 = .ok (.iconst 0, 1) := by decide +kernel
theorem dX1_scale_24 : decode cX1_scale 24 = .ok (.bipush 120, 2) := by decide +kernel
theorem dX1_scale_26 : decode cX1_scale 26 = .ok (.invokevirtual 51, 3) := by decide +kernel
theorem dX1_scale_29 : decode cX1_scale 29 = .ok (.ifCond .eq 14, 3) := by decide +kernel
theorem dX1_scale_32 : decode cX1_scale 32 = .ok (.aload_n 0, 1) := by decide +kernel
theorem dX1_scale_33 : decode cX1_scale 33 = .ok (.iload 4, 2) := by decide +kernel
theorem dX1_scale_35 : decode cX1_scale 35 = .ok (.iconst 0, 1) := by decide +kernel
theorem dX1_scale_36 : decode cX1_scale 36 = .ok (.iconst 1, 1) := by decide +kernel
theorem dX1_scale_37 : decode cX1_scale 37 = .ok (.invokevirtual 51, 3) := by decide +kernel
theorem dX1_scale_40 : decode cX1_scale 40 = .ok (.ifCond .ne 7, 3) := by decide +kernel
theorem dX1_scale_43 : decode cX1_scale 43 = .ok (.ldc2_w 104, 3) := by decide +kernel
theorem dX1_scale_46 : decode cX1_scale 46 = .ok (.lreturn, 1) := by decide +kernel
theorem dX1_scale_47 : decode cX1_scale 47 = .ok (.aload_n 0, 1) := by decide +kernel
theorem dX1_scale_48 : decode cX1_scale 48 = .ok (.iload_n 1, 1) := by decide +kernel
theorem dX1_scale_49 : decode cX1_scale 49 = .ok (.invokevirtual 70, 3) := by decide +kernel
theorem dX1_scale_52 : decode cX1_scale 52 = .ok (.i2l, 1) := by decide +kernel
theorem dX1_scale_53 : decode cX1_scale 53 = .ok (.lstore 5, 2) := by decide +kernel
theorem dX1_scale_55 : decode cX1_scale 55 = .ok (.aload_n 0, 1) := by decide +kernel
theorem dX1_scale_56 : decode cX1_scale 56 = .ok (.iload_n 2, 1) := by decide +kernel
theorem dX1_scale_57 : decode cX1_scale 57 = .ok (.invokevirtual 70, 3) := by decide +kernel
theorem dX1_scale_60 : decode cX1_scale 60 = .ok (.i2l, 1) := by decide +kernel
theorem dX1_scale_61 : decode cX1_scale 61 = .ok (.lstore 7, 2) := by decide +kernel
theorem dX1_scale_63 : decode cX1_scale 63 = .ok (.aload_n 0, 1) := by decide +kernel
theorem dX1_scale_64 : decode cX1_scale 64 = .ok (.iload_n 1, 1) := by decide +kernel
theorem dX1_scale_65 : decode cX1_scale 65 = .ok (.iload_n 1, 1) := by decide +kernel
theorem dX1_scale_66 : decode cX1_scale 66 = .ok (.invokevirtual 131, 3) := by decide +kernel
theorem dX1_scale_69 : decode cX1_scale 69 = .ok (.lstore 9, 2) := by decide +kernel
theorem dX1_scale_71 : decode cX1_scale 71 = .ok (.aload_n 0, 1) := by decide +kernel
theorem dX1_scale_72 : decode cX1_scale 72 = .ok (.iload_n 2, 1) := by decide +kernel
theorem dX1_scale_73 : decode cX1_scale 73 = .ok (.iload_n 1, 1) := by decide +kernel
theorem dX1_scale_74 : decode cX1_scale 74 = .ok (.invokevirtual 131, 3) := by decide +kernel
theorem dX1_scale_77 : decode cX1_scale 77 = .ok (.lstore 11, 2) := by decide +kernel
theorem dX1_scale_79 : decode cX1_scale 79 = .ok (.lload 5, 2) := by decide +kernel
theorem dX1_scale_81 : decode cX1_scale 81 = .ok (.lconst 0, 1) := by decide +kernel
theorem dX1_scale_82 : decode cX1_scale 82 = .ok (.lcmp, 1) := by decide +kernel
theorem dX1_scale_83 : decode cX1_scale 83 = .ok (.ifCond .eq 33, 3) := by decide +kernel
theorem dX1_scale_86 : decode cX1_scale 86 = .ok (.lload 7, 2) := by decide +kernel
theorem dX1_scale_88 : decode cX1_scale 88 = .ok (.lconst 0, 1) := by decide +kernel
theorem dX1_scale_89 : decode cX1_scale 89 = .ok (.lcmp, 1) := by decide +kernel
theorem dX1_scale_90 : decode cX1_scale 90 = .ok (.ifCond .eq 26, 3) := by decide +kernel
theorem dX1_scale_93 : decode cX1_scale 93 = .ok (.aload_n 0, 1) := by decide +kernel
theorem dX1_scale_94 : decode cX1_scale 94 = .ok (.iload_n 1, 1) := by decide +kernel
theorem dX1_scale_95 : decode cX1_scale 95 = .ok (.iload_n 2, 1) := by decide +kernel
theorem dX1_scale_96 : decode cX1_scale 96 = .ok (.invokevirtual 118, 3) := by decide +kernel
theorem dX1_scale_99 : decode cX1_scale 99 = .ok (.ifCond .eq 17, 3) := by decide +kernel
theorem dX1_scale_102 : decode cX1_scale 102 = .ok (.lload 9, 2) := by decide +kernel
theorem dX1_scale_104 : decode cX1_scale 104 = .ok (.lconst 0, 1) := by decide +kernel
theorem dX1_scale_105 : decode cX1_scale 105 = .ok (.lcmp, 1) := by decide +kernel
theorem dX1_scale_106 : decode cX1_scale 106 = .ok (.ifCond .eq 10, 3) := by decide +kernel
theorem dX1_scale_109 : decode cX1_scale 109 = .ok (.lload 11, 2) := by decide +kernel
theorem dX1_scale_111 : decode cX1_scale 111 = .ok (.lconst 0, 1) := by decide +kernel
theorem dX1_scale_112 : decode cX1_scale 112 = .ok (.lcmp, 1) := by decide +kernel
theorem dX1_scale_113 : decode cX1_scale 113 = .ok (.ifCond .ne 7, 3) := by decide +kernel
theorem dX1_scale_116 : decode cX1_scale 116 = .ok (.ldc2_w 104, 3) := by decide +kernel
theorem dX1_scale_119 : decode cX1_scale 119 = .ok (.lreturn, 1) := by decide +kernel
theorem dX1_scale_120 : decode cX1_scale 120 = .ok (.aload_n 0, 1) := by decide +kernel
theorem dX1_scale_121 : decode cX1_scale 121 = .ok (.iload_n 1, 1) := by decide +kernel
theorem dX1_scale_122 : decode cX1_scale 122 = .ok (.iload_n 2, 1) := by decide +kernel
theorem dX1_scale_123 : decode cX1_scale 123 = .ok (.invokevirtual 128, 3) := by decide +kernel
theorem dX1_scale_126 : decode cX1_scale 126 = .ok (.lload 9, 2) := by decide +kernel
theorem dX1_scale_128 : decode cX1_scale 128 = .ok (.lmul, 1) := by decide +kernel
theorem dX1_scale_129 : decode cX1_scale 129 = .ok (.iload_n 3, 1) := by decide +kernel
theorem dX1_scale_130 : decode cX1_scale 130 = .ok (.i2l, 1) := by decide +kernel
theorem dX1_scale_131 : decode cX1_scale 131 = .ok (.lload 5, 2) := by decide +kernel
theorem dX1_scale_133 : decode cX1_scale 133 = .ok (.lmul, 1) := by decide +kernel
theorem dX1_scale_134 : decode cX1_scale 134 = .ok (.aload_n 0, 1) := by decide +kernel
theorem dX1_scale_135 : decode cX1_scale 135 = .ok (.iload_n 1, 1) := by decide +kernel
theorem dX1_scale_136 : decode cX1_scale 136 = .ok (.iload_n 1, 1) := by decide +kernel
theorem dX1_scale_137 : decode cX1_scale 137 = .ok (.invokevirtual 128, 3) := by decide +kernel
theorem dX1_scale_140 : decode cX1_scale 140 = .ok (.lsub, 1) := by decide +kernel
theorem dX1_scale_141 : decode cX1_scale 141 = .ok (.aload_n 0, 1) := by decide +kernel
theorem dX1_scale_142 : decode cX1_scale 142 = .ok (.iload_n 1, 1) := by decide +kernel
theorem dX1_scale_143 : decode cX1_scale 143 = .ok (.iload_n 2, 1) := by decide +kernel
theorem dX1_scale_144 : decode cX1_scale 144 = .ok (.invokevirtual 131, 3) := by decide +kernel
theorem dX1_scale_147 : decode cX1_scale 147 = .ok (.lmul, 1) := by decide +kernel
theorem dX1_scale_148 : decode cX1_scale 148 = .ok (.ladd, 1) := by decide +kernel
theorem dX1_scale_149 : decode cX1_scale 149 = .ok (.lstore 13, 2) := by decide +kernel
theorem dX1_scale_151 : decode cX1_scale 151 = .ok (.aload_n 0, 1) := by decide +kernel
theorem dX1_scale_152 : decode cX1_scale 152 = .ok (.iload_n 2, 1) := by decide +kernel
theorem dX1_scale_153 : decode cX1_scale 153 = .ok (.iload_n 2, 1) := by decide +kernel
theorem dX1_scale_154 : decode cX1_scale 154 = .ok (.invokevirtual 128, 3) := by decide +kernel
theorem dX1_scale_157 : decode cX1_scale 157 = .ok (.lload 11, 2) := by decide +kernel
theorem dX1_scale_159 : decode cX1_scale 159 = .ok (.lmul, 1) := by decide +kernel
theorem dX1_scale_160 : decode cX1_scale 160 = .ok (.lload 5, 2) := by decide +kernel
theorem dX1_scale_162 : decode cX1_scale 162 = .ok (.lmul, 1) := by decide +kernel
theorem dX1_scale_163 : decode cX1_scale 163 = .ok (.lload 9, 2) := by decide +kernel
theorem dX1_scale_165 : decode cX1_scale 165 = .ok (.lmul, 1) := by decide +kernel
theorem dX1_scale_166 : decode cX1_scale 166 = .ok (.lload 13, 2) := by decide +kernel
theorem dX1_scale_168 : decode cX1_scale 168 = .ok (.lload 7, 2) := by decide +kernel
theorem dX1_scale_170 : decode cX1_scale 170 = .ok (.lmul, 1) := by decide +kernel
theorem dX1_scale_171 : decode cX1_scale 171 = .ok (.aload_n 0, 1) := by decide +kernel
theorem dX1_scale_172 : decode cX1_scale 172 = .ok (.iload_n 2, 1) := by decide +kernel
theorem dX1_scale_173 : decode cX1_scale 173 = .ok (.iload_n 1, 1) := by decide +kernel
theorem dX1_scale_174 : decode cX1_scale 174 = .ok (.invokevirtual 128, 3) := by decide +kernel
theorem dX1_scale_177 : decode cX1_scale 177 = .ok (.lload 5, 2) := by decide +kernel
theorem dX1_scale_179 : decode cX1_scale 179 = .ok (.lmul, 1) := by decide +kernel
theorem dX1_scale_180 : decode cX1_scale 180 = .ok (.lload 9, 2) := by decide +kernel
theorem dX1_scale_182 : decode cX1_scale 182 = .ok (.lmul, 1) := by decide +kernel
theorem dX1_scale_183 : decode cX1_scale 183 = .ok (.lsub, 1) := by decide +kernel
theorem dX1_scale_184 : decode cX1_scale 184 = .ok (.aload_n 0, 1) := by decide +kernel
theorem dX1_scale_185 : decode cX1_scale 185 = .ok (.iload_n 2, 1) := by decide +kernel
theorem dX1_scale_186 : decode cX1_scale 186 = .ok (.iload_n 2, 1) := by decide +kernel
theorem dX1_scale_187 : decode cX1_scale 187 = .ok (.invokevirtual 131, 3) := by decide +kernel
theorem dX1_scale_190 : decode cX1_scale 190 = .ok (.lmul, 1) := by decide +kernel
theorem dX1_scale_191 : decode cX1_scale 191 = .ok (.ladd, 1) := by decide +kernel
theorem dX1_scale_192 : decode cX1_scale 192 = .ok (.lstore 15, 2) := by decide +kernel
theorem dX1_scale_194 : decode cX1_scale 194 = .ok (.aload_n 0, 1) := by decide +kernel
theorem dX1_scale_195 : decode cX1_scale 195 = .ok (.lload 15, 2) := by decide +kernel
theorem dX1_scale_197 : decode cX1_scale 197 = .ok (.lload 7, 2) := by decide +kernel
theorem dX1_scale_199 : decode cX1_scale 199 = .ok (.lload 5, 2) := by decide +kernel
theorem dX1_scale_201 : decode cX1_scale 201 = .ok (.lmul, 1) := by decide +kernel
theorem dX1_scale_202 : decode cX1_scale 202 = .ok (.lload 9, 2) := by decide +kernel
theorem dX1_scale_204 : decode cX1_scale 204 = .ok (.lmul, 1) := by decide +kernel
theorem dX1_scale_205 : decode cX1_scale 205 = .ok (.lload 11, 2) := by decide +kernel
theorem dX1_scale_207 : decode cX1_scale 207 = .ok (.lmul, 1) := by decide +kernel
theorem dX1_scale_208 : decode cX1_scale 208 = .ok (.iload 4, 2) := by decide +kernel
theorem dX1_scale_210 : decode cX1_scale 210 = .ok (.invokevirtual 106, 3) := by decide +kernel
theorem dX1_scale_213 : decode cX1_scale 213 = .ok (.lreturn, 1) := by decide +kernel
theorem dX1_rankOf_0 : decode cX1_rankOf 0 = .ok (.lconst 0, 1) := by decide +kernel
theorem dX1_rankOf_1 : decode cX1_rankOf 1 = .ok (.lstore_n 3, 1) := by decide +kernel
theorem dX1_rankOf_2 : decode cX1_rankOf 2 = .ok (.iconst 0, 1) := by decide +kernel
theorem dX1_rankOf_3 : decode cX1_rankOf 3 = .ok (.istore 5, 2) := by decide +kernel
theorem dX1_rankOf_5 : decode cX1_rankOf 5 = .ok (.iload 5, 2) := by decide +kernel
theorem dX1_rankOf_7 : decode cX1_rankOf 7 = .ok (.aload_n 0, 1) := by decide +kernel
theorem dX1_rankOf_8 : decode cX1_rankOf 8 = .ok (.getfield 16, 3) := by decide +kernel
theorem dX1_rankOf_11 : decode cX1_rankOf 11 = .ok (.if_icmp .ge 57, 3) := by decide +kernel
theorem dX1_rankOf_14 : decode cX1_rankOf 14 = .ok (.aload_n 0, 1) := by decide +kernel
theorem dX1_rankOf_15 : decode cX1_rankOf 15 = .ok (.getfield 39, 3) := by decide +kernel
theorem dX1_rankOf_18 : decode cX1_rankOf 18 = .ok (.iload 5, 2) := by decide +kernel
theorem dX1_rankOf_20 : decode cX1_rankOf 20 = .ok (.iaload, 1) := by decide +kernel
theorem dX1_rankOf_21 : decode cX1_rankOf 21 = .ok (.iload_n 1, 1) := by decide +kernel
theorem dX1_rankOf_22 : decode cX1_rankOf 22 = .ok (.if_icmp .eq 6, 3) := by decide +kernel
theorem dX1_rankOf_25 : decode cX1_rankOf 25 = .ok (.goto 37, 3) := by decide +kernel
theorem dX1_rankOf_28 : decode cX1_rankOf 28 = .ok (.aload_n 0, 1) := by decide +kernel
theorem dX1_rankOf_29 : decode cX1_rankOf 29 = .ok (.iload 5, 2) := by decide +kernel
theorem dX1_rankOf_31 : decode cX1_rankOf 31 = .ok (.invokevirtual 97, 3) := by decide +kernel
theorem dX1_rankOf_34 : decode cX1_rankOf 34 = .ok (.istore 6, 2) := by decide +kernel
theorem dX1_rankOf_36 : decode cX1_rankOf 36 = .ok (.lload_n 3, 1) := by decide +kernel
theorem dX1_rankOf_37 : decode cX1_rankOf 37 = .ok (.iload 6, 2) := by decide +kernel
theorem dX1_rankOf_39 : decode cX1_rankOf 39 = .ok (.iload_n 2, 1) := by decide +kernel
theorem dX1_rankOf_40 : decode cX1_rankOf 40 = .ok (.if_icmp .ge 9, 3) := by decide +kernel
theorem dX1_rankOf_43 : decode cX1_rankOf 43 = .ok (.ldc2_w 134, 3) := by decide +kernel
theorem dX1_rankOf_46 : decode cX1_rankOf 46 = .ok (.goto 14, 3) := by decide +kernel
theorem dX1_rankOf_49 : decode cX1_rankOf 49 = .ok (.iload 6, 2) := by decide +kernel
theorem dX1_rankOf_51 : decode cX1_rankOf 51 = .ok (.iload_n 2, 1) := by decide +kernel
theorem dX1_rankOf_52 : decode cX1_rankOf 52 = .ok (.if_icmp .ne 7, 3) := by decide +kernel
theorem dX1_rankOf_55 : decode cX1_rankOf 55 = .ok (.lconst 1, 1) := by decide +kernel
theorem dX1_rankOf_56 : decode cX1_rankOf 56 = .ok (.goto 4, 3) := by decide +kernel
theorem dX1_rankOf_59 : decode cX1_rankOf 59 = .ok (.lconst 0, 1) := by decide +kernel
theorem dX1_rankOf_60 : decode cX1_rankOf 60 = .ok (.ladd, 1) := by decide +kernel
theorem dX1_rankOf_61 : decode cX1_rankOf 61 = .ok (.lstore_n 3, 1) := by decide +kernel
theorem dX1_rankOf_62 : decode cX1_rankOf 62 = .ok (.iinc 5 1, 3) := by decide +kernel
theorem dX1_rankOf_65 : decode cX1_rankOf 65 = .ok (.goto (-60), 3) := by decide +kernel
theorem dX1_rankOf_68 : decode cX1_rankOf 68 = .ok (.lload_n 3, 1) := by decide +kernel
theorem dX1_rankOf_69 : decode cX1_rankOf 69 = .ok (.lreturn, 1) := by decide +kernel
theorem dX1_rank_0 : decode cX1_rank 0 = .ok (.aload_n 0, 1) := by decide +kernel
theorem dX1_rank_1 : decode cX1_rank 1 = .ok (.iload_n 1, 1) := by decide +kernel
theorem dX1_rank_2 : decode cX1_rank 2 = .ok (.invokevirtual 63, 3) := by decide +kernel
theorem dX1_rank_5 : decode cX1_rank 5 = .ok (.ifCond .eq 11, 3) := by decide +kernel
theorem dX1_rank_8 : decode cX1_rank 8 = .ok (.aload_n 0, 1) := by decide +kernel
theorem dX1_rank_9 : decode cX1_rank 9 = .ok (.iload_n 1, 1) := by decide +kernel
theorem dX1_rank_10 : decode cX1_rank 10 = .ok (.invokevirtual 70, 3) := by decide +kernel
theorem dX1_rank_13 : decode cX1_rank 13 = .ok (.ifCond .ne 7, 3) := by decide +kernel
theorem dX1_rank_16 : decode cX1_rank 16 = .ok (.iconst (-1), 1) := by decide +kernel
theorem dX1_rank_17 : decode cX1_rank 17 = .ok (.goto 10, 3) := by decide +kernel
theorem dX1_rank_20 : decode cX1_rank 20 = .ok (.aload_n 0, 1) := by decide +kernel
theorem dX1_rank_21 : decode cX1_rank 21 = .ok (.iload_n 1, 1) := by decide +kernel
theorem dX1_rank_22 : decode cX1_rank 22 = .ok (.iload_n 2, 1) := by decide +kernel
theorem dX1_rank_23 : decode cX1_rank 23 = .ok (.invokevirtual 136, 3) := by decide +kernel
theorem dX1_rank_26 : decode cX1_rank 26 = .ok (.l2i, 1) := by decide +kernel
theorem dX1_rank_27 : decode cX1_rank 27 = .ok (.ireturn, 1) := by decide +kernel
theorem dX1_like_0 : decode cX1_like 0 = .ok (.aload_n 0, 1) := by decide +kernel
theorem dX1_like_1 : decode cX1_like 1 = .ok (.iload_n 1, 1) := by decide +kernel
theorem dX1_like_2 : decode cX1_like 2 = .ok (.invokevirtual 63, 3) := by decide +kernel
theorem dX1_like_5 : decode cX1_like 5 = .ok (.ifCond .eq 22, 3) := by decide +kernel
theorem dX1_like_8 : decode cX1_like 8 = .ok (.aload_n 0, 1) := by decide +kernel
theorem dX1_like_9 : decode cX1_like 9 = .ok (.iload_n 2, 1) := by decide +kernel
theorem dX1_like_10 : decode cX1_like 10 = .ok (.invokevirtual 63, 3) := by decide +kernel
theorem dX1_like_13 : decode cX1_like 13 = .ok (.ifCond .eq 14, 3) := by decide +kernel
theorem dX1_like_16 : decode cX1_like 16 = .ok (.aload_n 0, 1) := by decide +kernel
theorem dX1_like_17 : decode cX1_like 17 = .ok (.iload_n 3, 1) := by decide +kernel
theorem dX1_like_18 : decode cX1_like 18 = .ok (.iconst 0, 1) := by decide +kernel
theorem dX1_like_19 : decode cX1_like 19 = .ok (.bipush 120, 2) := by decide +kernel
theorem dX1_like_21 : decode cX1_like 21 = .ok (.invokevirtual 51, 3) := by decide +kernel
theorem dX1_like_24 : decode cX1_like 24 = .ok (.ifCond .ne 5, 3) := by decide +kernel
theorem dX1_like_27 : decode cX1_like 27 = .ok (.iconst (-1), 1) := by decide +kernel
theorem dX1_like_28 : decode cX1_like 28 = .ok (.ireturn, 1) := by decide +kernel
theorem dX1_like_29 : decode cX1_like 29 = .ok (.aload_n 0, 1) := by decide +kernel
theorem dX1_like_30 : decode cX1_like 30 = .ok (.iload_n 1, 1) := by decide +kernel
theorem dX1_like_31 : decode cX1_like 31 = .ok (.invokevirtual 70, 3) := by decide +kernel
theorem dX1_like_34 : decode cX1_like 34 = .ok (.i2l, 1) := by decide +kernel
theorem dX1_like_35 : decode cX1_like 35 = .ok (.lstore 4, 2) := by decide +kernel
theorem dX1_like_37 : decode cX1_like 37 = .ok (.aload_n 0, 1) := by decide +kernel
theorem dX1_like_38 : decode cX1_like 38 = .ok (.iload_n 2, 1) := by decide +kernel
theorem dX1_like_39 : decode cX1_like 39 = .ok (.invokevirtual 70, 3) := by decide +kernel
theorem dX1_like_42 : decode cX1_like 42 = .ok (.i2l, 1) := by decide +kernel
theorem dX1_like_43 : decode cX1_like 43 = .ok (.lstore 6, 2) := by decide +kernel
theorem dX1_like_45 : decode cX1_like 45 = .ok (.lload 4, 2) := by decide +kernel
theorem dX1_like_47 : decode cX1_like 47 = .ok (.lconst 0, 1) := by decide +kernel
theorem dX1_like_48 : decode cX1_like 48 = .ok (.lcmp, 1) := by decide +kernel
theorem dX1_like_49 : decode cX1_like 49 = .ok (.ifCond .eq 10, 3) := by decide +kernel
theorem dX1_like_52 : decode cX1_like 52 = .ok (.lload 6, 2) := by decide +kernel
theorem dX1_like_54 : decode cX1_like 54 = .ok (.lconst 0, 1) := by decide +kernel
theorem dX1_like_55 : decode cX1_like 55 = .ok (.lcmp, 1) := by decide +kernel
theorem dX1_like_56 : decode cX1_like 56 = .ok (.ifCond .ne 5, 3) := by decide +kernel
theorem dX1_like_59 : decode cX1_like 59 = .ok (.iconst (-1), 1) := by decide +kernel
theorem dX1_like_60 : decode cX1_like 60 = .ok (.ireturn, 1) := by decide +kernel
theorem dX1_like_61 : decode cX1_like 61 = .ok (.iconst (-1), 1) := by decide +kernel
theorem dX1_like_62 : decode cX1_like 62 = .ok (.istore 8, 2) := by decide +kernel
theorem dX1_like_64 : decode cX1_like 64 = .ok (.iconst (-1), 1) := by decide +kernel
theorem dX1_like_65 : decode cX1_like 65 = .ok (.istore 9, 2) := by decide +kernel
theorem dX1_like_67 : decode cX1_like 67 = .ok (.aload_n 0, 1) := by decide +kernel
theorem dX1_like_68 : decode cX1_like 68 = .ok (.iload_n 1, 1) := by decide +kernel
theorem dX1_like_69 : decode cX1_like 69 = .ok (.iload_n 3, 1) := by decide +kernel
theorem dX1_like_70 : decode cX1_like 70 = .ok (.invokevirtual 136, 3) := by decide +kernel
theorem dX1_like_73 : decode cX1_like 73 = .ok (.lload 6, 2) := by decide +kernel
theorem dX1_like_75 : decode cX1_like 75 = .ok (.lmul, 1) := by decide +kernel
theorem dX1_like_76 : decode cX1_like 76 = .ok (.lstore 10, 2) := by decide +kernel
theorem dX1_like_78 : decode cX1_like 78 = .ok (.iconst 0, 1) := by decide +kernel
theorem dX1_like_79 : decode cX1_like 79 = .ok (.istore 12, 2) := by decide +kernel
theorem dX1_like_81 : decode cX1_like 81 = .ok (.iload 12, 2) := by decide +kernel
theorem dX1_like_83 : decode cX1_like 83 = .ok (.aload_n 0, 1) := by decide +kernel
theorem dX1_like_84 : decode cX1_like 84 = .ok (.getfield 16, 3) := by decide +kernel
theorem dX1_like_87 : decode cX1_like 87 = .ok (.if_icmp .ge 79, 3) := by decide +kernel
theorem dX1_like_90 : decode cX1_like 90 = .ok (.aload_n 0, 1) := by decide +kernel
theorem dX1_like_91 : decode cX1_like 91 = .ok (.getfield 39, 3) := by decide +kernel
theorem dX1_like_94 : decode cX1_like 94 = .ok (.iload 12, 2) := by decide +kernel
theorem dX1_like_96 : decode cX1_like 96 = .ok (.iaload, 1) := by decide +kernel
theorem dX1_like_97 : decode cX1_like 97 = .ok (.iload_n 2, 1) := by decide +kernel
theorem dX1_like_98 : decode cX1_like 98 = .ok (.if_icmp .eq 6, 3) := by decide +kernel
theorem dX1_like_101 : decode cX1_like 101 = .ok (.goto 59, 3) := by decide +kernel
theorem dX1_like_104 : decode cX1_like 104 = .ok (.aload_n 0, 1) := by decide +kernel
theorem dX1_like_105 : decode cX1_like 105 = .ok (.iload 12, 2) := by decide +kernel
theorem dX1_like_107 : decode cX1_like 107 = .ok (.invokevirtual 97, 3) := by decide +kernel
theorem dX1_like_110 : decode cX1_like 110 = .ok (.istore 13, 2) := by decide +kernel
theorem dX1_like_112 : decode cX1_like 112 = .ok (.iload 13, 2) := by decide +kernel
theorem dX1_like_114 : decode cX1_like 114 = .ok (.iload 9, 2) := by decide +kernel
theorem dX1_like_116 : decode cX1_like 116 = .ok (.if_icmp .le 8, 3) := by decide +kernel
theorem dX1_like_119 : decode cX1_like 119 = .ok (.iload 13, 2) := by decide +kernel
theorem dX1_like_121 : decode cX1_like 121 = .ok (.goto 5, 3) := by decide +kernel
theorem dX1_like_124 : decode cX1_like 124 = .ok (.iload 9, 2) := by decide +kernel
theorem dX1_like_126 : decode cX1_like 126 = .ok (.istore 9, 2) := by decide +kernel
theorem dX1_like_128 : decode cX1_like 128 = .ok (.aload_n 0, 1) := by decide +kernel
theorem dX1_like_129 : decode cX1_like 129 = .ok (.iload_n 2, 1) := by decide +kernel
theorem dX1_like_130 : decode cX1_like 130 = .ok (.iload 13, 2) := by decide +kernel
theorem dX1_like_132 : decode cX1_like 132 = .ok (.invokevirtual 136, 3) := by decide +kernel
theorem dX1_like_135 : decode cX1_like 135 = .ok (.lload 4, 2) := by decide +kernel
theorem dX1_like_137 : decode cX1_like 137 = .ok (.lmul, 1) := by decide +kernel
theorem dX1_like_138 : decode cX1_like 138 = .ok (.lload 10, 2) := by decide +kernel
theorem dX1_like_140 : decode cX1_like 140 = .ok (.lcmp, 1) := by decide +kernel
theorem dX1_like_141 : decode cX1_like 141 = .ok (.ifCond .lt 19, 3) := by decide +kernel
theorem dX1_like_144 : decode cX1_like 144 = .ok (.iload 8, 2) := by decide +kernel
theorem dX1_like_146 : decode cX1_like 146 = .ok (.ifCond .lt 10, 3) := by decide +kernel
theorem dX1_like_149 : decode cX1_like 149 = .ok (.iload 13, 2) := by decide +kernel
theorem dX1_like_151 : decode cX1_like 151 = .ok (.iload 8, 2) := by decide +kernel
theorem dX1_like_153 : decode cX1_like 153 = .ok (.if_icmp .ge 7, 3) := by decide +kernel
theorem dX1_like_156 : decode cX1_like 156 = .ok (.iload 13, 2) := by decide +kernel
theorem dX1_like_158 : decode cX1_like 158 = .ok (.istore 8, 2) := by decide +kernel
theorem dX1_like_160 : decode cX1_like 160 = .ok (.iinc 12 1, 3) := by decide +kernel
theorem dX1_like_163 : decode cX1_like 163 = .ok (.goto (-82), 3) := by decide +kernel
theorem dX1_like_166 : decode cX1_like 166 = .ok (.iload 8, 2) := by decide +kernel
theorem dX1_like_168 : decode cX1_like 168 = .ok (.ifCond .ge 8, 3) := by decide +kernel
theorem dX1_like_171 : decode cX1_like 171 = .ok (.iload 9, 2) := by decide +kernel
theorem dX1_like_173 : decode cX1_like 173 = .ok (.goto 5, 3) := by decide +kernel
theorem dX1_like_176 : decode cX1_like 176 = .ok (.iload 8, 2) := by decide +kernel
theorem dX1_like_178 : decode cX1_like 178 = .ok (.ireturn, 1) := by decide +kernel
theorem dX1_judge_0 : decode cX1_judge 0 = .ok (.aload_n 0, 1) := by decide +kernel
theorem dX1_judge_1 : decode cX1_judge 1 = .ok (.iload_n 1, 1) := by decide +kernel
theorem dX1_judge_2 : decode cX1_judge 2 = .ok (.iconst 0, 1) := by decide +kernel
theorem dX1_judge_3 : decode cX1_judge 3 = .ok (.bipush 7, 2) := by decide +kernel
theorem dX1_judge_5 : decode cX1_judge 5 = .ok (.invokevirtual 51, 3) := by decide +kernel
theorem dX1_judge_8 : decode cX1_judge 8 = .ok (.ifCond .eq 19, 3) := by decide +kernel
theorem dX1_judge_11 : decode cX1_judge 11 = .ok (.aload_n 0, 1) := by decide +kernel
theorem dX1_judge_12 : decode cX1_judge 12 = .ok (.iload_n 2, 1) := by decide +kernel
theorem dX1_judge_13 : decode cX1_judge 13 = .ok (.invokevirtual 63, 3) := by decide +kernel
theorem dX1_judge_16 : decode cX1_judge 16 = .ok (.ifCond .eq 11, 3) := by decide +kernel
theorem dX1_judge_19 : decode cX1_judge 19 = .ok (.aload_n 0, 1) := by decide +kernel
theorem dX1_judge_20 : decode cX1_judge 20 = .ok (.iload_n 3, 1) := by decide +kernel
theorem dX1_judge_21 : decode cX1_judge 21 = .ok (.invokevirtual 59, 3) := by decide +kernel
theorem dX1_judge_24 : decode cX1_judge 24 = .ok (.ifCond .ne 5, 3) := by decide +kernel
theorem dX1_judge_27 : decode cX1_judge 27 = .ok (.iconst (-1), 1) := by decide +kernel
theorem dX1_judge_28 : decode cX1_judge 28 = .ok (.ireturn, 1) := by decide +kernel
theorem dX1_judge_29 : decode cX1_judge 29 = .ok (.aload_n 0, 1) := by decide +kernel
theorem dX1_judge_30 : decode cX1_judge 30 = .ok (.iload_n 2, 1) := by decide +kernel
theorem dX1_judge_31 : decode cX1_judge 31 = .ok (.iload_n 3, 1) := by decide +kernel
theorem dX1_judge_32 : decode cX1_judge 32 = .ok (.invokevirtual 66, 3) := by decide +kernel
theorem dX1_judge_35 : decode cX1_judge 35 = .ok (.istore 5, 2) := by decide +kernel
theorem dX1_judge_37 : decode cX1_judge 37 = .ok (.iload 5, 2) := by decide +kernel
theorem dX1_judge_39 : decode cX1_judge 39 = .ok (.ifCond .ge 5, 3) := by decide +kernel
theorem dX1_judge_42 : decode cX1_judge 42 = .ok (.iconst (-1), 1) := by decide +kernel
theorem dX1_judge_43 : decode cX1_judge 43 = .ok (.ireturn, 1) := by decide +kernel
theorem dX1_judge_44 : decode cX1_judge 44 = .ok (.aload_n 0, 1) := by decide +kernel
theorem dX1_judge_45 : decode cX1_judge 45 = .ok (.iload 4, 2) := by decide +kernel
theorem dX1_judge_47 : decode cX1_judge 47 = .ok (.iconst (-1), 1) := by decide +kernel
theorem dX1_judge_48 : decode cX1_judge 48 = .ok (.aload_n 0, 1) := by decide +kernel
theorem dX1_judge_49 : decode cX1_judge 49 = .ok (.getfield 23, 3) := by decide +kernel
theorem dX1_judge_52 : decode cX1_judge 52 = .ok (.iload_n 3, 1) := by decide +kernel
theorem dX1_judge_53 : decode cX1_judge 53 = .ok (.iaload, 1) := by decide +kernel
theorem dX1_judge_54 : decode cX1_judge 54 = .ok (.invokevirtual 51, 3) := by decide +kernel
theorem dX1_judge_57 : decode cX1_judge 57 = .ok (.ifCond .ne 6, 3) := by decide +kernel
theorem dX1_judge_60 : decode cX1_judge 60 = .ok (.bipush (-2), 2) := by decide +kernel
theorem dX1_judge_62 : decode cX1_judge 62 = .ok (.ireturn, 1) := by decide +kernel
theorem dX1_judge_63 : decode cX1_judge 63 = .ok (.aload_n 0, 1) := by decide +kernel
theorem dX1_judge_64 : decode cX1_judge 64 = .ok (.getfield 48, 3) := by decide +kernel
theorem dX1_judge_67 : decode cX1_judge 67 = .ok (.bipush 96, 2) := by decide +kernel
theorem dX1_judge_69 : decode cX1_judge 69 = .ok (.iload_n 1, 1) := by decide +kernel
theorem dX1_judge_70 : decode cX1_judge 70 = .ok (.imul, 1) := by decide +kernel
theorem dX1_judge_71 : decode cX1_judge 71 = .ok (.bipush 12, 2) := by decide +kernel
theorem dX1_judge_73 : decode cX1_judge 73 = .ok (.iload_n 2, 1) := by decide +kernel
theorem dX1_judge_74 : decode cX1_judge 74 = .ok (.imul, 1) := by decide +kernel
theorem dX1_judge_75 : decode cX1_judge 75 = .ok (.iadd, 1) := by decide +kernel
theorem dX1_judge_76 : decode cX1_judge 76 = .ok (.iload 5, 2) := by decide +kernel
theorem dX1_judge_78 : decode cX1_judge 78 = .ok (.iadd, 1) := by decide +kernel
theorem dX1_judge_79 : decode cX1_judge 79 = .ok (.iaload, 1) := by decide +kernel
theorem dX1_judge_80 : decode cX1_judge 80 = .ok (.istore 6, 2) := by decide +kernel
theorem dX1_judge_82 : decode cX1_judge 82 = .ok (.aload_n 0, 1) := by decide +kernel
theorem dX1_judge_83 : decode cX1_judge 83 = .ok (.getfield 48, 3) := by decide +kernel
theorem dX1_judge_86 : decode cX1_judge 86 = .ok (.bipush 96, 2) := by decide +kernel
theorem dX1_judge_88 : decode cX1_judge 88 = .ok (.iload_n 1, 1) := by decide +kernel
theorem dX1_judge_89 : decode cX1_judge 89 = .ok (.imul, 1) := by decide +kernel
theorem dX1_judge_90 : decode cX1_judge 90 = .ok (.bipush 12, 2) := by decide +kernel
theorem dX1_judge_92 : decode cX1_judge 92 = .ok (.iload_n 2, 1) := by decide +kernel
theorem dX1_judge_93 : decode cX1_judge 93 = .ok (.imul, 1) := by decide +kernel
theorem dX1_judge_94 : decode cX1_judge 94 = .ok (.iadd, 1) := by decide +kernel
theorem dX1_judge_95 : decode cX1_judge 95 = .ok (.iload 5, 2) := by decide +kernel
theorem dX1_judge_97 : decode cX1_judge 97 = .ok (.iadd, 1) := by decide +kernel
theorem dX1_judge_98 : decode cX1_judge 98 = .ok (.iload 4, 2) := by decide +kernel
theorem dX1_judge_100 : decode cX1_judge 100 = .ok (.iastore, 1) := by decide +kernel
theorem dX1_judge_101 : decode cX1_judge 101 = .ok (.iload 6, 2) := by decide +kernel
theorem dX1_judge_103 : decode cX1_judge 103 = .ok (.ireturn, 1) := by decide +kernel
theorem dX1_cutOf_0 : decode cX1_cutOf 0 = .ok (.lconst 0, 1) := by decide +kernel
theorem dX1_cutOf_1 : decode cX1_cutOf 1 = .ok (.lstore_n 2, 1) := by decide +kernel
theorem dX1_cutOf_2 : decode cX1_cutOf 2 = .ok (.iconst 0, 1) := by decide +kernel
theorem dX1_cutOf_3 : decode cX1_cutOf 3 = .ok (.istore 4, 2) := by decide +kernel
theorem dX1_cutOf_5 : decode cX1_cutOf 5 = .ok (.iload 4, 2) := by decide +kernel
theorem dX1_cutOf_7 : decode cX1_cutOf 7 = .ok (.aload_n 0, 1) := by decide +kernel
theorem dX1_cutOf_8 : decode cX1_cutOf 8 = .ok (.getfield 36, 3) := by decide +kernel
theorem dX1_cutOf_11 : decode cX1_cutOf 11 = .ok (.iload_n 1, 1) := by decide +kernel
theorem dX1_cutOf_12 : decode cX1_cutOf 12 = .ok (.iaload, 1) := by decide +kernel
theorem dX1_cutOf_13 : decode cX1_cutOf 13 = .ok (.if_icmp .ge 111, 3) := by decide +kernel
theorem dX1_cutOf_16 : decode cX1_cutOf 16 = .ok (.lconst 0, 1) := by decide +kernel
theorem dX1_cutOf_17 : decode cX1_cutOf 17 = .ok (.lstore 5, 2) := by decide +kernel
theorem dX1_cutOf_19 : decode cX1_cutOf 19 = .ok (.lconst 0, 1) := by decide +kernel
theorem dX1_cutOf_20 : decode cX1_cutOf 20 = .ok (.lstore 7, 2) := by decide +kernel
theorem dX1_cutOf_22 : decode cX1_cutOf 22 = .ok (.iconst 0, 1) := by decide +kernel
theorem dX1_cutOf_23 : decode cX1_cutOf 23 = .ok (.istore 9, 2) := by decide +kernel
theorem dX1_cutOf_25 : decode cX1_cutOf 25 = .ok (.iload 9, 2) := by decide +kernel
theorem dX1_cutOf_27 : decode cX1_cutOf 27 = .ok (.bipush 8, 2) := by decide +kernel
theorem dX1_cutOf_29 : decode cX1_cutOf 29 = .ok (.if_icmp .ge 51, 3) := by decide +kernel
theorem dX1_cutOf_32 : decode cX1_cutOf 32 = .ok (.aload_n 0, 1) := by decide +kernel
theorem dX1_cutOf_33 : decode cX1_cutOf 33 = .ok (.getfield 48, 3) := by decide +kernel
theorem dX1_cutOf_36 : decode cX1_cutOf 36 = .ok (.bipush 96, 2) := by decide +kernel
theorem dX1_cutOf_38 : decode cX1_cutOf 38 = .ok (.iload 9, 2) := by decide +kernel
theorem dX1_cutOf_40 : decode cX1_cutOf 40 = .ok (.imul, 1) := by decide +kernel
theorem dX1_cutOf_41 : decode cX1_cutOf 41 = .ok (.bipush 12, 2) := by decide +kernel
theorem dX1_cutOf_43 : decode cX1_cutOf 43 = .ok (.iload_n 1, 1) := by decide +kernel
theorem dX1_cutOf_44 : decode cX1_cutOf 44 = .ok (.imul, 1) := by decide +kernel
theorem dX1_cutOf_45 : decode cX1_cutOf 45 = .ok (.iadd, 1) := by decide +kernel
theorem dX1_cutOf_46 : decode cX1_cutOf 46 = .ok (.iload 4, 2) := by decide +kernel
theorem dX1_cutOf_48 : decode cX1_cutOf 48 = .ok (.iadd, 1) := by decide +kernel
theorem dX1_cutOf_49 : decode cX1_cutOf 49 = .ok (.iaload, 1) := by decide +kernel
theorem dX1_cutOf_50 : decode cX1_cutOf 50 = .ok (.istore 10, 2) := by decide +kernel
theorem dX1_cutOf_52 : decode cX1_cutOf 52 = .ok (.iload 10, 2) := by decide +kernel
theorem dX1_cutOf_54 : decode cX1_cutOf 54 = .ok (.ifCond .ge 6, 3) := by decide +kernel
theorem dX1_cutOf_57 : decode cX1_cutOf 57 = .ok (.goto 17, 3) := by decide +kernel
theorem dX1_cutOf_60 : decode cX1_cutOf 60 = .ok (.lload 5, 2) := by decide +kernel
theorem dX1_cutOf_62 : decode cX1_cutOf 62 = .ok (.iload 10, 2) := by decide +kernel
theorem dX1_cutOf_64 : decode cX1_cutOf 64 = .ok (.i2l, 1) := by decide +kernel
theorem dX1_cutOf_65 : decode cX1_cutOf 65 = .ok (.ladd, 1) := by decide +kernel
theorem dX1_cutOf_66 : decode cX1_cutOf 66 = .ok (.lstore 5, 2) := by decide +kernel
theorem dX1_cutOf_68 : decode cX1_cutOf 68 = .ok (.lload 7, 2) := by decide +kernel
theorem dX1_cutOf_70 : decode cX1_cutOf 70 = .ok (.lconst 1, 1) := by decide +kernel
theorem dX1_cutOf_71 : decode cX1_cutOf 71 = .ok (.ladd, 1) := by decide +kernel
theorem dX1_cutOf_72 : decode cX1_cutOf 72 = .ok (.lstore 7, 2) := by decide +kernel
theorem dX1_cutOf_74 : decode cX1_cutOf 74 = .ok (.iinc 9 1, 3) := by decide +kernel
theorem dX1_cutOf_77 : decode cX1_cutOf 77 = .ok (.goto (-52), 3) := by decide +kernel
theorem dX1_cutOf_80 : decode cX1_cutOf 80 = .ok (.lload 7, 2) := by decide +kernel
theorem dX1_cutOf_82 : decode cX1_cutOf 82 = .ok (.lconst 0, 1) := by decide +kernel
theorem dX1_cutOf_83 : decode cX1_cutOf 83 = .ok (.lcmp, 1) := by decide +kernel
theorem dX1_cutOf_84 : decode cX1_cutOf 84 = .ok (.ifCond .le 34, 3) := by decide +kernel
theorem dX1_cutOf_87 : decode cX1_cutOf 87 = .ok (.aload_n 0, 1) := by decide +kernel
theorem dX1_cutOf_88 : decode cX1_cutOf 88 = .ok (.aload_n 0, 1) := by decide +kernel
theorem dX1_cutOf_89 : decode cX1_cutOf 89 = .ok (.getfield 33, 3) := by decide +kernel
theorem dX1_cutOf_92 : decode cX1_cutOf 92 = .ok (.bipush 12, 2) := by decide +kernel
theorem dX1_cutOf_94 : decode cX1_cutOf 94 = .ok (.iload_n 1, 1) := by decide +kernel
theorem dX1_cutOf_95 : decode cX1_cutOf 95 = .ok (.imul, 1) := by decide +kernel
theorem dX1_cutOf_96 : decode cX1_cutOf 96 = .ok (.iload 4, 2) := by decide +kernel
theorem dX1_cutOf_98 : decode cX1_cutOf 98 = .ok (.iadd, 1) := by decide +kernel
theorem dX1_cutOf_99 : decode cX1_cutOf 99 = .ok (.iaload, 1) := by decide +kernel
theorem dX1_cutOf_100 : decode cX1_cutOf 100 = .ok (.invokevirtual 94, 3) := by decide +kernel
theorem dX1_cutOf_103 : decode cX1_cutOf 103 = .ok (.ifCond .eq 15, 3) := by decide +kernel
theorem dX1_cutOf_106 : decode cX1_cutOf 106 = .ok (.lload_n 2, 1) := by decide +kernel
theorem dX1_cutOf_107 : decode cX1_cutOf 107 = .ok (.ldc2_w 139, 3) := by decide +kernel
theorem dX1_cutOf_110 : decode cX1_cutOf 110 = .ok (.lload 7, 2) := by decide +kernel
theorem dX1_cutOf_112 : decode cX1_cutOf 112 = .ok (.ldiv, 1) := by decide +kernel
theorem dX1_cutOf_113 : decode cX1_cutOf 113 = .ok (.lload 5, 2) := by decide +kernel
theorem dX1_cutOf_115 : decode cX1_cutOf 115 = .ok (.lmul, 1) := by decide +kernel
theorem dX1_cutOf_116 : decode cX1_cutOf 116 = .ok (.ladd, 1) := by decide +kernel
theorem dX1_cutOf_117 : decode cX1_cutOf 117 = .ok (.lstore_n 2, 1) := by decide +kernel
theorem dX1_cutOf_118 : decode cX1_cutOf 118 = .ok (.iinc 4 1, 3) := by decide +kernel
theorem dX1_cutOf_121 : decode cX1_cutOf 121 = .ok (.goto (-116), 3) := by decide +kernel
theorem dX1_cutOf_124 : decode cX1_cutOf 124 = .ok (.lload_n 2, 1) := by decide +kernel
theorem dX1_cutOf_125 : decode cX1_cutOf 125 = .ok (.lreturn, 1) := by decide +kernel
theorem dX1_cut_0 : decode cX1_cut 0 = .ok (.aload_n 0, 1) := by decide +kernel
theorem dX1_cut_1 : decode cX1_cut 1 = .ok (.iload_n 1, 1) := by decide +kernel
theorem dX1_cut_2 : decode cX1_cut 2 = .ok (.invokevirtual 63, 3) := by decide +kernel
theorem dX1_cut_5 : decode cX1_cut 5 = .ok (.ifCond .eq 13, 3) := by decide +kernel
theorem dX1_cut_8 : decode cX1_cut 8 = .ok (.aload_n 0, 1) := by decide +kernel
theorem dX1_cut_9 : decode cX1_cut 9 = .ok (.iload_n 2, 1) := by decide +kernel
theorem dX1_cut_10 : decode cX1_cut 10 = .ok (.iconst 0, 1) := by decide +kernel
theorem dX1_cut_11 : decode cX1_cut 11 = .ok (.iconst 1, 1) := by decide +kernel
theorem dX1_cut_12 : decode cX1_cut 12 = .ok (.invokevirtual 51, 3) := by decide +kernel
theorem dX1_cut_15 : decode cX1_cut 15 = .ok (.ifCond .ne 7, 3) := by decide +kernel
theorem dX1_cut_18 : decode cX1_cut 18 = .ok (.ldc2_w 104, 3) := by decide +kernel
theorem dX1_cut_21 : decode cX1_cut 21 = .ok (.lreturn, 1) := by decide +kernel
theorem dX1_cut_22 : decode cX1_cut 22 = .ok (.aload_n 0, 1) := by decide +kernel
theorem dX1_cut_23 : decode cX1_cut 23 = .ok (.aload_n 0, 1) := by decide +kernel
theorem dX1_cut_24 : decode cX1_cut 24 = .ok (.iload_n 1, 1) := by decide +kernel
theorem dX1_cut_25 : decode cX1_cut 25 = .ok (.invokevirtual 141, 3) := by decide +kernel
theorem dX1_cut_28 : decode cX1_cut 28 = .ok (.ldc2_w 139, 3) := by decide +kernel
theorem dX1_cut_31 : decode cX1_cut 31 = .ok (.iload_n 2, 1) := by decide +kernel
theorem dX1_cut_32 : decode cX1_cut 32 = .ok (.invokevirtual 106, 3) := by decide +kernel
theorem dX1_cut_35 : decode cX1_cut 35 = .ok (.lreturn, 1) := by decide +kernel
theorem dX1_isPassed_0 : decode cX1_isPassed 0 = .ok (.ldc2_w 139, 3) := by decide +kernel
theorem dX1_isPassed_3 : decode cX1_isPassed 3 = .ok (.aload_n 0, 1) := by decide +kernel
theorem dX1_isPassed_4 : decode cX1_isPassed 4 = .ok (.iload_n 1, 1) := by decide +kernel
theorem dX1_isPassed_5 : decode cX1_isPassed 5 = .ok (.invokevirtual 97, 3) := by decide +kernel
theorem dX1_isPassed_8 : decode cX1_isPassed 8 = .ok (.i2l, 1) := by decide +kernel
theorem dX1_isPassed_9 : decode cX1_isPassed 9 = .ok (.lmul, 1) := by decide +kernel
theorem dX1_isPassed_10 : decode cX1_isPassed 10 = .ok (.aload_n 0, 1) := by decide +kernel
theorem dX1_isPassed_11 : decode cX1_isPassed 11 = .ok (.aload_n 0, 1) := by decide +kernel
theorem dX1_isPassed_12 : decode cX1_isPassed 12 = .ok (.getfield 39, 3) := by decide +kernel
theorem dX1_isPassed_15 : decode cX1_isPassed 15 = .ok (.iload_n 1, 1) := by decide +kernel
theorem dX1_isPassed_16 : decode cX1_isPassed 16 = .ok (.iaload, 1) := by decide +kernel
theorem dX1_isPassed_17 : decode cX1_isPassed 17 = .ok (.invokevirtual 141, 3) := by decide +kernel
theorem dX1_isPassed_20 : decode cX1_isPassed 20 = .ok (.lcmp, 1) := by decide +kernel
theorem dX1_isPassed_21 : decode cX1_isPassed 21 = .ok (.ifCond .lt 7, 3) := by decide +kernel
theorem dX1_isPassed_24 : decode cX1_isPassed 24 = .ok (.iconst 1, 1) := by decide +kernel
theorem dX1_isPassed_25 : decode cX1_isPassed 25 = .ok (.goto 4, 3) := by decide +kernel
theorem dX1_isPassed_28 : decode cX1_isPassed 28 = .ok (.iconst 0, 1) := by decide +kernel
theorem dX1_isPassed_29 : decode cX1_isPassed 29 = .ok (.ireturn, 1) := by decide +kernel
theorem dX1_passes_0 : decode cX1_passes 0 = .ok (.aload_n 0, 1) := by decide +kernel
theorem dX1_passes_1 : decode cX1_passes 1 = .ok (.iload_n 1, 1) := by decide +kernel
theorem dX1_passes_2 : decode cX1_passes 2 = .ok (.invokevirtual 74, 3) := by decide +kernel
theorem dX1_passes_5 : decode cX1_passes 5 = .ok (.ifCond .eq 19, 3) := by decide +kernel
theorem dX1_passes_8 : decode cX1_passes 8 = .ok (.aload_n 0, 1) := by decide +kernel
theorem dX1_passes_9 : decode cX1_passes 9 = .ok (.iload_n 1, 1) := by decide +kernel
theorem dX1_passes_10 : decode cX1_passes 10 = .ok (.invokevirtual 145, 3) := by decide +kernel
theorem dX1_passes_13 : decode cX1_passes 13 = .ok (.ifCond .eq 7, 3) := by decide +kernel
theorem dX1_passes_16 : decode cX1_passes 16 = .ok (.iconst 1, 1) := by decide +kernel
theorem dX1_passes_17 : decode cX1_passes 17 = .ok (.goto 8, 3) := by decide +kernel
theorem dX1_passes_20 : decode cX1_passes 20 = .ok (.iconst 0, 1) := by decide +kernel
theorem dX1_passes_21 : decode cX1_passes 21 = .ok (.goto 4, 3) := by decide +kernel
theorem dX1_passes_24 : decode cX1_passes 24 = .ok (.iconst (-1), 1) := by decide +kernel
theorem dX1_passes_25 : decode cX1_passes 25 = .ok (.ireturn, 1) := by decide +kernel
theorem dX1_border_0 : decode cX1_border 0 = .ok (.aload_n 0, 1) := by decide +kernel
theorem dX1_border_1 : decode cX1_border 1 = .ok (.iload_n 1, 1) := by decide +kernel
theorem dX1_border_2 : decode cX1_border 2 = .ok (.invokevirtual 63, 3) := by decide +kernel
theorem dX1_border_5 : decode cX1_border 5 = .ok (.ifCond .ne 5, 3) := by decide +kernel
theorem dX1_border_8 : decode cX1_border 8 = .ok (.iconst (-1), 1) := by decide +kernel
theorem dX1_border_9 : decode cX1_border 9 = .ok (.ireturn, 1) := by decide +kernel
theorem dX1_border_10 : decode cX1_border 10 = .ok (.iload_n 2, 1) := by decide +kernel
theorem dX1_border_11 : decode cX1_border 11 = .ok (.ifCond .ge 6, 3) := by decide +kernel
theorem dX1_border_14 : decode cX1_border 14 = .ok (.bipush (-2), 2) := by decide +kernel
theorem dX1_border_16 : decode cX1_border 16 = .ok (.ireturn, 1) := by decide +kernel
theorem dX1_border_17 : decode cX1_border 17 = .ok (.iconst 0, 1) := by decide +kernel
theorem dX1_border_18 : decode cX1_border 18 = .ok (.istore_n 3, 1) := by decide +kernel
theorem dX1_border_19 : decode cX1_border 19 = .ok (.iconst 0, 1) := by decide +kernel
theorem dX1_border_20 : decode cX1_border 20 = .ok (.istore 4, 2) := by decide +kernel
theorem dX1_border_22 : decode cX1_border 22 = .ok (.iload 4, 2) := by decide +kernel
theorem dX1_border_24 : decode cX1_border 24 = .ok (.aload_n 0, 1) := by decide +kernel
theorem dX1_border_25 : decode cX1_border 25 = .ok (.getfield 16, 3) := by decide +kernel
theorem dX1_border_28 : decode cX1_border 28 = .ok (.if_icmp .ge 75, 3) := by decide +kernel
theorem dX1_border_31 : decode cX1_border 31 = .ok (.aload_n 0, 1) := by decide +kernel
theorem dX1_border_32 : decode cX1_border 32 = .ok (.getfield 39, 3) := by decide +kernel
theorem dX1_border_35 : decode cX1_border 35 = .ok (.iload 4, 2) := by decide +kernel
theorem dX1_border_37 : decode cX1_border 37 = .ok (.iaload, 1) := by decide +kernel
theorem dX1_border_38 : decode cX1_border 38 = .ok (.iload_n 1, 1) := by decide +kernel
theorem dX1_border_39 : decode cX1_border 39 = .ok (.if_icmp .eq 6, 3) := by decide +kernel
theorem dX1_border_42 : decode cX1_border 42 = .ok (.goto 55, 3) := by decide +kernel
theorem dX1_border_45 : decode cX1_border 45 = .ok (.ldc2_w 139, 3) := by decide +kernel
theorem dX1_border_48 : decode cX1_border 48 = .ok (.aload_n 0, 1) := by decide +kernel
theorem dX1_border_49 : decode cX1_border 49 = .ok (.iload 4, 2) := by decide +kernel
theorem dX1_border_51 : decode cX1_border 51 = .ok (.invokevirtual 97, 3) := by decide +kernel
theorem dX1_border_54 : decode cX1_border 54 = .ok (.i2l, 1) := by decide +kernel
theorem dX1_border_55 : decode cX1_border 55 = .ok (.lmul, 1) := by decide +kernel
theorem dX1_border_56 : decode cX1_border 56 = .ok (.aload_n 0, 1) := by decide +kernel
theorem dX1_border_57 : decode cX1_border 57 = .ok (.iload_n 1, 1) := by decide +kernel
theorem dX1_border_58 : decode cX1_border 58 = .ok (.invokevirtual 141, 3) := by decide +kernel
theorem dX1_border_61 : decode cX1_border 61 = .ok (.lsub, 1) := by decide +kernel
theorem dX1_border_62 : decode cX1_border 62 = .ok (.lstore 5, 2) := by decide +kernel
theorem dX1_border_64 : decode cX1_border 64 = .ok (.iload_n 3, 1) := by decide +kernel
theorem dX1_border_65 : decode cX1_border 65 = .ok (.lload 5, 2) := by decide +kernel
theorem dX1_border_67 : decode cX1_border 67 = .ok (.lconst 0, 1) := by decide +kernel
theorem dX1_border_68 : decode cX1_border 68 = .ok (.lcmp, 1) := by decide +kernel
theorem dX1_border_69 : decode cX1_border 69 = .ok (.ifCond .ge 9, 3) := by decide +kernel
theorem dX1_border_72 : decode cX1_border 72 = .ok (.lload 5, 2) := by decide +kernel
theorem dX1_border_74 : decode cX1_border 74 = .ok (.lneg, 1) := by decide +kernel
theorem dX1_border_75 : decode cX1_border 75 = .ok (.goto 5, 3) := by decide +kernel
theorem dX1_border_78 : decode cX1_border 78 = .ok (.lload 5, 2) := by decide +kernel
theorem dX1_border_80 : decode cX1_border 80 = .ok (.ldc2_w 139, 3) := by decide +kernel
theorem dX1_border_83 : decode cX1_border 83 = .ok (.iload_n 2, 1) := by decide +kernel
theorem dX1_border_84 : decode cX1_border 84 = .ok (.i2l, 1) := by decide +kernel
theorem dX1_border_85 : decode cX1_border 85 = .ok (.lmul, 1) := by decide +kernel
theorem dX1_border_86 : decode cX1_border 86 = .ok (.lcmp, 1) := by decide +kernel
theorem dX1_border_87 : decode cX1_border 87 = .ok (.ifCond .gt 7, 3) := by decide +kernel
theorem dX1_border_90 : decode cX1_border 90 = .ok (.iconst 1, 1) := by decide +kernel
theorem dX1_border_91 : decode cX1_border 91 = .ok (.goto 4, 3) := by decide +kernel
theorem dX1_border_94 : decode cX1_border 94 = .ok (.iconst 0, 1) := by decide +kernel
theorem dX1_border_95 : decode cX1_border 95 = .ok (.iadd, 1) := by decide +kernel
theorem dX1_border_96 : decode cX1_border 96 = .ok (.istore_n 3, 1) := by decide +kernel
theorem dX1_border_97 : decode cX1_border 97 = .ok (.iinc 4 1, 3) := by decide +kernel
theorem dX1_border_100 : decode cX1_border 100 = .ok (.goto (-78), 3) := by decide +kernel
theorem dX1_border_103 : decode cX1_border 103 = .ok (.iload_n 3, 1) := by decide +kernel
theorem dX1_border_104 : decode cX1_border 104 = .ok (.ireturn, 1) := by decide +kernel
theorem dX1_alikeMany_0 : decode cX1_alikeMany 0 = .ok (.aload_n 0, 1) := by decide +kernel
theorem dX1_alikeMany_1 : decode cX1_alikeMany 1 = .ok (.getfield 39, 3) := by decide +kernel
theorem dX1_alikeMany_4 : decode cX1_alikeMany 4 = .ok (.iload_n 1, 1) := by decide +kernel
theorem dX1_alikeMany_5 : decode cX1_alikeMany 5 = .ok (.iaload, 1) := by decide +kernel
theorem dX1_alikeMany_6 : decode cX1_alikeMany 6 = .ok (.istore_n 3, 1) := by decide +kernel
theorem dX1_alikeMany_7 : decode cX1_alikeMany 7 = .ok (.iconst 0, 1) := by decide +kernel
theorem dX1_alikeMany_8 : decode cX1_alikeMany 8 = .ok (.istore 4, 2) := by decide +kernel
theorem dX1_alikeMany_10 : decode cX1_alikeMany 10 = .ok (.iconst 0, 1) := by decide +kernel
theorem dX1_alikeMany_11 : decode cX1_alikeMany 11 = .ok (.istore 5, 2) := by decide +kernel
theorem dX1_alikeMany_13 : decode cX1_alikeMany 13 = .ok (.iload 5, 2) := by decide +kernel
theorem dX1_alikeMany_15 : decode cX1_alikeMany 15 = .ok (.aload_n 0, 1) := by decide +kernel
theorem dX1_alikeMany_16 : decode cX1_alikeMany 16 = .ok (.getfield 36, 3) := by decide +kernel
theorem dX1_alikeMany_19 : decode cX1_alikeMany 19 = .ok (.iload_n 3, 1) := by decide +kernel
theorem dX1_alikeMany_20 : decode cX1_alikeMany 20 = .ok (.iaload, 1) := by decide +kernel
theorem dX1_alikeMany_21 : decode cX1_alikeMany 21 = .ok (.if_icmp .ge 88, 3) := by decide +kernel
theorem dX1_alikeMany_24 : decode cX1_alikeMany 24 = .ok (.iload 4, 2) := by decide +kernel
theorem dX1_alikeMany_26 : decode cX1_alikeMany 26 = .ok (.aload_n 0, 1) := by decide +kernel
theorem dX1_alikeMany_27 : decode cX1_alikeMany 27 = .ok (.getfield 45, 3) := by decide +kernel
theorem dX1_alikeMany_30 : decode cX1_alikeMany 30 = .ok (.bipush 12, 2) := by decide +kernel
theorem dX1_alikeMany_32 : decode cX1_alikeMany 32 = .ok (.iload_n 1, 1) := by decide +kernel
theorem dX1_alikeMany_33 : decode cX1_alikeMany 33 = .ok (.imul, 1) := by decide +kernel
theorem dX1_alikeMany_34 : decode cX1_alikeMany 34 = .ok (.iload 5, 2) := by decide +kernel
theorem dX1_alikeMany_36 : decode cX1_alikeMany 36 = .ok (.iadd, 1) := by decide +kernel
theorem dX1_alikeMany_37 : decode cX1_alikeMany 37 = .ok (.iaload, 1) := by decide +kernel
theorem dX1_alikeMany_38 : decode cX1_alikeMany 38 = .ok (.ifCond .lt 61, 3) := by decide +kernel
theorem dX1_alikeMany_41 : decode cX1_alikeMany 41 = .ok (.aload_n 0, 1) := by decide +kernel
theorem dX1_alikeMany_42 : decode cX1_alikeMany 42 = .ok (.getfield 45, 3) := by decide +kernel
theorem dX1_alikeMany_45 : decode cX1_alikeMany 45 = .ok (.bipush 12, 2) := by decide +kernel
theorem dX1_alikeMany_47 : decode cX1_alikeMany 47 = .ok (.iload_n 1, 1) := by decide +kernel
theorem dX1_alikeMany_48 : decode cX1_alikeMany 48 = .ok (.imul, 1) := by decide +kernel
theorem dX1_alikeMany_49 : decode cX1_alikeMany 49 = .ok (.iload 5, 2) := by decide +kernel
theorem dX1_alikeMany_51 : decode cX1_alikeMany 51 = .ok (.iadd, 1) := by decide +kernel
theorem dX1_alikeMany_52 : decode cX1_alikeMany 52 = .ok (.iaload, 1) := by decide +kernel
theorem dX1_alikeMany_53 : decode cX1_alikeMany 53 = .ok (.aload_n 0, 1) := by decide +kernel
theorem dX1_alikeMany_54 : decode cX1_alikeMany 54 = .ok (.getfield 45, 3) := by decide +kernel
theorem dX1_alikeMany_57 : decode cX1_alikeMany 57 = .ok (.bipush 12, 2) := by decide +kernel
theorem dX1_alikeMany_59 : decode cX1_alikeMany 59 = .ok (.iload_n 2, 1) := by decide +kernel
theorem dX1_alikeMany_60 : decode cX1_alikeMany 60 = .ok (.imul, 1) := by decide +kernel
theorem dX1_alikeMany_61 : decode cX1_alikeMany 61 = .ok (.iload 5, 2) := by decide +kernel
theorem dX1_alikeMany_63 : decode cX1_alikeMany 63 = .ok (.iadd, 1) := by decide +kernel
theorem dX1_alikeMany_64 : decode cX1_alikeMany 64 = .ok (.iaload, 1) := by decide +kernel
theorem dX1_alikeMany_65 : decode cX1_alikeMany 65 = .ok (.if_icmp .ne 34, 3) := by decide +kernel
theorem dX1_alikeMany_68 : decode cX1_alikeMany 68 = .ok (.aload_n 0, 1) := by decide +kernel
theorem dX1_alikeMany_69 : decode cX1_alikeMany 69 = .ok (.iload_n 1, 1) := by decide +kernel
theorem dX1_alikeMany_70 : decode cX1_alikeMany 70 = .ok (.iload 5, 2) := by decide +kernel
theorem dX1_alikeMany_72 : decode cX1_alikeMany 72 = .ok (.invokevirtual 88, 3) := by decide +kernel
theorem dX1_alikeMany_75 : decode cX1_alikeMany 75 = .ok (.aload_n 0, 1) := by decide +kernel
theorem dX1_alikeMany_76 : decode cX1_alikeMany 76 = .ok (.getfield 23, 3) := by decide +kernel
theorem dX1_alikeMany_79 : decode cX1_alikeMany 79 = .ok (.aload_n 0, 1) := by decide +kernel
theorem dX1_alikeMany_80 : decode cX1_alikeMany 80 = .ok (.getfield 33, 3) := by decide +kernel
theorem dX1_alikeMany_83 : decode cX1_alikeMany 83 = .ok (.bipush 12, 2) := by decide +kernel
theorem dX1_alikeMany_85 : decode cX1_alikeMany 85 = .ok (.iload_n 3, 1) := by decide +kernel
theorem dX1_alikeMany_86 : decode cX1_alikeMany 86 = .ok (.imul, 1) := by decide +kernel
theorem dX1_alikeMany_87 : decode cX1_alikeMany 87 = .ok (.iload 5, 2) := by decide +kernel
theorem dX1_alikeMany_89 : decode cX1_alikeMany 89 = .ok (.iadd, 1) := by decide +kernel
theorem dX1_alikeMany_90 : decode cX1_alikeMany 90 = .ok (.iaload, 1) := by decide +kernel
theorem dX1_alikeMany_91 : decode cX1_alikeMany 91 = .ok (.iaload, 1) := by decide +kernel
theorem dX1_alikeMany_92 : decode cX1_alikeMany 92 = .ok (.if_icmp .ge 7, 3) := by decide +kernel
theorem dX1_alikeMany_95 : decode cX1_alikeMany 95 = .ok (.iconst 1, 1) := by decide +kernel
theorem dX1_alikeMany_96 : decode cX1_alikeMany 96 = .ok (.goto 4, 3) := by decide +kernel
theorem dX1_alikeMany_99 : decode cX1_alikeMany 99 = .ok (.iconst 0, 1) := by decide +kernel
theorem dX1_alikeMany_100 : decode cX1_alikeMany 100 = .ok (.iadd, 1) := by decide +kernel
theorem dX1_alikeMany_101 : decode cX1_alikeMany 101 = .ok (.istore 4, 2) := by decide +kernel
theorem dX1_alikeMany_103 : decode cX1_alikeMany 103 = .ok (.iinc 5 1, 3) := by decide +kernel
theorem dX1_alikeMany_106 : decode cX1_alikeMany 106 = .ok (.goto (-93), 3) := by decide +kernel
theorem dX1_alikeMany_109 : decode cX1_alikeMany 109 = .ok (.iload 4, 2) := by decide +kernel
theorem dX1_alikeMany_111 : decode cX1_alikeMany 111 = .ok (.ireturn, 1) := by decide +kernel
theorem dX1_alike_0 : decode cX1_alike 0 = .ok (.aload_n 0, 1) := by decide +kernel
theorem dX1_alike_1 : decode cX1_alike 1 = .ok (.iload_n 1, 1) := by decide +kernel
theorem dX1_alike_2 : decode cX1_alike 2 = .ok (.invokevirtual 74, 3) := by decide +kernel
theorem dX1_alike_5 : decode cX1_alike 5 = .ok (.ifCond .eq 11, 3) := by decide +kernel
theorem dX1_alike_8 : decode cX1_alike 8 = .ok (.aload_n 0, 1) := by decide +kernel
theorem dX1_alike_9 : decode cX1_alike 9 = .ok (.iload_n 2, 1) := by decide +kernel
theorem dX1_alike_10 : decode cX1_alike 10 = .ok (.invokevirtual 74, 3) := by decide +kernel
theorem dX1_alike_13 : decode cX1_alike 13 = .ok (.ifCond .ne 5, 3) := by decide +kernel
theorem dX1_alike_16 : decode cX1_alike 16 = .ok (.iconst (-1), 1) := by decide +kernel
theorem dX1_alike_17 : decode cX1_alike 17 = .ok (.ireturn, 1) := by decide +kernel
theorem dX1_alike_18 : decode cX1_alike 18 = .ok (.iload_n 1, 1) := by decide +kernel
theorem dX1_alike_19 : decode cX1_alike 19 = .ok (.iload_n 2, 1) := by decide +kernel
theorem dX1_alike_20 : decode cX1_alike 20 = .ok (.if_icmp .eq 18, 3) := by decide +kernel
theorem dX1_alike_23 : decode cX1_alike 23 = .ok (.aload_n 0, 1) := by decide +kernel
theorem dX1_alike_24 : decode cX1_alike 24 = .ok (.getfield 39, 3) := by decide +kernel
theorem dX1_alike_27 : decode cX1_alike 27 = .ok (.iload_n 1, 1) := by decide +kernel
theorem dX1_alike_28 : decode cX1_alike 28 = .ok (.iaload, 1) := by decide +kernel
theorem dX1_alike_29 : decode cX1_alike 29 = .ok (.aload_n 0, 1) := by decide +kernel
theorem dX1_alike_30 : decode cX1_alike 30 = .ok (.getfield 39, 3) := by decide +kernel
theorem dX1_alike_33 : decode cX1_alike 33 = .ok (.iload_n 2, 1) := by decide +kernel
theorem dX1_alike_34 : decode cX1_alike 34 = .ok (.iaload, 1) := by decide +kernel
theorem dX1_alike_35 : decode cX1_alike 35 = .ok (.if_icmp .eq 8, 3) := by decide +kernel
theorem dX1_alike_38 : decode cX1_alike 38 = .ok (.bipush (-2), 2) := by decide +kernel
theorem dX1_alike_40 : decode cX1_alike 40 = .ok (.goto 9, 3) := by decide +kernel
theorem dX1_alike_43 : decode cX1_alike 43 = .ok (.aload_n 0, 1) := by decide +kernel
theorem dX1_alike_44 : decode cX1_alike 44 = .ok (.iload_n 1, 1) := by decide +kernel
theorem dX1_alike_45 : decode cX1_alike 45 = .ok (.iload_n 2, 1) := by decide +kernel
theorem dX1_alike_46 : decode cX1_alike 46 = .ok (.invokevirtual 148, 3) := by decide +kernel
theorem dX1_alike_49 : decode cX1_alike 49 = .ok (.ireturn, 1) := by decide +kernel
theorem dX1_pair_0 : decode cX1_pair 0 = .ok (.aload_n 0, 1) := by decide +kernel
theorem dX1_pair_1 : decode cX1_pair 1 = .ok (.iload_n 1, 1) := by decide +kernel
theorem dX1_pair_2 : decode cX1_pair 2 = .ok (.invokevirtual 63, 3) := by decide +kernel
theorem dX1_pair_5 : decode cX1_pair 5 = .ok (.ifCond .eq 7, 3) := by decide +kernel
theorem dX1_pair_8 : decode cX1_pair 8 = .ok (.iload_n 3, 1) := by decide +kernel
theorem dX1_pair_9 : decode cX1_pair 9 = .ok (.ifCond .ge 5, 3) := by decide +kernel
theorem dX1_pair_12 : decode cX1_pair 12 = .ok (.iconst (-1), 1) := by decide +kernel
theorem dX1_pair_13 : decode cX1_pair 13 = .ok (.ireturn, 1) := by decide +kernel
theorem dX1_pair_14 : decode cX1_pair 14 = .ok (.iload_n 2, 1) := by decide +kernel
theorem dX1_pair_15 : decode cX1_pair 15 = .ok (.iconst 1, 1) := by decide +kernel
theorem dX1_pair_16 : decode cX1_pair 16 = .ok (.if_icmp .ge 6, 3) := by decide +kernel
theorem dX1_pair_19 : decode cX1_pair 19 = .ok (.bipush (-2), 2) := by decide +kernel
theorem dX1_pair_21 : decode cX1_pair 21 = .ok (.ireturn, 1) := by decide +kernel
theorem dX1_pair_22 : decode cX1_pair 22 = .ok (.iload_n 3, 1) := by decide +kernel
theorem dX1_pair_23 : decode cX1_pair 23 = .ok (.istore 4, 2) := by decide +kernel
theorem dX1_pair_25 : decode cX1_pair 25 = .ok (.iconst 0, 1) := by decide +kernel
theorem dX1_pair_26 : decode cX1_pair 26 = .ok (.istore 5, 2) := by decide +kernel
theorem dX1_pair_28 : decode cX1_pair 28 = .ok (.iload 5, 2) := by decide +kernel
theorem dX1_pair_30 : decode cX1_pair 30 = .ok (.aload_n 0, 1) := by decide +kernel
theorem dX1_pair_31 : decode cX1_pair 31 = .ok (.getfield 16, 3) := by decide +kernel
theorem dX1_pair_34 : decode cX1_pair 34 = .ok (.if_icmp .ge 84, 3) := by decide +kernel
theorem dX1_pair_37 : decode cX1_pair 37 = .ok (.iload 5, 2) := by decide +kernel
theorem dX1_pair_39 : decode cX1_pair 39 = .ok (.iconst 1, 1) := by decide +kernel
theorem dX1_pair_40 : decode cX1_pair 40 = .ok (.iadd, 1) := by decide +kernel
theorem dX1_pair_41 : decode cX1_pair 41 = .ok (.istore 6, 2) := by decide +kernel
theorem dX1_pair_43 : decode cX1_pair 43 = .ok (.iload 6, 2) := by decide +kernel
theorem dX1_pair_45 : decode cX1_pair 45 = .ok (.aload_n 0, 1) := by decide +kernel
theorem dX1_pair_46 : decode cX1_pair 46 = .ok (.getfield 16, 3) := by decide +kernel
theorem dX1_pair_49 : decode cX1_pair 49 = .ok (.if_icmp .ge 63, 3) := by decide +kernel
theorem dX1_pair_52 : decode cX1_pair 52 = .ok (.aload_n 0, 1) := by decide +kernel
theorem dX1_pair_53 : decode cX1_pair 53 = .ok (.getfield 39, 3) := by decide +kernel
theorem dX1_pair_56 : decode cX1_pair 56 = .ok (.iload 5, 2) := by decide +kernel
theorem dX1_pair_58 : decode cX1_pair 58 = .ok (.iaload, 1) := by decide +kernel
theorem dX1_pair_59 : decode cX1_pair 59 = .ok (.iload_n 1, 1) := by decide +kernel
theorem dX1_pair_60 : decode cX1_pair 60 = .ok (.if_icmp .ne 46, 3) := by decide +kernel
theorem dX1_pair_63 : decode cX1_pair 63 = .ok (.aload_n 0, 1) := by decide +kernel
theorem dX1_pair_64 : decode cX1_pair 64 = .ok (.getfield 39, 3) := by decide +kernel
theorem dX1_pair_67 : decode cX1_pair 67 = .ok (.iload 6, 2) := by decide +kernel
theorem dX1_pair_69 : decode cX1_pair 69 = .ok (.iaload, 1) := by decide +kernel
theorem dX1_pair_70 : decode cX1_pair 70 = .ok (.iload_n 1, 1) := by decide +kernel
theorem dX1_pair_71 : decode cX1_pair 71 = .ok (.if_icmp .ne 35, 3) := by decide +kernel
theorem dX1_pair_74 : decode cX1_pair 74 = .ok (.aload_n 0, 1) := by decide +kernel
theorem dX1_pair_75 : decode cX1_pair 75 = .ok (.iload 5, 2) := by decide +kernel
theorem dX1_pair_77 : decode cX1_pair 77 = .ok (.iload 6, 2) := by decide +kernel
theorem dX1_pair_79 : decode cX1_pair 79 = .ok (.invokevirtual 148, 3) := by decide +kernel
theorem dX1_pair_82 : decode cX1_pair 82 = .ok (.iload_n 2, 1) := by decide +kernel
theorem dX1_pair_83 : decode cX1_pair 83 = .ok (.if_icmp .ge 6, 3) := by decide +kernel
theorem dX1_pair_86 : decode cX1_pair 86 = .ok (.goto 20, 3) := by decide +kernel
theorem dX1_pair_89 : decode cX1_pair 89 = .ok (.iload 4, 2) := by decide +kernel
theorem dX1_pair_91 : decode cX1_pair 91 = .ok (.ifCond .ne 12, 3) := by decide +kernel
theorem dX1_pair_94 : decode cX1_pair 94 = .ok (.bipush 64, 2) := by decide +kernel
theorem dX1_pair_96 : decode cX1_pair 96 = .ok (.iload 5, 2) := by decide +kernel
theorem dX1_pair_98 : decode cX1_pair 98 = .ok (.imul, 1) := by decide +kernel
theorem dX1_pair_99 : decode cX1_pair 99 = .ok (.iload 6, 2) := by decide +kernel
theorem dX1_pair_101 : decode cX1_pair 101 = .ok (.iadd, 1) := by decide +kernel
theorem dX1_pair_102 : decode cX1_pair 102 = .ok (.ireturn, 1) := by decide +kernel
theorem dX1_pair_103 : decode cX1_pair 103 = .ok (.iinc 4 (-1), 3) := by decide +kernel
theorem dX1_pair_106 : decode cX1_pair 106 = .ok (.iinc 6 1, 3) := by decide +kernel
theorem dX1_pair_109 : decode cX1_pair 109 = .ok (.goto (-66), 3) := by decide +kernel
theorem dX1_pair_112 : decode cX1_pair 112 = .ok (.iinc 5 1, 3) := by decide +kernel
theorem dX1_pair_115 : decode cX1_pair 115 = .ok (.goto (-87), 3) := by decide +kernel
theorem dX1_pair_118 : decode cX1_pair 118 = .ok (.iconst (-1), 1) := by decide +kernel
theorem dX1_pair_119 : decode cX1_pair 119 = .ok (.ireturn, 1) := by decide +kernel
theorem dX1_count_0 : decode cX1_count 0 = .ok (.iconst 0, 1) := by decide +kernel
theorem dX1_count_1 : decode cX1_count 1 = .ok (.istore_n 2, 1) := by decide +kernel
theorem dX1_count_2 : decode cX1_count 2 = .ok (.iload_n 1, 1) := by decide +kernel
theorem dX1_count_3 : decode cX1_count 3 = .ok (.tableswitch 187 0 5 #[37, 42, 47, 52, 118, 153], 37) := by decide +kernel
theorem dX1_count_40 : decode cX1_count 40 = .ok (.aload_n 0, 1) := by decide +kernel
theorem dX1_count_41 : decode cX1_count 41 = .ok (.getfield 7, 3) := by decide +kernel
theorem dX1_count_44 : decode cX1_count 44 = .ok (.ireturn, 1) := by decide +kernel
theorem dX1_count_45 : decode cX1_count 45 = .ok (.aload_n 0, 1) := by decide +kernel
theorem dX1_count_46 : decode cX1_count 46 = .ok (.getfield 13, 3) := by decide +kernel
theorem dX1_count_49 : decode cX1_count 49 = .ok (.ireturn, 1) := by decide +kernel
theorem dX1_count_50 : decode cX1_count 50 = .ok (.aload_n 0, 1) := by decide +kernel
theorem dX1_count_51 : decode cX1_count 51 = .ok (.getfield 16, 3) := by decide +kernel
theorem dX1_count_54 : decode cX1_count 54 = .ok (.ireturn, 1) := by decide +kernel
theorem dX1_count_55 : decode cX1_count 55 = .ok (.iconst 0, 1) := by decide +kernel
theorem dX1_count_56 : decode cX1_count 56 = .ok (.istore_n 3, 1) := by decide +kernel
theorem dX1_count_57 : decode cX1_count 57 = .ok (.iload_n 3, 1) := by decide +kernel
theorem dX1_count_58 : decode cX1_count 58 = .ok (.aload_n 0, 1) := by decide +kernel
theorem dX1_count_59 : decode cX1_count 59 = .ok (.getfield 16, 3) := by decide +kernel
theorem dX1_count_62 : decode cX1_count 62 = .ok (.if_icmp .ge 57, 3) := by decide +kernel
theorem dX1_count_65 : decode cX1_count 65 = .ok (.iconst 0, 1) := by decide +kernel
theorem dX1_count_66 : decode cX1_count 66 = .ok (.istore 4, 2) := by decide +kernel
theorem dX1_count_68 : decode cX1_count 68 = .ok (.iload 4, 2) := by decide +kernel
theorem dX1_count_70 : decode cX1_count 70 = .ok (.aload_n 0, 1) := by decide +kernel
theorem dX1_count_71 : decode cX1_count 71 = .ok (.getfield 36, 3) := by decide +kernel
theorem dX1_count_74 : decode cX1_count 74 = .ok (.aload_n 0, 1) := by decide +kernel
theorem dX1_count_75 : decode cX1_count 75 = .ok (.getfield 39, 3) := by decide +kernel
theorem dX1_count_78 : decode cX1_count 78 = .ok (.iload_n 3, 1) := by decide +kernel
theorem dX1_count_79 : decode cX1_count 79 = .ok (.iaload, 1) := by decide +kernel
theorem dX1_count_80 : decode cX1_count 80 = .ok (.iaload, 1) := by decide +kernel
theorem dX1_count_81 : decode cX1_count 81 = .ok (.if_icmp .ge 32, 3) := by decide +kernel
theorem dX1_count_84 : decode cX1_count 84 = .ok (.iload_n 2, 1) := by decide +kernel
theorem dX1_count_85 : decode cX1_count 85 = .ok (.aload_n 0, 1) := by decide +kernel
theorem dX1_count_86 : decode cX1_count 86 = .ok (.getfield 45, 3) := by decide +kernel
theorem dX1_count_89 : decode cX1_count 89 = .ok (.bipush 12, 2) := by decide +kernel
theorem dX1_count_91 : decode cX1_count 91 = .ok (.iload_n 3, 1) := by decide +kernel
theorem dX1_count_92 : decode cX1_count 92 = .ok (.imul, 1) := by decide +kernel
theorem dX1_count_93 : decode cX1_count 93 = .ok (.iload 4, 2) := by decide +kernel
theorem dX1_count_95 : decode cX1_count 95 = .ok (.iadd, 1) := by decide +kernel
theorem dX1_count_96 : decode cX1_count 96 = .ok (.iaload, 1) := by decide +kernel
theorem dX1_count_97 : decode cX1_count 97 = .ok (.ifCond .lt 7, 3) := by decide +kernel
theorem dX1_count_100 : decode cX1_count 100 = .ok (.iconst 1, 1) := by decide +kernel
theorem dX1_count_101 : decode cX1_count 101 = .ok (.goto 4, 3) := by decide +kernel
theorem dX1_count_104 : decode cX1_count 104 = .ok (.iconst 0, 1) := by decide +kernel
theorem dX1_count_105 : decode cX1_count 105 = .ok (.iadd, 1) := by decide +kernel
theorem dX1_count_106 : decode cX1_count 106 = .ok (.istore_n 2, 1) := by decide +kernel
theorem dX1_count_107 : decode cX1_count 107 = .ok (.iinc 4 1, 3) := by decide +kernel
theorem dX1_count_110 : decode cX1_count 110 = .ok (.goto (-42), 3) := by decide +kernel
theorem dX1_count_113 : decode cX1_count 113 = .ok (.iinc 3 1, 3) := by decide +kernel
theorem dX1_count_116 : decode cX1_count 116 = .ok (.goto (-59), 3) := by decide +kernel
theorem dX1_count_119 : decode cX1_count 119 = .ok (.iload_n 2, 1) := by decide +kernel
theorem dX1_count_120 : decode cX1_count 120 = .ok (.ireturn, 1) := by decide +kernel
theorem dX1_count_121 : decode cX1_count 121 = .ok (.iconst 0, 1) := by decide +kernel
theorem dX1_count_122 : decode cX1_count 122 = .ok (.istore_n 3, 1) := by decide +kernel
theorem dX1_count_123 : decode cX1_count 123 = .ok (.iload_n 3, 1) := by decide +kernel
theorem dX1_count_124 : decode cX1_count 124 = .ok (.aload_n 0, 1) := by decide +kernel
theorem dX1_count_125 : decode cX1_count 125 = .ok (.getfield 7, 3) := by decide +kernel
theorem dX1_count_128 : decode cX1_count 128 = .ok (.if_icmp .ge 26, 3) := by decide +kernel
theorem dX1_count_131 : decode cX1_count 131 = .ok (.iload_n 2, 1) := by decide +kernel
theorem dX1_count_132 : decode cX1_count 132 = .ok (.aload_n 0, 1) := by decide +kernel
theorem dX1_count_133 : decode cX1_count 133 = .ok (.getfield 29, 3) := by decide +kernel
theorem dX1_count_136 : decode cX1_count 136 = .ok (.iload_n 3, 1) := by decide +kernel
theorem dX1_count_137 : decode cX1_count 137 = .ok (.baload, 1) := by decide +kernel
theorem dX1_count_138 : decode cX1_count 138 = .ok (.ifCond .eq 7, 3) := by decide +kernel
theorem dX1_count_141 : decode cX1_count 141 = .ok (.iconst 1, 1) := by decide +kernel
theorem dX1_count_142 : decode cX1_count 142 = .ok (.goto 4, 3) := by decide +kernel
theorem dX1_count_145 : decode cX1_count 145 = .ok (.iconst 0, 1) := by decide +kernel
theorem dX1_count_146 : decode cX1_count 146 = .ok (.iadd, 1) := by decide +kernel
theorem dX1_count_147 : decode cX1_count 147 = .ok (.istore_n 2, 1) := by decide +kernel
theorem dX1_count_148 : decode cX1_count 148 = .ok (.iinc 3 1, 3) := by decide +kernel
theorem dX1_count_151 : decode cX1_count 151 = .ok (.goto (-28), 3) := by decide +kernel
theorem dX1_count_154 : decode cX1_count 154 = .ok (.iload_n 2, 1) := by decide +kernel
theorem dX1_count_155 : decode cX1_count 155 = .ok (.ireturn, 1) := by decide +kernel
theorem dX1_count_156 : decode cX1_count 156 = .ok (.iconst 0, 1) := by decide +kernel
theorem dX1_count_157 : decode cX1_count 157 = .ok (.istore_n 3, 1) := by decide +kernel
theorem dX1_count_158 : decode cX1_count 158 = .ok (.iload_n 3, 1) := by decide +kernel
theorem dX1_count_159 : decode cX1_count 159 = .ok (.aload_n 0, 1) := by decide +kernel
theorem dX1_count_160 : decode cX1_count 160 = .ok (.getfield 16, 3) := by decide +kernel
theorem dX1_count_163 : decode cX1_count 163 = .ok (.if_icmp .ge 25, 3) := by decide +kernel
theorem dX1_count_166 : decode cX1_count 166 = .ok (.iload_n 2, 1) := by decide +kernel
theorem dX1_count_167 : decode cX1_count 167 = .ok (.aload_n 0, 1) := by decide +kernel
theorem dX1_count_168 : decode cX1_count 168 = .ok (.iload_n 3, 1) := by decide +kernel
theorem dX1_count_169 : decode cX1_count 169 = .ok (.invokevirtual 145, 3) := by decide +kernel
theorem dX1_count_172 : decode cX1_count 172 = .ok (.ifCond .eq 7, 3) := by decide +kernel
theorem dX1_count_175 : decode cX1_count 175 = .ok (.iconst 1, 1) := by decide +kernel
theorem dX1_count_176 : decode cX1_count 176 = .ok (.goto 4, 3) := by decide +kernel
theorem dX1_count_179 : decode cX1_count 179 = .ok (.iconst 0, 1) := by decide +kernel
theorem dX1_count_180 : decode cX1_count 180 = .ok (.iadd, 1) := by decide +kernel
theorem dX1_count_181 : decode cX1_count 181 = .ok (.istore_n 2, 1) := by decide +kernel
theorem dX1_count_182 : decode cX1_count 182 = .ok (.iinc 3 1, 3) := by decide +kernel
theorem dX1_count_185 : decode cX1_count 185 = .ok (.goto (-27), 3) := by decide +kernel
theorem dX1_count_188 : decode cX1_count 188 = .ok (.iload_n 2, 1) := by decide +kernel
theorem dX1_count_189 : decode cX1_count 189 = .ok (.ireturn, 1) := by decide +kernel
theorem dX1_count_190 : decode cX1_count 190 = .ok (.iconst (-1), 1) := by decide +kernel
theorem dX1_count_191 : decode cX1_count 191 = .ok (.ireturn, 1) := by decide +kernel
theorem dJ6_bitCount_0f7a4_0 : decode cJ6_bitCount_0f7a4 0 = .ok (.iload_n 0, 1) := by decide +kernel
theorem dJ6_bitCount_0f7a4_1 : decode cJ6_bitCount_0f7a4 1 = .ok (.iload_n 0, 1) := by decide +kernel
theorem dJ6_bitCount_0f7a4_2 : decode cJ6_bitCount_0f7a4 2 = .ok (.iconst 1, 1) := by decide +kernel
theorem dJ6_bitCount_0f7a4_3 : decode cJ6_bitCount_0f7a4 3 = .ok (.iushr, 1) := by decide +kernel
theorem dJ6_bitCount_0f7a4_4 : decode cJ6_bitCount_0f7a4 4 = .ok (.ldc_w 265, 3) := by decide +kernel
theorem dJ6_bitCount_0f7a4_7 : decode cJ6_bitCount_0f7a4 7 = .ok (.iand, 1) := by decide +kernel
theorem dJ6_bitCount_0f7a4_8 : decode cJ6_bitCount_0f7a4 8 = .ok (.isub, 1) := by decide +kernel
theorem dJ6_bitCount_0f7a4_9 : decode cJ6_bitCount_0f7a4 9 = .ok (.istore_n 0, 1) := by decide +kernel
theorem dJ6_bitCount_0f7a4_10 : decode cJ6_bitCount_0f7a4 10 = .ok (.iload_n 0, 1) := by decide +kernel
theorem dJ6_bitCount_0f7a4_11 : decode cJ6_bitCount_0f7a4 11 = .ok (.ldc_w 266, 3) := by decide +kernel
theorem dJ6_bitCount_0f7a4_14 : decode cJ6_bitCount_0f7a4 14 = .ok (.iand, 1) := by decide +kernel
theorem dJ6_bitCount_0f7a4_15 : decode cJ6_bitCount_0f7a4 15 = .ok (.iload_n 0, 1) := by decide +kernel
theorem dJ6_bitCount_0f7a4_16 : decode cJ6_bitCount_0f7a4 16 = .ok (.iconst 2, 1) := by decide +kernel
theorem dJ6_bitCount_0f7a4_17 : decode cJ6_bitCount_0f7a4 17 = .ok (.iushr, 1) := by decide +kernel
theorem dJ6_bitCount_0f7a4_18 : decode cJ6_bitCount_0f7a4 18 = .ok (.ldc_w 266, 3) := by decide +kernel
theorem dJ6_bitCount_0f7a4_21 : decode cJ6_bitCount_0f7a4 21 = .ok (.iand, 1) := by decide +kernel
theorem dJ6_bitCount_0f7a4_22 : decode cJ6_bitCount_0f7a4 22 = .ok (.iadd, 1) := by decide +kernel
theorem dJ6_bitCount_0f7a4_23 : decode cJ6_bitCount_0f7a4 23 = .ok (.istore_n 0, 1) := by decide +kernel
theorem dJ6_bitCount_0f7a4_24 : decode cJ6_bitCount_0f7a4 24 = .ok (.iload_n 0, 1) := by decide +kernel
theorem dJ6_bitCount_0f7a4_25 : decode cJ6_bitCount_0f7a4 25 = .ok (.iload_n 0, 1) := by decide +kernel
theorem dJ6_bitCount_0f7a4_26 : decode cJ6_bitCount_0f7a4 26 = .ok (.iconst 4, 1) := by decide +kernel
theorem dJ6_bitCount_0f7a4_27 : decode cJ6_bitCount_0f7a4 27 = .ok (.iushr, 1) := by decide +kernel
theorem dJ6_bitCount_0f7a4_28 : decode cJ6_bitCount_0f7a4 28 = .ok (.iadd, 1) := by decide +kernel
theorem dJ6_bitCount_0f7a4_29 : decode cJ6_bitCount_0f7a4 29 = .ok (.ldc_w 267, 3) := by decide +kernel
theorem dJ6_bitCount_0f7a4_32 : decode cJ6_bitCount_0f7a4 32 = .ok (.iand, 1) := by decide +kernel
theorem dJ6_bitCount_0f7a4_33 : decode cJ6_bitCount_0f7a4 33 = .ok (.istore_n 0, 1) := by decide +kernel
theorem dJ6_bitCount_0f7a4_34 : decode cJ6_bitCount_0f7a4 34 = .ok (.iload_n 0, 1) := by decide +kernel
theorem dJ6_bitCount_0f7a4_35 : decode cJ6_bitCount_0f7a4 35 = .ok (.iload_n 0, 1) := by decide +kernel
theorem dJ6_bitCount_0f7a4_36 : decode cJ6_bitCount_0f7a4 36 = .ok (.bipush 8, 2) := by decide +kernel
theorem dJ6_bitCount_0f7a4_38 : decode cJ6_bitCount_0f7a4 38 = .ok (.iushr, 1) := by decide +kernel
theorem dJ6_bitCount_0f7a4_39 : decode cJ6_bitCount_0f7a4 39 = .ok (.iadd, 1) := by decide +kernel
theorem dJ6_bitCount_0f7a4_40 : decode cJ6_bitCount_0f7a4 40 = .ok (.istore_n 0, 1) := by decide +kernel
theorem dJ6_bitCount_0f7a4_41 : decode cJ6_bitCount_0f7a4 41 = .ok (.iload_n 0, 1) := by decide +kernel
theorem dJ6_bitCount_0f7a4_42 : decode cJ6_bitCount_0f7a4 42 = .ok (.iload_n 0, 1) := by decide +kernel
theorem dJ6_bitCount_0f7a4_43 : decode cJ6_bitCount_0f7a4 43 = .ok (.bipush 16, 2) := by decide +kernel
theorem dJ6_bitCount_0f7a4_45 : decode cJ6_bitCount_0f7a4 45 = .ok (.iushr, 1) := by decide +kernel
theorem dJ6_bitCount_0f7a4_46 : decode cJ6_bitCount_0f7a4 46 = .ok (.iadd, 1) := by decide +kernel
theorem dJ6_bitCount_0f7a4_47 : decode cJ6_bitCount_0f7a4 47 = .ok (.istore_n 0, 1) := by decide +kernel
theorem dJ6_bitCount_0f7a4_48 : decode cJ6_bitCount_0f7a4 48 = .ok (.iload_n 0, 1) := by decide +kernel
theorem dJ6_bitCount_0f7a4_49 : decode cJ6_bitCount_0f7a4 49 = .ok (.bipush 63, 2) := by decide +kernel
theorem dJ6_bitCount_0f7a4_51 : decode cJ6_bitCount_0f7a4 51 = .ok (.iand, 1) := by decide +kernel
theorem dJ6_bitCount_0f7a4_52 : decode cJ6_bitCount_0f7a4 52 = .ok (.ireturn, 1) := by decide +kernel
theorem dJ9_abs_067f4_0 : decode cJ9_abs_067f4 0 = .ok (.lload_n 0, 1) := by decide +kernel
theorem dJ9_abs_067f4_1 : decode cJ9_abs_067f4 1 = .ok (.lconst 0, 1) := by decide +kernel
theorem dJ9_abs_067f4_2 : decode cJ9_abs_067f4 2 = .ok (.lcmp, 1) := by decide +kernel
theorem dJ9_abs_067f4_3 : decode cJ9_abs_067f4 3 = .ok (.ifCond .ge 8, 3) := by decide +kernel
theorem dJ9_abs_067f4_6 : decode cJ9_abs_067f4 6 = .ok (.lload_n 0, 1) := by decide +kernel
theorem dJ9_abs_067f4_7 : decode cJ9_abs_067f4 7 = .ok (.lneg, 1) := by decide +kernel
theorem dJ9_abs_067f4_8 : decode cJ9_abs_067f4 8 = .ok (.goto 4, 3) := by decide +kernel
theorem dJ9_abs_067f4_11 : decode cJ9_abs_067f4 11 = .ok (.lload_n 0, 1) := by decide +kernel
theorem dJ9_abs_067f4_12 : decode cJ9_abs_067f4 12 = .ok (.lreturn, 1) := by decide +kernel
theorem dJ9_max_7cf53_0 : decode cJ9_max_7cf53 0 = .ok (.iload_n 0, 1) := by decide +kernel
theorem dJ9_max_7cf53_1 : decode cJ9_max_7cf53 1 = .ok (.iload_n 1, 1) := by decide +kernel
theorem dJ9_max_7cf53_2 : decode cJ9_max_7cf53 2 = .ok (.if_icmp .lt 7, 3) := by decide +kernel
theorem dJ9_max_7cf53_5 : decode cJ9_max_7cf53 5 = .ok (.iload_n 0, 1) := by decide +kernel
theorem dJ9_max_7cf53_6 : decode cJ9_max_7cf53 6 = .ok (.goto 4, 3) := by decide +kernel
theorem dJ9_max_7cf53_9 : decode cJ9_max_7cf53 9 = .ok (.iload_n 1, 1) := by decide +kernel
theorem dJ9_max_7cf53_10 : decode cJ9_max_7cf53 10 = .ok (.ireturn, 1) := by decide +kernel
theorem dJ9_min_7cf53_0 : decode cJ9_min_7cf53 0 = .ok (.iload_n 0, 1) := by decide +kernel
theorem dJ9_min_7cf53_1 : decode cJ9_min_7cf53 1 = .ok (.iload_n 1, 1) := by decide +kernel
theorem dJ9_min_7cf53_2 : decode cJ9_min_7cf53 2 = .ok (.if_icmp .gt 7, 3) := by decide +kernel
theorem dJ9_min_7cf53_5 : decode cJ9_min_7cf53 5 = .ok (.iload_n 0, 1) := by decide +kernel
theorem dJ9_min_7cf53_6 : decode cJ9_min_7cf53 6 = .ok (.goto 4, 3) := by decide +kernel
theorem dJ9_min_7cf53_9 : decode cJ9_min_7cf53 9 = .ok (.iload_n 1, 1) := by decide +kernel
theorem dJ9_min_7cf53_10 : decode cJ9_min_7cf53 10 = .ok (.ireturn, 1) := by decide +kernel
theorem dJ7_fill_53178_0 : decode cJ7_fill_53178 0 = .ok (.iconst 0, 1) := by decide +kernel
theorem dJ7_fill_53178_1 : decode cJ7_fill_53178 1 = .ok (.istore_n 2, 1) := by decide +kernel
theorem dJ7_fill_53178_2 : decode cJ7_fill_53178 2 = .ok (.aload_n 0, 1) := by decide +kernel
theorem dJ7_fill_53178_3 : decode cJ7_fill_53178 3 = .ok (.arraylength, 1) := by decide +kernel
theorem dJ7_fill_53178_4 : decode cJ7_fill_53178 4 = .ok (.istore_n 3, 1) := by decide +kernel
theorem dJ7_fill_53178_5 : decode cJ7_fill_53178 5 = .ok (.iload_n 2, 1) := by decide +kernel
theorem dJ7_fill_53178_6 : decode cJ7_fill_53178 6 = .ok (.iload_n 3, 1) := by decide +kernel
theorem dJ7_fill_53178_7 : decode cJ7_fill_53178 7 = .ok (.if_icmp .ge 13, 3) := by decide +kernel
theorem dJ7_fill_53178_10 : decode cJ7_fill_53178 10 = .ok (.aload_n 0, 1) := by decide +kernel
theorem dJ7_fill_53178_11 : decode cJ7_fill_53178 11 = .ok (.iload_n 2, 1) := by decide +kernel
theorem dJ7_fill_53178_12 : decode cJ7_fill_53178 12 = .ok (.iload_n 1, 1) := by decide +kernel
theorem dJ7_fill_53178_13 : decode cJ7_fill_53178 13 = .ok (.iastore, 1) := by decide +kernel
theorem dJ7_fill_53178_14 : decode cJ7_fill_53178 14 = .ok (.iinc 2 1, 3) := by decide +kernel
theorem dJ7_fill_53178_17 : decode cJ7_fill_53178 17 = .ok (.goto (-12), 3) := by decide +kernel
theorem dJ7_fill_53178_20 : decode cJ7_fill_53178 20 = .ok (.return_, 1) := by decide +kernel

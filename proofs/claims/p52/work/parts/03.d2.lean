theorem d_AS_init_0 : decode m_AS_init.2.1 0 = .ok (.aload_n 0, 1) := by decide +kernel
theorem d_AS_init_1 : decode m_AS_init.2.1 1 = .ok (.invokespecial 3, 3) := by decide +kernel
theorem d_AS_init_4 : decode m_AS_init.2.1 4 = .ok (.aload_n 0, 1) := by decide +kernel
theorem d_AS_init_5 : decode m_AS_init.2.1 5 = .ok (.bipush 8, 2) := by decide +kernel
theorem d_AS_init_7 : decode m_AS_init.2.1 7 = .ok (.anewarray 9, 3) := by decide +kernel
theorem d_AS_init_10 : decode m_AS_init.2.1 10 = .ok (.putfield 11, 3) := by decide +kernel
theorem d_AS_init_13 : decode m_AS_init.2.1 13 = .ok (.aload_n 0, 1) := by decide +kernel
theorem d_AS_init_14 : decode m_AS_init.2.1 14 = .ok (.new 9, 3) := by decide +kernel
theorem d_AS_init_17 : decode m_AS_init.2.1 17 = .ok (.dup, 1) := by decide +kernel
theorem d_AS_init_18 : decode m_AS_init.2.1 18 = .ok (.invokespecial 17, 3) := by decide +kernel
theorem d_AS_init_21 : decode m_AS_init.2.1 21 = .ok (.putfield 18, 3) := by decide +kernel
theorem d_AS_init_24 : decode m_AS_init.2.1 24 = .ok (.aload_n 0, 1) := by decide +kernel
theorem d_AS_init_25 : decode m_AS_init.2.1 25 = .ok (.sipush 1620, 3) := by decide +kernel
theorem d_AS_init_28 : decode m_AS_init.2.1 28 = .ok (.newarray .int, 2) := by decide +kernel
theorem d_AS_init_30 : decode m_AS_init.2.1 30 = .ok (.putfield 22, 3) := by decide +kernel
theorem d_AS_init_33 : decode m_AS_init.2.1 33 = .ok (.aload_n 0, 1) := by decide +kernel
theorem d_AS_init_34 : decode m_AS_init.2.1 34 = .ok (.sipush 270, 3) := by decide +kernel
theorem d_AS_init_37 : decode m_AS_init.2.1 37 = .ok (.newarray .int, 2) := by decide +kernel
theorem d_AS_init_39 : decode m_AS_init.2.1 39 = .ok (.putfield 26, 3) := by decide +kernel
theorem d_AS_init_42 : decode m_AS_init.2.1 42 = .ok (.aload_n 0, 1) := by decide +kernel
theorem d_AS_init_43 : decode m_AS_init.2.1 43 = .ok (.bipush 30, 2) := by decide +kernel
theorem d_AS_init_45 : decode m_AS_init.2.1 45 = .ok (.newarray .int, 2) := by decide +kernel
theorem d_AS_init_47 : decode m_AS_init.2.1 47 = .ok (.putfield 29, 3) := by decide +kernel
theorem d_AS_init_50 : decode m_AS_init.2.1 50 = .ok (.aload_n 0, 1) := by decide +kernel
theorem d_AS_init_51 : decode m_AS_init.2.1 51 = .ok (.bipush 30, 2) := by decide +kernel
theorem d_AS_init_53 : decode m_AS_init.2.1 53 = .ok (.newarray .int, 2) := by decide +kernel
theorem d_AS_init_55 : decode m_AS_init.2.1 55 = .ok (.putfield 32, 3) := by decide +kernel
theorem d_AS_init_58 : decode m_AS_init.2.1 58 = .ok (.aload_n 0, 1) := by decide +kernel
theorem d_AS_init_59 : decode m_AS_init.2.1 59 = .ok (.sipush 930, 3) := by decide +kernel
theorem d_AS_init_62 : decode m_AS_init.2.1 62 = .ok (.newarray .int, 2) := by decide +kernel
theorem d_AS_init_64 : decode m_AS_init.2.1 64 = .ok (.putfield 35, 3) := by decide +kernel
theorem d_AS_init_67 : decode m_AS_init.2.1 67 = .ok (.aload_n 0, 1) := by decide +kernel
theorem d_AS_init_68 : decode m_AS_init.2.1 68 = .ok (.bipush 8, 2) := by decide +kernel
theorem d_AS_init_70 : decode m_AS_init.2.1 70 = .ok (.newarray .int, 2) := by decide +kernel
theorem d_AS_init_72 : decode m_AS_init.2.1 72 = .ok (.putfield 38, 3) := by decide +kernel
theorem d_AS_init_75 : decode m_AS_init.2.1 75 = .ok (.aload_n 0, 1) := by decide +kernel
theorem d_AS_init_76 : decode m_AS_init.2.1 76 = .ok (.aload_n 1, 1) := by decide +kernel
theorem d_AS_init_77 : decode m_AS_init.2.1 77 = .ok (.putfield 41, 3) := by decide +kernel
theorem d_AS_init_80 : decode m_AS_init.2.1 80 = .ok (.iconst 0, 1) := by decide +kernel
theorem d_AS_init_81 : decode m_AS_init.2.1 81 = .ok (.istore_n 2, 1) := by decide +kernel
theorem d_AS_init_82 : decode m_AS_init.2.1 82 = .ok (.iload_n 2, 1) := by decide +kernel
theorem d_AS_init_83 : decode m_AS_init.2.1 83 = .ok (.aload_n 0, 1) := by decide +kernel
theorem d_AS_init_84 : decode m_AS_init.2.1 84 = .ok (.getfield 11, 3) := by decide +kernel
theorem d_AS_init_87 : decode m_AS_init.2.1 87 = .ok (.arraylength, 1) := by decide +kernel
theorem d_AS_init_88 : decode m_AS_init.2.1 88 = .ok (.if_icmp .ge 22, 3) := by decide +kernel
theorem d_AS_init_91 : decode m_AS_init.2.1 91 = .ok (.aload_n 0, 1) := by decide +kernel
theorem d_AS_init_92 : decode m_AS_init.2.1 92 = .ok (.getfield 11, 3) := by decide +kernel
theorem d_AS_init_95 : decode m_AS_init.2.1 95 = .ok (.iload_n 2, 1) := by decide +kernel
theorem d_AS_init_96 : decode m_AS_init.2.1 96 = .ok (.new 9, 3) := by decide +kernel
theorem d_AS_init_99 : decode m_AS_init.2.1 99 = .ok (.dup, 1) := by decide +kernel
theorem d_AS_init_100 : decode m_AS_init.2.1 100 = .ok (.invokespecial 17, 3) := by decide +kernel
theorem d_AS_init_103 : decode m_AS_init.2.1 103 = .ok (.aastore, 1) := by decide +kernel
theorem d_AS_init_104 : decode m_AS_init.2.1 104 = .ok (.iinc 2 1, 3) := by decide +kernel
theorem d_AS_init_107 : decode m_AS_init.2.1 107 = .ok (.goto (-25), 3) := by decide +kernel
theorem d_AS_init_110 : decode m_AS_init.2.1 110 = .ok (.return_, 1) := by decide +kernel
theorem d_AS_has_0 : decode m_AS_has.2.1 0 = .ok (.iload_n 1, 1) := by decide +kernel
theorem d_AS_has_1 : decode m_AS_has.2.1 1 = .ok (.ifCond .lt 15, 3) := by decide +kernel
theorem d_AS_has_4 : decode m_AS_has.2.1 4 = .ok (.iload_n 1, 1) := by decide +kernel
theorem d_AS_has_5 : decode m_AS_has.2.1 5 = .ok (.aload_n 0, 1) := by decide +kernel
theorem d_AS_has_6 : decode m_AS_has.2.1 6 = .ok (.getfield 45, 3) := by decide +kernel
theorem d_AS_has_9 : decode m_AS_has.2.1 9 = .ok (.if_icmp .ge 7, 3) := by decide +kernel
theorem d_AS_has_12 : decode m_AS_has.2.1 12 = .ok (.iconst 1, 1) := by decide +kernel
theorem d_AS_has_13 : decode m_AS_has.2.1 13 = .ok (.goto 4, 3) := by decide +kernel
theorem d_AS_has_16 : decode m_AS_has.2.1 16 = .ok (.iconst 0, 1) := by decide +kernel
theorem d_AS_has_17 : decode m_AS_has.2.1 17 = .ok (.ireturn, 1) := by decide +kernel
theorem d_AS_question_0 : decode m_AS_question.2.1 0 = .ok (.iload_n 1, 1) := by decide +kernel
theorem d_AS_question_1 : decode m_AS_question.2.1 1 = .ok (.ifCond .lt 9, 3) := by decide +kernel
theorem d_AS_question_4 : decode m_AS_question.2.1 4 = .ok (.iload_n 1, 1) := by decide +kernel
theorem d_AS_question_5 : decode m_AS_question.2.1 5 = .ok (.bipush 8, 2) := by decide +kernel
theorem d_AS_question_7 : decode m_AS_question.2.1 7 = .ok (.if_icmp .lt 10, 3) := by decide +kernel
theorem d_AS_question_10 : decode m_AS_question.2.1 10 = .ok (.aload_n 0, 1) := by decide +kernel
theorem d_AS_question_11 : decode m_AS_question.2.1 11 = .ok (.getfield 18, 3) := by decide +kernel
theorem d_AS_question_14 : decode m_AS_question.2.1 14 = .ok (.goto 9, 3) := by decide +kernel
theorem d_AS_question_17 : decode m_AS_question.2.1 17 = .ok (.aload_n 0, 1) := by decide +kernel
theorem d_AS_question_18 : decode m_AS_question.2.1 18 = .ok (.getfield 11, 3) := by decide +kernel
theorem d_AS_question_21 : decode m_AS_question.2.1 21 = .ok (.iload_n 1, 1) := by decide +kernel
theorem d_AS_question_22 : decode m_AS_question.2.1 22 = .ok (.aaload, 1) := by decide +kernel
theorem d_AS_question_23 : decode m_AS_question.2.1 23 = .ok (.areturn, 1) := by decide +kernel
theorem d_AS_widthOf_0 : decode m_AS_widthOf.2.1 0 = .ok (.aload_n 0, 1) := by decide +kernel
theorem d_AS_widthOf_1 : decode m_AS_widthOf.2.1 1 = .ok (.iload_n 1, 1) := by decide +kernel
theorem d_AS_widthOf_2 : decode m_AS_widthOf.2.1 2 = .ok (.invokevirtual 49, 3) := by decide +kernel
theorem d_AS_widthOf_5 : decode m_AS_widthOf.2.1 5 = .ok (.astore_n 2, 1) := by decide +kernel
theorem d_AS_widthOf_6 : decode m_AS_widthOf.2.1 6 = .ok (.aload_n 2, 1) := by decide +kernel
theorem d_AS_widthOf_7 : decode m_AS_widthOf.2.1 7 = .ok (.getfield 53, 3) := by decide +kernel
theorem d_AS_widthOf_10 : decode m_AS_widthOf.2.1 10 = .ok (.iconst 2, 1) := by decide +kernel
theorem d_AS_widthOf_11 : decode m_AS_widthOf.2.1 11 = .ok (.if_icmp .eq 8, 3) := by decide +kernel
theorem d_AS_widthOf_14 : decode m_AS_widthOf.2.1 14 = .ok (.aload_n 2, 1) := by decide +kernel
theorem d_AS_widthOf_15 : decode m_AS_widthOf.2.1 15 = .ok (.getfield 56, 3) := by decide +kernel
theorem d_AS_widthOf_18 : decode m_AS_widthOf.2.1 18 = .ok (.ireturn, 1) := by decide +kernel
theorem d_AS_widthOf_19 : decode m_AS_widthOf.2.1 19 = .ok (.aload_n 0, 1) := by decide +kernel
theorem d_AS_widthOf_20 : decode m_AS_widthOf.2.1 20 = .ok (.iload_n 1, 1) := by decide +kernel
theorem d_AS_widthOf_21 : decode m_AS_widthOf.2.1 21 = .ok (.invokevirtual 59, 3) := by decide +kernel
theorem d_AS_widthOf_24 : decode m_AS_widthOf.2.1 24 = .ok (.pop, 1) := by decide +kernel
theorem d_AS_widthOf_25 : decode m_AS_widthOf.2.1 25 = .ok (.aload_n 0, 1) := by decide +kernel
theorem d_AS_widthOf_26 : decode m_AS_widthOf.2.1 26 = .ok (.getfield 63, 3) := by decide +kernel
theorem d_AS_widthOf_29 : decode m_AS_widthOf.2.1 29 = .ok (.ireturn, 1) := by decide +kernel
theorem d_AS_originOf_0 : decode m_AS_originOf.2.1 0 = .ok (.iload_n 2, 1) := by decide +kernel
theorem d_AS_originOf_1 : decode m_AS_originOf.2.1 1 = .ok (.ifCond .ge 5, 3) := by decide +kernel
theorem d_AS_originOf_4 : decode m_AS_originOf.2.1 4 = .ok (.iconst (-1), 1) := by decide +kernel
theorem d_AS_originOf_5 : decode m_AS_originOf.2.1 5 = .ok (.ireturn, 1) := by decide +kernel
theorem d_AS_originOf_6 : decode m_AS_originOf.2.1 6 = .ok (.iload_n 1, 1) := by decide +kernel
theorem d_AS_originOf_7 : decode m_AS_originOf.2.1 7 = .ok (.bipush 10, 2) := by decide +kernel
theorem d_AS_originOf_9 : decode m_AS_originOf.2.1 9 = .ok (.if_icmp .ge 12, 3) := by decide +kernel
theorem d_AS_originOf_12 : decode m_AS_originOf.2.1 12 = .ok (.bipush 10, 2) := by decide +kernel
theorem d_AS_originOf_14 : decode m_AS_originOf.2.1 14 = .ok (.iload_n 1, 1) := by decide +kernel
theorem d_AS_originOf_15 : decode m_AS_originOf.2.1 15 = .ok (.imul, 1) := by decide +kernel
theorem d_AS_originOf_16 : decode m_AS_originOf.2.1 16 = .ok (.iload_n 2, 1) := by decide +kernel
theorem d_AS_originOf_17 : decode m_AS_originOf.2.1 17 = .ok (.iadd, 1) := by decide +kernel
theorem d_AS_originOf_18 : decode m_AS_originOf.2.1 18 = .ok (.goto 15, 3) := by decide +kernel
theorem d_AS_originOf_21 : decode m_AS_originOf.2.1 21 = .ok (.aload_n 0, 1) := by decide +kernel
theorem d_AS_originOf_22 : decode m_AS_originOf.2.1 22 = .ok (.iload_n 1, 1) := by decide +kernel
theorem d_AS_originOf_23 : decode m_AS_originOf.2.1 23 = .ok (.bipush 10, 2) := by decide +kernel
theorem d_AS_originOf_25 : decode m_AS_originOf.2.1 25 = .ok (.isub, 1) := by decide +kernel
theorem d_AS_originOf_26 : decode m_AS_originOf.2.1 26 = .ok (.invokevirtual 49, 3) := by decide +kernel
theorem d_AS_originOf_29 : decode m_AS_originOf.2.1 29 = .ok (.iload_n 2, 1) := by decide +kernel
theorem d_AS_originOf_30 : decode m_AS_originOf.2.1 30 = .ok (.invokevirtual 64, 3) := by decide +kernel
theorem d_AS_originOf_33 : decode m_AS_originOf.2.1 33 = .ok (.ireturn, 1) := by decide +kernel
theorem d_AS_isUsed_0 : decode m_AS_isUsed.2.1 0 = .ok (.bipush 10, 2) := by decide +kernel
theorem d_AS_isUsed_2 : decode m_AS_isUsed.2.1 2 = .ok (.iload_n 1, 1) := by decide +kernel
theorem d_AS_isUsed_3 : decode m_AS_isUsed.2.1 3 = .ok (.imul, 1) := by decide +kernel
theorem d_AS_isUsed_4 : decode m_AS_isUsed.2.1 4 = .ok (.iload_n 2, 1) := by decide +kernel
theorem d_AS_isUsed_5 : decode m_AS_isUsed.2.1 5 = .ok (.iadd, 1) := by decide +kernel
theorem d_AS_isUsed_6 : decode m_AS_isUsed.2.1 6 = .ok (.istore_n 3, 1) := by decide +kernel
theorem d_AS_isUsed_7 : decode m_AS_isUsed.2.1 7 = .ok (.iconst 0, 1) := by decide +kernel
theorem d_AS_isUsed_8 : decode m_AS_isUsed.2.1 8 = .ok (.istore 4, 2) := by decide +kernel
theorem d_AS_isUsed_10 : decode m_AS_isUsed.2.1 10 = .ok (.iload 4, 2) := by decide +kernel
theorem d_AS_isUsed_12 : decode m_AS_isUsed.2.1 12 = .ok (.aload_n 0, 1) := by decide +kernel
theorem d_AS_isUsed_13 : decode m_AS_isUsed.2.1 13 = .ok (.getfield 45, 3) := by decide +kernel
theorem d_AS_isUsed_16 : decode m_AS_isUsed.2.1 16 = .ok (.if_icmp .ge 95, 3) := by decide +kernel
theorem d_AS_isUsed_19 : decode m_AS_isUsed.2.1 19 = .ok (.aload_n 0, 1) := by decide +kernel
theorem d_AS_isUsed_20 : decode m_AS_isUsed.2.1 20 = .ok (.iload 4, 2) := by decide +kernel
theorem d_AS_isUsed_22 : decode m_AS_isUsed.2.1 22 = .ok (.invokevirtual 49, 3) := by decide +kernel
theorem d_AS_isUsed_25 : decode m_AS_isUsed.2.1 25 = .ok (.astore 5, 2) := by decide +kernel
theorem d_AS_isUsed_27 : decode m_AS_isUsed.2.1 27 = .ok (.aload 5, 2) := by decide +kernel
theorem d_AS_isUsed_29 : decode m_AS_isUsed.2.1 29 = .ok (.getfield 67, 3) := by decide +kernel
theorem d_AS_isUsed_32 : decode m_AS_isUsed.2.1 32 = .ok (.istore 6, 2) := by decide +kernel
theorem d_AS_isUsed_34 : decode m_AS_isUsed.2.1 34 = .ok (.aload 5, 2) := by decide +kernel
theorem d_AS_isUsed_36 : decode m_AS_isUsed.2.1 36 = .ok (.iload_n 3, 1) := by decide +kernel
theorem d_AS_isUsed_37 : decode m_AS_isUsed.2.1 37 = .ok (.invokevirtual 70, 3) := by decide +kernel
theorem d_AS_isUsed_40 : decode m_AS_isUsed.2.1 40 = .ok (.ifCond .ne 63, 3) := by decide +kernel
theorem d_AS_isUsed_43 : decode m_AS_isUsed.2.1 43 = .ok (.aload_n 0, 1) := by decide +kernel
theorem d_AS_isUsed_44 : decode m_AS_isUsed.2.1 44 = .ok (.iload 6, 2) := by decide +kernel
theorem d_AS_isUsed_46 : decode m_AS_isUsed.2.1 46 = .ok (.aload 5, 2) := by decide +kernel
theorem d_AS_isUsed_48 : decode m_AS_isUsed.2.1 48 = .ok (.getfield 74, 3) := by decide +kernel
theorem d_AS_isUsed_51 : decode m_AS_isUsed.2.1 51 = .ok (.invokevirtual 77, 3) := by decide +kernel
theorem d_AS_isUsed_54 : decode m_AS_isUsed.2.1 54 = .ok (.iload_n 3, 1) := by decide +kernel
theorem d_AS_isUsed_55 : decode m_AS_isUsed.2.1 55 = .ok (.if_icmp .eq 48, 3) := by decide +kernel
theorem d_AS_isUsed_58 : decode m_AS_isUsed.2.1 58 = .ok (.aload_n 0, 1) := by decide +kernel
theorem d_AS_isUsed_59 : decode m_AS_isUsed.2.1 59 = .ok (.iload 6, 2) := by decide +kernel
theorem d_AS_isUsed_61 : decode m_AS_isUsed.2.1 61 = .ok (.aload 5, 2) := by decide +kernel
theorem d_AS_isUsed_63 : decode m_AS_isUsed.2.1 63 = .ok (.getfield 80, 3) := by decide +kernel
theorem d_AS_isUsed_66 : decode m_AS_isUsed.2.1 66 = .ok (.invokevirtual 77, 3) := by decide +kernel
theorem d_AS_isUsed_69 : decode m_AS_isUsed.2.1 69 = .ok (.iload_n 3, 1) := by decide +kernel
theorem d_AS_isUsed_70 : decode m_AS_isUsed.2.1 70 = .ok (.if_icmp .eq 33, 3) := by decide +kernel
theorem d_AS_isUsed_73 : decode m_AS_isUsed.2.1 73 = .ok (.aload_n 0, 1) := by decide +kernel
theorem d_AS_isUsed_74 : decode m_AS_isUsed.2.1 74 = .ok (.iload 6, 2) := by decide +kernel
theorem d_AS_isUsed_76 : decode m_AS_isUsed.2.1 76 = .ok (.aload 5, 2) := by decide +kernel
theorem d_AS_isUsed_78 : decode m_AS_isUsed.2.1 78 = .ok (.getfield 83, 3) := by decide +kernel
theorem d_AS_isUsed_81 : decode m_AS_isUsed.2.1 81 = .ok (.invokevirtual 77, 3) := by decide +kernel
theorem d_AS_isUsed_84 : decode m_AS_isUsed.2.1 84 = .ok (.iload_n 3, 1) := by decide +kernel
theorem d_AS_isUsed_85 : decode m_AS_isUsed.2.1 85 = .ok (.if_icmp .eq 18, 3) := by decide +kernel
theorem d_AS_isUsed_88 : decode m_AS_isUsed.2.1 88 = .ok (.aload_n 0, 1) := by decide +kernel
theorem d_AS_isUsed_89 : decode m_AS_isUsed.2.1 89 = .ok (.iload 6, 2) := by decide +kernel
theorem d_AS_isUsed_91 : decode m_AS_isUsed.2.1 91 = .ok (.aload 5, 2) := by decide +kernel
theorem d_AS_isUsed_93 : decode m_AS_isUsed.2.1 93 = .ok (.getfield 86, 3) := by decide +kernel
theorem d_AS_isUsed_96 : decode m_AS_isUsed.2.1 96 = .ok (.invokevirtual 77, 3) := by decide +kernel
theorem d_AS_isUsed_99 : decode m_AS_isUsed.2.1 99 = .ok (.iload_n 3, 1) := by decide +kernel
theorem d_AS_isUsed_100 : decode m_AS_isUsed.2.1 100 = .ok (.if_icmp .ne 5, 3) := by decide +kernel
theorem d_AS_isUsed_103 : decode m_AS_isUsed.2.1 103 = .ok (.iconst 1, 1) := by decide +kernel
theorem d_AS_isUsed_104 : decode m_AS_isUsed.2.1 104 = .ok (.ireturn, 1) := by decide +kernel
theorem d_AS_isUsed_105 : decode m_AS_isUsed.2.1 105 = .ok (.iinc 4 1, 3) := by decide +kernel
theorem d_AS_isUsed_108 : decode m_AS_isUsed.2.1 108 = .ok (.goto (-98), 3) := by decide +kernel
theorem d_AS_isUsed_111 : decode m_AS_isUsed.2.1 111 = .ok (.iconst 0, 1) := by decide +kernel
theorem d_AS_isUsed_112 : decode m_AS_isUsed.2.1 112 = .ok (.ireturn, 1) := by decide +kernel
theorem d_AS_makePlain_0 : decode m_AS_makePlain.2.1 0 = .ok (.aload_n 0, 1) := by decide +kernel
theorem d_AS_makePlain_1 : decode m_AS_makePlain.2.1 1 = .ok (.aload_n 0, 1) := by decide +kernel
theorem d_AS_makePlain_2 : decode m_AS_makePlain.2.1 2 = .ok (.getfield 45, 3) := by decide +kernel
theorem d_AS_makePlain_5 : decode m_AS_makePlain.2.1 5 = .ok (.invokevirtual 49, 3) := by decide +kernel
theorem d_AS_makePlain_8 : decode m_AS_makePlain.2.1 8 = .ok (.astore_n 3, 1) := by decide +kernel
theorem d_AS_makePlain_9 : decode m_AS_makePlain.2.1 9 = .ok (.aload_n 3, 1) := by decide +kernel
theorem d_AS_makePlain_10 : decode m_AS_makePlain.2.1 10 = .ok (.iconst 0, 1) := by decide +kernel
theorem d_AS_makePlain_11 : decode m_AS_makePlain.2.1 11 = .ok (.putfield 53, 3) := by decide +kernel
theorem d_AS_makePlain_14 : decode m_AS_makePlain.2.1 14 = .ok (.aload_n 3, 1) := by decide +kernel
theorem d_AS_makePlain_15 : decode m_AS_makePlain.2.1 15 = .ok (.iload_n 1, 1) := by decide +kernel
theorem d_AS_makePlain_16 : decode m_AS_makePlain.2.1 16 = .ok (.putfield 67, 3) := by decide +kernel
theorem d_AS_makePlain_19 : decode m_AS_makePlain.2.1 19 = .ok (.iload_n 1, 1) := by decide +kernel
theorem d_AS_makePlain_20 : decode m_AS_makePlain.2.1 20 = .ok (.bipush 10, 2) := by decide +kernel
theorem d_AS_makePlain_22 : decode m_AS_makePlain.2.1 22 = .ok (.if_icmp .ge 19, 3) := by decide +kernel
theorem d_AS_makePlain_25 : decode m_AS_makePlain.2.1 25 = .ok (.aload_n 3, 1) := by decide +kernel
theorem d_AS_makePlain_26 : decode m_AS_makePlain.2.1 26 = .ok (.iload_n 1, 1) := by decide +kernel
theorem d_AS_makePlain_27 : decode m_AS_makePlain.2.1 27 = .ok (.aload_n 0, 1) := by decide +kernel
theorem d_AS_makePlain_28 : decode m_AS_makePlain.2.1 28 = .ok (.getfield 41, 3) := by decide +kernel
theorem d_AS_makePlain_31 : decode m_AS_makePlain.2.1 31 = .ok (.iload_n 1, 1) := by decide +kernel
theorem d_AS_makePlain_32 : decode m_AS_makePlain.2.1 32 = .ok (.invokevirtual 89, 3) := by decide +kernel
theorem d_AS_makePlain_35 : decode m_AS_makePlain.2.1 35 = .ok (.invokevirtual 94, 3) := by decide +kernel
theorem d_AS_makePlain_38 : decode m_AS_makePlain.2.1 38 = .ok (.goto 15, 3) := by decide +kernel
theorem d_AS_makePlain_41 : decode m_AS_makePlain.2.1 41 = .ok (.aload_n 3, 1) := by decide +kernel
theorem d_AS_makePlain_42 : decode m_AS_makePlain.2.1 42 = .ok (.aload_n 0, 1) := by decide +kernel
theorem d_AS_makePlain_43 : decode m_AS_makePlain.2.1 43 = .ok (.iload_n 1, 1) := by decide +kernel
theorem d_AS_makePlain_44 : decode m_AS_makePlain.2.1 44 = .ok (.bipush 10, 2) := by decide +kernel
theorem d_AS_makePlain_46 : decode m_AS_makePlain.2.1 46 = .ok (.isub, 1) := by decide +kernel
theorem d_AS_makePlain_47 : decode m_AS_makePlain.2.1 47 = .ok (.invokevirtual 49, 3) := by decide +kernel
theorem d_AS_makePlain_50 : decode m_AS_makePlain.2.1 50 = .ok (.invokevirtual 98, 3) := by decide +kernel
theorem d_AS_makePlain_53 : decode m_AS_makePlain.2.1 53 = .ok (.aload_n 3, 1) := by decide +kernel
theorem d_AS_makePlain_54 : decode m_AS_makePlain.2.1 54 = .ok (.aload_n 3, 1) := by decide +kernel
theorem d_AS_makePlain_55 : decode m_AS_makePlain.2.1 55 = .ok (.getfield 56, 3) := by decide +kernel
theorem d_AS_makePlain_58 : decode m_AS_makePlain.2.1 58 = .ok (.putfield 102, 3) := by decide +kernel
theorem d_AS_makePlain_61 : decode m_AS_makePlain.2.1 61 = .ok (.aload_n 0, 1) := by decide +kernel
theorem d_AS_makePlain_62 : decode m_AS_makePlain.2.1 62 = .ok (.iload_n 1, 1) := by decide +kernel
theorem d_AS_makePlain_63 : decode m_AS_makePlain.2.1 63 = .ok (.iload_n 2, 1) := by decide +kernel
theorem d_AS_makePlain_64 : decode m_AS_makePlain.2.1 64 = .ok (.invokevirtual 77, 3) := by decide +kernel
theorem d_AS_makePlain_67 : decode m_AS_makePlain.2.1 67 = .ok (.istore 4, 2) := by decide +kernel
theorem d_AS_makePlain_69 : decode m_AS_makePlain.2.1 69 = .ok (.iload 4, 2) := by decide +kernel
theorem d_AS_makePlain_71 : decode m_AS_makePlain.2.1 71 = .ok (.ifCond .lt 51, 3) := by decide +kernel
theorem d_AS_makePlain_74 : decode m_AS_makePlain.2.1 74 = .ok (.aload_n 3, 1) := by decide +kernel
theorem d_AS_makePlain_75 : decode m_AS_makePlain.2.1 75 = .ok (.iload_n 2, 1) := by decide +kernel
theorem d_AS_makePlain_76 : decode m_AS_makePlain.2.1 76 = .ok (.putfield 74, 3) := by decide +kernel
theorem d_AS_makePlain_79 : decode m_AS_makePlain.2.1 79 = .ok (.aload_n 3, 1) := by decide +kernel
theorem d_AS_makePlain_80 : decode m_AS_makePlain.2.1 80 = .ok (.aload_n 0, 1) := by decide +kernel
theorem d_AS_makePlain_81 : decode m_AS_makePlain.2.1 81 = .ok (.getfield 41, 3) := by decide +kernel
theorem d_AS_makePlain_84 : decode m_AS_makePlain.2.1 84 = .ok (.iload 4, 2) := by decide +kernel
theorem d_AS_makePlain_86 : decode m_AS_makePlain.2.1 86 = .ok (.bipush 10, 2) := by decide +kernel
theorem d_AS_makePlain_88 : decode m_AS_makePlain.2.1 88 = .ok (.idiv, 1) := by decide +kernel
theorem d_AS_makePlain_89 : decode m_AS_makePlain.2.1 89 = .ok (.iload 4, 2) := by decide +kernel
theorem d_AS_makePlain_91 : decode m_AS_makePlain.2.1 91 = .ok (.bipush 10, 2) := by decide +kernel
theorem d_AS_makePlain_93 : decode m_AS_makePlain.2.1 93 = .ok (.irem, 1) := by decide +kernel
theorem d_AS_makePlain_94 : decode m_AS_makePlain.2.1 94 = .ok (.invokevirtual 105, 3) := by decide +kernel
theorem d_AS_makePlain_97 : decode m_AS_makePlain.2.1 97 = .ok (.getfield 109, 3) := by decide +kernel
theorem d_AS_makePlain_100 : decode m_AS_makePlain.2.1 100 = .ok (.putfield 114, 3) := by decide +kernel
theorem d_AS_makePlain_103 : decode m_AS_makePlain.2.1 103 = .ok (.aload_n 3, 1) := by decide +kernel
theorem d_AS_makePlain_104 : decode m_AS_makePlain.2.1 104 = .ok (.aload_n 3, 1) := by decide +kernel
theorem d_AS_makePlain_105 : decode m_AS_makePlain.2.1 105 = .ok (.getfield 114, 3) := by decide +kernel
theorem d_AS_makePlain_108 : decode m_AS_makePlain.2.1 108 = .ok (.aload_n 0, 1) := by decide +kernel
theorem d_AS_makePlain_109 : decode m_AS_makePlain.2.1 109 = .ok (.getfield 41, 3) := by decide +kernel
theorem d_AS_makePlain_112 : decode m_AS_makePlain.2.1 112 = .ok (.aload_n 3, 1) := by decide +kernel
theorem d_AS_makePlain_113 : decode m_AS_makePlain.2.1 113 = .ok (.getfield 114, 3) := by decide +kernel
theorem d_AS_makePlain_116 : decode m_AS_makePlain.2.1 116 = .ok (.invokevirtual 89, 3) := by decide +kernel
theorem d_AS_makePlain_119 : decode m_AS_makePlain.2.1 119 = .ok (.invokevirtual 94, 3) := by decide +kernel
theorem d_AS_makePlain_122 : decode m_AS_makePlain.2.1 122 = .ok (.aload_n 0, 1) := by decide +kernel
theorem d_AS_makePlain_123 : decode m_AS_makePlain.2.1 123 = .ok (.dup, 1) := by decide +kernel
theorem d_AS_makePlain_124 : decode m_AS_makePlain.2.1 124 = .ok (.getfield 45, 3) := by decide +kernel
theorem d_AS_makePlain_127 : decode m_AS_makePlain.2.1 127 = .ok (.dup_x1, 1) := by decide +kernel
theorem d_AS_makePlain_128 : decode m_AS_makePlain.2.1 128 = .ok (.iconst 1, 1) := by decide +kernel
theorem d_AS_makePlain_129 : decode m_AS_makePlain.2.1 129 = .ok (.iadd, 1) := by decide +kernel
theorem d_AS_makePlain_130 : decode m_AS_makePlain.2.1 130 = .ok (.putfield 45, 3) := by decide +kernel
theorem d_AS_makePlain_133 : decode m_AS_makePlain.2.1 133 = .ok (.ireturn, 1) := by decide +kernel
theorem d_AS_makeGathered_0 : decode m_AS_makeGathered.2.1 0 = .ok (.aload_n 0, 1) := by decide +kernel
theorem d_AS_makeGathered_1 : decode m_AS_makeGathered.2.1 1 = .ok (.aload_n 0, 1) := by decide +kernel
theorem d_AS_makeGathered_2 : decode m_AS_makeGathered.2.1 2 = .ok (.getfield 45, 3) := by decide +kernel
theorem d_AS_makeGathered_5 : decode m_AS_makeGathered.2.1 5 = .ok (.invokevirtual 49, 3) := by decide +kernel
theorem d_AS_makeGathered_8 : decode m_AS_makeGathered.2.1 8 = .ok (.astore 6, 2) := by decide +kernel
theorem d_AS_makeGathered_10 : decode m_AS_makeGathered.2.1 10 = .ok (.aload 6, 2) := by decide +kernel
theorem d_AS_makeGathered_12 : decode m_AS_makeGathered.2.1 12 = .ok (.iload_n 1, 1) := by decide +kernel
theorem d_AS_makeGathered_13 : decode m_AS_makeGathered.2.1 13 = .ok (.putfield 53, 3) := by decide +kernel
theorem d_AS_makeGathered_16 : decode m_AS_makeGathered.2.1 16 = .ok (.aload 6, 2) := by decide +kernel
theorem d_AS_makeGathered_18 : decode m_AS_makeGathered.2.1 18 = .ok (.iload_n 2, 1) := by decide +kernel
theorem d_AS_makeGathered_19 : decode m_AS_makeGathered.2.1 19 = .ok (.putfield 67, 3) := by decide +kernel
theorem d_AS_makeGathered_22 : decode m_AS_makeGathered.2.1 22 = .ok (.aload 6, 2) := by decide +kernel
theorem d_AS_makeGathered_24 : decode m_AS_makeGathered.2.1 24 = .ok (.iload_n 3, 1) := by decide +kernel
theorem d_AS_makeGathered_25 : decode m_AS_makeGathered.2.1 25 = .ok (.putfield 80, 3) := by decide +kernel
theorem d_AS_makeGathered_28 : decode m_AS_makeGathered.2.1 28 = .ok (.aload 6, 2) := by decide +kernel
theorem d_AS_makeGathered_30 : decode m_AS_makeGathered.2.1 30 = .ok (.iload 4, 2) := by decide +kernel
theorem d_AS_makeGathered_32 : decode m_AS_makeGathered.2.1 32 = .ok (.putfield 83, 3) := by decide +kernel
theorem d_AS_makeGathered_35 : decode m_AS_makeGathered.2.1 35 = .ok (.aload 6, 2) := by decide +kernel
theorem d_AS_makeGathered_37 : decode m_AS_makeGathered.2.1 37 = .ok (.iload 5, 2) := by decide +kernel
theorem d_AS_makeGathered_39 : decode m_AS_makeGathered.2.1 39 = .ok (.putfield 86, 3) := by decide +kernel
theorem d_AS_makeGathered_42 : decode m_AS_makeGathered.2.1 42 = .ok (.aload 6, 2) := by decide +kernel
theorem d_AS_makeGathered_44 : decode m_AS_makeGathered.2.1 44 = .ok (.iconst 5, 1) := by decide +kernel
theorem d_AS_makeGathered_45 : decode m_AS_makeGathered.2.1 45 = .ok (.putfield 56, 3) := by decide +kernel
theorem d_AS_makeGathered_48 : decode m_AS_makeGathered.2.1 48 = .ok (.aload_n 0, 1) := by decide +kernel
theorem d_AS_makeGathered_49 : decode m_AS_makeGathered.2.1 49 = .ok (.dup, 1) := by decide +kernel
theorem d_AS_makeGathered_50 : decode m_AS_makeGathered.2.1 50 = .ok (.getfield 45, 3) := by decide +kernel
theorem d_AS_makeGathered_53 : decode m_AS_makeGathered.2.1 53 = .ok (.dup_x1, 1) := by decide +kernel
theorem d_AS_makeGathered_54 : decode m_AS_makeGathered.2.1 54 = .ok (.iconst 1, 1) := by decide +kernel
theorem d_AS_makeGathered_55 : decode m_AS_makeGathered.2.1 55 = .ok (.iadd, 1) := by decide +kernel
theorem d_AS_makeGathered_56 : decode m_AS_makeGathered.2.1 56 = .ok (.putfield 45, 3) := by decide +kernel
theorem d_AS_makeGathered_59 : decode m_AS_makeGathered.2.1 59 = .ok (.ireturn, 1) := by decide +kernel
theorem d_AS_get_0 : decode m_AS_get.2.1 0 = .ok (.iload_n 1, 1) := by decide +kernel
theorem d_AS_get_1 : decode m_AS_get.2.1 1 = .ok (.ifCond .lt 19, 3) := by decide +kernel
theorem d_AS_get_4 : decode m_AS_get.2.1 4 = .ok (.iload_n 1, 1) := by decide +kernel
theorem d_AS_get_5 : decode m_AS_get.2.1 5 = .ok (.bipush 30, 2) := by decide +kernel
theorem d_AS_get_7 : decode m_AS_get.2.1 7 = .ok (.if_icmp .ge 13, 3) := by decide +kernel
theorem d_AS_get_10 : decode m_AS_get.2.1 10 = .ok (.iload_n 2, 1) := by decide +kernel
theorem d_AS_get_11 : decode m_AS_get.2.1 11 = .ok (.ifCond .lt 9, 3) := by decide +kernel
theorem d_AS_get_14 : decode m_AS_get.2.1 14 = .ok (.iload_n 2, 1) := by decide +kernel
theorem d_AS_get_15 : decode m_AS_get.2.1 15 = .ok (.bipush 54, 2) := by decide +kernel
theorem d_AS_get_17 : decode m_AS_get.2.1 17 = .ok (.if_icmp .lt 6, 3) := by decide +kernel
theorem d_AS_get_20 : decode m_AS_get.2.1 20 = .ok (.ldc 117, 2) := by decide +kernel
theorem d_AS_get_22 : decode m_AS_get.2.1 22 = .ok (.ireturn, 1) := by decide +kernel
theorem d_AS_get_23 : decode m_AS_get.2.1 23 = .ok (.aload_n 0, 1) := by decide +kernel
theorem d_AS_get_24 : decode m_AS_get.2.1 24 = .ok (.getfield 22, 3) := by decide +kernel
theorem d_AS_get_27 : decode m_AS_get.2.1 27 = .ok (.iload_n 1, 1) := by decide +kernel
theorem d_AS_get_28 : decode m_AS_get.2.1 28 = .ok (.bipush 54, 2) := by decide +kernel
theorem d_AS_get_30 : decode m_AS_get.2.1 30 = .ok (.imul, 1) := by decide +kernel
theorem d_AS_get_31 : decode m_AS_get.2.1 31 = .ok (.iload_n 2, 1) := by decide +kernel
theorem d_AS_get_32 : decode m_AS_get.2.1 32 = .ok (.iadd, 1) := by decide +kernel
theorem d_AS_get_33 : decode m_AS_get.2.1 33 = .ok (.iaload, 1) := by decide +kernel
theorem d_AS_get_34 : decode m_AS_get.2.1 34 = .ok (.ireturn, 1) := by decide +kernel
theorem d_AS_set_0 : decode m_AS_set.2.1 0 = .ok (.iload_n 1, 1) := by decide +kernel
theorem d_AS_set_1 : decode m_AS_set.2.1 1 = .ok (.ifCond .lt 31, 3) := by decide +kernel
theorem d_AS_set_4 : decode m_AS_set.2.1 4 = .ok (.iload_n 1, 1) := by decide +kernel
theorem d_AS_set_5 : decode m_AS_set.2.1 5 = .ok (.bipush 30, 2) := by decide +kernel
theorem d_AS_set_7 : decode m_AS_set.2.1 7 = .ok (.if_icmp .ge 25, 3) := by decide +kernel
theorem d_AS_set_10 : decode m_AS_set.2.1 10 = .ok (.iload_n 2, 1) := by decide +kernel
theorem d_AS_set_11 : decode m_AS_set.2.1 11 = .ok (.ifCond .lt 21, 3) := by decide +kernel
theorem d_AS_set_14 : decode m_AS_set.2.1 14 = .ok (.iload_n 2, 1) := by decide +kernel
theorem d_AS_set_15 : decode m_AS_set.2.1 15 = .ok (.bipush 54, 2) := by decide +kernel
theorem d_AS_set_17 : decode m_AS_set.2.1 17 = .ok (.if_icmp .ge 15, 3) := by decide +kernel
theorem d_AS_set_20 : decode m_AS_set.2.1 20 = .ok (.aload_n 0, 1) := by decide +kernel
theorem d_AS_set_21 : decode m_AS_set.2.1 21 = .ok (.getfield 22, 3) := by decide +kernel
theorem d_AS_set_24 : decode m_AS_set.2.1 24 = .ok (.iload_n 1, 1) := by decide +kernel
theorem d_AS_set_25 : decode m_AS_set.2.1 25 = .ok (.bipush 54, 2) := by decide +kernel
theorem d_AS_set_27 : decode m_AS_set.2.1 27 = .ok (.imul, 1) := by decide +kernel
theorem d_AS_set_28 : decode m_AS_set.2.1 28 = .ok (.iload_n 2, 1) := by decide +kernel
theorem d_AS_set_29 : decode m_AS_set.2.1 29 = .ok (.iadd, 1) := by decide +kernel
theorem d_AS_set_30 : decode m_AS_set.2.1 30 = .ok (.iload_n 3, 1) := by decide +kernel
theorem d_AS_set_31 : decode m_AS_set.2.1 31 = .ok (.iastore, 1) := by decide +kernel
theorem d_AS_set_32 : decode m_AS_set.2.1 32 = .ok (.return_, 1) := by decide +kernel
theorem d_AS_rowOf_0 : decode m_AS_rowOf.2.1 0 = .ok (.iload_n 2, 1) := by decide +kernel
theorem d_AS_rowOf_1 : decode m_AS_rowOf.2.1 1 = .ok (.ifCond .lt 19, 3) := by decide +kernel
theorem d_AS_rowOf_4 : decode m_AS_rowOf.2.1 4 = .ok (.iload_n 2, 1) := by decide +kernel
theorem d_AS_rowOf_5 : decode m_AS_rowOf.2.1 5 = .ok (.bipush 30, 2) := by decide +kernel
theorem d_AS_rowOf_7 : decode m_AS_rowOf.2.1 7 = .ok (.if_icmp .ge 13, 3) := by decide +kernel
theorem d_AS_rowOf_10 : decode m_AS_rowOf.2.1 10 = .ok (.iload_n 3, 1) := by decide +kernel
theorem d_AS_rowOf_11 : decode m_AS_rowOf.2.1 11 = .ok (.ifCond .lt 9, 3) := by decide +kernel
theorem d_AS_rowOf_14 : decode m_AS_rowOf.2.1 14 = .ok (.iload_n 3, 1) := by decide +kernel
theorem d_AS_rowOf_15 : decode m_AS_rowOf.2.1 15 = .ok (.bipush 54, 2) := by decide +kernel
theorem d_AS_rowOf_17 : decode m_AS_rowOf.2.1 17 = .ok (.if_icmp .lt 5, 3) := by decide +kernel
theorem d_AS_rowOf_20 : decode m_AS_rowOf.2.1 20 = .ok (.iconst (-1), 1) := by decide +kernel
theorem d_AS_rowOf_21 : decode m_AS_rowOf.2.1 21 = .ok (.ireturn, 1) := by decide +kernel
theorem d_AS_rowOf_22 : decode m_AS_rowOf.2.1 22 = .ok (.aload_n 0, 1) := by decide +kernel
theorem d_AS_rowOf_23 : decode m_AS_rowOf.2.1 23 = .ok (.iload_n 1, 1) := by decide +kernel
theorem d_AS_rowOf_24 : decode m_AS_rowOf.2.1 24 = .ok (.invokevirtual 49, 3) := by decide +kernel
theorem d_AS_rowOf_27 : decode m_AS_rowOf.2.1 27 = .ok (.getfield 118, 3) := by decide +kernel
theorem d_AS_rowOf_30 : decode m_AS_rowOf.2.1 30 = .ok (.iload_n 3, 1) := by decide +kernel
theorem d_AS_rowOf_31 : decode m_AS_rowOf.2.1 31 = .ok (.iaload, 1) := by decide +kernel
theorem d_AS_rowOf_32 : decode m_AS_rowOf.2.1 32 = .ok (.istore 4, 2) := by decide +kernel
theorem d_AS_rowOf_34 : decode m_AS_rowOf.2.1 34 = .ok (.iload 4, 2) := by decide +kernel
theorem d_AS_rowOf_36 : decode m_AS_rowOf.2.1 36 = .ok (.ifCond .lt 10, 3) := by decide +kernel
theorem d_AS_rowOf_39 : decode m_AS_rowOf.2.1 39 = .ok (.iload 4, 2) := by decide +kernel
theorem d_AS_rowOf_41 : decode m_AS_rowOf.2.1 41 = .ok (.bipush 9, 2) := by decide +kernel
theorem d_AS_rowOf_43 : decode m_AS_rowOf.2.1 43 = .ok (.if_icmp .lt 7, 3) := by decide +kernel
theorem d_AS_rowOf_46 : decode m_AS_rowOf.2.1 46 = .ok (.iconst (-1), 1) := by decide +kernel
theorem d_AS_rowOf_47 : decode m_AS_rowOf.2.1 47 = .ok (.goto 15, 3) := by decide +kernel
theorem d_AS_rowOf_50 : decode m_AS_rowOf.2.1 50 = .ok (.aload_n 0, 1) := by decide +kernel
theorem d_AS_rowOf_51 : decode m_AS_rowOf.2.1 51 = .ok (.getfield 26, 3) := by decide +kernel
theorem d_AS_rowOf_54 : decode m_AS_rowOf.2.1 54 = .ok (.iload_n 2, 1) := by decide +kernel
theorem d_AS_rowOf_55 : decode m_AS_rowOf.2.1 55 = .ok (.bipush 9, 2) := by decide +kernel
theorem d_AS_rowOf_57 : decode m_AS_rowOf.2.1 57 = .ok (.imul, 1) := by decide +kernel
theorem d_AS_rowOf_58 : decode m_AS_rowOf.2.1 58 = .ok (.iload 4, 2) := by decide +kernel
theorem d_AS_rowOf_60 : decode m_AS_rowOf.2.1 60 = .ok (.iadd, 1) := by decide +kernel
theorem d_AS_rowOf_61 : decode m_AS_rowOf.2.1 61 = .ok (.iaload, 1) := by decide +kernel
theorem d_AS_rowOf_62 : decode m_AS_rowOf.2.1 62 = .ok (.ireturn, 1) := by decide +kernel
theorem d_AS_setRow_0 : decode m_AS_setRow.2.1 0 = .ok (.iload_n 1, 1) := by decide +kernel
theorem d_AS_setRow_1 : decode m_AS_setRow.2.1 1 = .ok (.ifCond .lt 31, 3) := by decide +kernel
theorem d_AS_setRow_4 : decode m_AS_setRow.2.1 4 = .ok (.iload_n 1, 1) := by decide +kernel
theorem d_AS_setRow_5 : decode m_AS_setRow.2.1 5 = .ok (.bipush 30, 2) := by decide +kernel
theorem d_AS_setRow_7 : decode m_AS_setRow.2.1 7 = .ok (.if_icmp .ge 25, 3) := by decide +kernel
theorem d_AS_setRow_10 : decode m_AS_setRow.2.1 10 = .ok (.iload_n 2, 1) := by decide +kernel
theorem d_AS_setRow_11 : decode m_AS_setRow.2.1 11 = .ok (.ifCond .lt 21, 3) := by decide +kernel
theorem d_AS_setRow_14 : decode m_AS_setRow.2.1 14 = .ok (.iload_n 2, 1) := by decide +kernel
theorem d_AS_setRow_15 : decode m_AS_setRow.2.1 15 = .ok (.bipush 9, 2) := by decide +kernel
theorem d_AS_setRow_17 : decode m_AS_setRow.2.1 17 = .ok (.if_icmp .ge 15, 3) := by decide +kernel
theorem d_AS_setRow_20 : decode m_AS_setRow.2.1 20 = .ok (.aload_n 0, 1) := by decide +kernel
theorem d_AS_setRow_21 : decode m_AS_setRow.2.1 21 = .ok (.getfield 26, 3) := by decide +kernel
theorem d_AS_setRow_24 : decode m_AS_setRow.2.1 24 = .ok (.iload_n 1, 1) := by decide +kernel
theorem d_AS_setRow_25 : decode m_AS_setRow.2.1 25 = .ok (.bipush 9, 2) := by decide +kernel
theorem d_AS_setRow_27 : decode m_AS_setRow.2.1 27 = .ok (.imul, 1) := by decide +kernel
theorem d_AS_setRow_28 : decode m_AS_setRow.2.1 28 = .ok (.iload_n 2, 1) := by decide +kernel
theorem d_AS_setRow_29 : decode m_AS_setRow.2.1 29 = .ok (.iadd, 1) := by decide +kernel
theorem d_AS_setRow_30 : decode m_AS_setRow.2.1 30 = .ok (.iload_n 3, 1) := by decide +kernel
theorem d_AS_setRow_31 : decode m_AS_setRow.2.1 31 = .ok (.iastore, 1) := by decide +kernel
theorem d_AS_setRow_32 : decode m_AS_setRow.2.1 32 = .ok (.return_, 1) := by decide +kernel
theorem d_AS_secondKey_0 : decode m_AS_secondKey.2.1 0 = .ok (.iload_n 1, 1) := by decide +kernel
theorem d_AS_secondKey_1 : decode m_AS_secondKey.2.1 1 = .ok (.ifCond .lt 9, 3) := by decide +kernel
theorem d_AS_secondKey_4 : decode m_AS_secondKey.2.1 4 = .ok (.iload_n 1, 1) := by decide +kernel
theorem d_AS_secondKey_5 : decode m_AS_secondKey.2.1 5 = .ok (.bipush 30, 2) := by decide +kernel
theorem d_AS_secondKey_7 : decode m_AS_secondKey.2.1 7 = .ok (.if_icmp .lt 8, 3) := by decide +kernel
theorem d_AS_secondKey_10 : decode m_AS_secondKey.2.1 10 = .ok (.ldc 117, 2) := by decide +kernel
theorem d_AS_secondKey_12 : decode m_AS_secondKey.2.1 12 = .ok (.goto 9, 3) := by decide +kernel
theorem d_AS_secondKey_15 : decode m_AS_secondKey.2.1 15 = .ok (.aload_n 0, 1) := by decide +kernel
theorem d_AS_secondKey_16 : decode m_AS_secondKey.2.1 16 = .ok (.getfield 32, 3) := by decide +kernel
theorem d_AS_secondKey_19 : decode m_AS_secondKey.2.1 19 = .ok (.iload_n 1, 1) := by decide +kernel
theorem d_AS_secondKey_20 : decode m_AS_secondKey.2.1 20 = .ok (.iaload, 1) := by decide +kernel
theorem d_AS_secondKey_21 : decode m_AS_secondKey.2.1 21 = .ok (.ireturn, 1) := by decide +kernel
theorem d_AS_find_0 : decode m_AS_find.2.1 0 = .ok (.iconst 0, 1) := by decide +kernel
theorem d_AS_find_1 : decode m_AS_find.2.1 1 = .ok (.istore_n 2, 1) := by decide +kernel
theorem d_AS_find_2 : decode m_AS_find.2.1 2 = .ok (.bipush 10, 2) := by decide +kernel
theorem d_AS_find_4 : decode m_AS_find.2.1 4 = .ok (.iload_n 1, 1) := by decide +kernel
theorem d_AS_find_5 : decode m_AS_find.2.1 5 = .ok (.iadd, 1) := by decide +kernel
theorem d_AS_find_6 : decode m_AS_find.2.1 6 = .ok (.istore_n 3, 1) := by decide +kernel
theorem d_AS_find_7 : decode m_AS_find.2.1 7 = .ok (.iload_n 2, 1) := by decide +kernel
theorem d_AS_find_8 : decode m_AS_find.2.1 8 = .ok (.aload_n 0, 1) := by decide +kernel
theorem d_AS_find_9 : decode m_AS_find.2.1 9 = .ok (.getfield 38, 3) := by decide +kernel
theorem d_AS_find_12 : decode m_AS_find.2.1 12 = .ok (.arraylength, 1) := by decide +kernel
theorem d_AS_find_13 : decode m_AS_find.2.1 13 = .ok (.if_icmp .ge 39, 3) := by decide +kernel
theorem d_AS_find_16 : decode m_AS_find.2.1 16 = .ok (.iload_n 3, 1) := by decide +kernel
theorem d_AS_find_17 : decode m_AS_find.2.1 17 = .ok (.bipush 10, 2) := by decide +kernel
theorem d_AS_find_19 : decode m_AS_find.2.1 19 = .ok (.if_icmp .lt 33, 3) := by decide +kernel
theorem d_AS_find_22 : decode m_AS_find.2.1 22 = .ok (.aload_n 0, 1) := by decide +kernel
theorem d_AS_find_23 : decode m_AS_find.2.1 23 = .ok (.getfield 38, 3) := by decide +kernel
theorem d_AS_find_26 : decode m_AS_find.2.1 26 = .ok (.iload_n 2, 1) := by decide +kernel
theorem d_AS_find_27 : decode m_AS_find.2.1 27 = .ok (.iload_n 3, 1) := by decide +kernel
theorem d_AS_find_28 : decode m_AS_find.2.1 28 = .ok (.bipush 10, 2) := by decide +kernel
theorem d_AS_find_30 : decode m_AS_find.2.1 30 = .ok (.isub, 1) := by decide +kernel
theorem d_AS_find_31 : decode m_AS_find.2.1 31 = .ok (.iastore, 1) := by decide +kernel
theorem d_AS_find_32 : decode m_AS_find.2.1 32 = .ok (.aload_n 0, 1) := by decide +kernel
theorem d_AS_find_33 : decode m_AS_find.2.1 33 = .ok (.aload_n 0, 1) := by decide +kernel
theorem d_AS_find_34 : decode m_AS_find.2.1 34 = .ok (.getfield 38, 3) := by decide +kernel
theorem d_AS_find_37 : decode m_AS_find.2.1 37 = .ok (.iload_n 2, 1) := by decide +kernel
theorem d_AS_find_38 : decode m_AS_find.2.1 38 = .ok (.iaload, 1) := by decide +kernel
theorem d_AS_find_39 : decode m_AS_find.2.1 39 = .ok (.invokevirtual 49, 3) := by decide +kernel
theorem d_AS_find_42 : decode m_AS_find.2.1 42 = .ok (.getfield 67, 3) := by decide +kernel
theorem d_AS_find_45 : decode m_AS_find.2.1 45 = .ok (.istore_n 3, 1) := by decide +kernel
theorem d_AS_find_46 : decode m_AS_find.2.1 46 = .ok (.iinc 2 1, 3) := by decide +kernel
theorem d_AS_find_49 : decode m_AS_find.2.1 49 = .ok (.goto (-42), 3) := by decide +kernel
theorem d_AS_find_52 : decode m_AS_find.2.1 52 = .ok (.aload_n 0, 1) := by decide +kernel
theorem d_AS_find_53 : decode m_AS_find.2.1 53 = .ok (.iload_n 3, 1) := by decide +kernel
theorem d_AS_find_54 : decode m_AS_find.2.1 54 = .ok (.invokevirtual 121, 3) := by decide +kernel
theorem d_AS_find_57 : decode m_AS_find.2.1 57 = .ok (.iload_n 2, 1) := by decide +kernel
theorem d_AS_find_58 : decode m_AS_find.2.1 58 = .ok (.iconst 1, 1) := by decide +kernel
theorem d_AS_find_59 : decode m_AS_find.2.1 59 = .ok (.isub, 1) := by decide +kernel
theorem d_AS_find_60 : decode m_AS_find.2.1 60 = .ok (.istore 4, 2) := by decide +kernel
theorem d_AS_find_62 : decode m_AS_find.2.1 62 = .ok (.iload 4, 2) := by decide +kernel
theorem d_AS_find_64 : decode m_AS_find.2.1 64 = .ok (.ifCond .lt 63, 3) := by decide +kernel
theorem d_AS_find_67 : decode m_AS_find.2.1 67 = .ok (.aload_n 0, 1) := by decide +kernel
theorem d_AS_find_68 : decode m_AS_find.2.1 68 = .ok (.aload_n 0, 1) := by decide +kernel
theorem d_AS_find_69 : decode m_AS_find.2.1 69 = .ok (.getfield 38, 3) := by decide +kernel
theorem d_AS_find_72 : decode m_AS_find.2.1 72 = .ok (.iload 4, 2) := by decide +kernel
theorem d_AS_find_74 : decode m_AS_find.2.1 74 = .ok (.iaload, 1) := by decide +kernel
theorem d_AS_find_75 : decode m_AS_find.2.1 75 = .ok (.invokevirtual 49, 3) := by decide +kernel
theorem d_AS_find_78 : decode m_AS_find.2.1 78 = .ok (.astore 5, 2) := by decide +kernel
theorem d_AS_find_80 : decode m_AS_find.2.1 80 = .ok (.aload 5, 2) := by decide +kernel
theorem d_AS_find_82 : decode m_AS_find.2.1 82 = .ok (.getfield 53, 3) := by decide +kernel
theorem d_AS_find_85 : decode m_AS_find.2.1 85 = .ok (.ifCond .ne 12, 3) := by decide +kernel
theorem d_AS_find_88 : decode m_AS_find.2.1 88 = .ok (.aload_n 0, 1) := by decide +kernel
theorem d_AS_find_89 : decode m_AS_find.2.1 89 = .ok (.aload 5, 2) := by decide +kernel
theorem d_AS_find_91 : decode m_AS_find.2.1 91 = .ok (.invokevirtual 125, 3) := by decide +kernel
theorem d_AS_find_94 : decode m_AS_find.2.1 94 = .ok (.goto 27, 3) := by decide +kernel
theorem d_AS_find_97 : decode m_AS_find.2.1 97 = .ok (.aload 5, 2) := by decide +kernel
theorem d_AS_find_99 : decode m_AS_find.2.1 99 = .ok (.getfield 53, 3) := by decide +kernel
theorem d_AS_find_102 : decode m_AS_find.2.1 102 = .ok (.iconst 1, 1) := by decide +kernel
theorem d_AS_find_103 : decode m_AS_find.2.1 103 = .ok (.if_icmp .ne 12, 3) := by decide +kernel
theorem d_AS_find_106 : decode m_AS_find.2.1 106 = .ok (.aload_n 0, 1) := by decide +kernel
theorem d_AS_find_107 : decode m_AS_find.2.1 107 = .ok (.aload 5, 2) := by decide +kernel
theorem d_AS_find_109 : decode m_AS_find.2.1 109 = .ok (.invokevirtual 128, 3) := by decide +kernel
theorem d_AS_find_112 : decode m_AS_find.2.1 112 = .ok (.goto 9, 3) := by decide +kernel
theorem d_AS_find_115 : decode m_AS_find.2.1 115 = .ok (.aload_n 0, 1) := by decide +kernel
theorem d_AS_find_116 : decode m_AS_find.2.1 116 = .ok (.aload 5, 2) := by decide +kernel
theorem d_AS_find_118 : decode m_AS_find.2.1 118 = .ok (.invokevirtual 131, 3) := by decide +kernel
theorem d_AS_find_121 : decode m_AS_find.2.1 121 = .ok (.iinc 4 (-1), 3) := by decide +kernel
theorem d_AS_find_124 : decode m_AS_find.2.1 124 = .ok (.goto (-62), 3) := by decide +kernel
theorem d_AS_find_127 : decode m_AS_find.2.1 127 = .ok (.aload_n 0, 1) := by decide +kernel
theorem d_AS_find_128 : decode m_AS_find.2.1 128 = .ok (.getfield 134, 3) := by decide +kernel
theorem d_AS_find_131 : decode m_AS_find.2.1 131 = .ok (.ireturn, 1) := by decide +kernel
theorem d_AS_findRows_0 : decode m_AS_findRows.2.1 0 = .ok (.aload_n 0, 1) := by decide +kernel
theorem d_AS_findRows_1 : decode m_AS_findRows.2.1 1 = .ok (.iconst 0, 1) := by decide +kernel
theorem d_AS_findRows_2 : decode m_AS_findRows.2.1 2 = .ok (.putfield 134, 3) := by decide +kernel
theorem d_AS_findRows_5 : decode m_AS_findRows.2.1 5 = .ok (.aload_n 0, 1) := by decide +kernel
theorem d_AS_findRows_6 : decode m_AS_findRows.2.1 6 = .ok (.aload_n 0, 1) := by decide +kernel
theorem d_AS_findRows_7 : decode m_AS_findRows.2.1 7 = .ok (.getfield 41, 3) := by decide +kernel
theorem d_AS_findRows_10 : decode m_AS_findRows.2.1 10 = .ok (.iload_n 1, 1) := by decide +kernel
theorem d_AS_findRows_11 : decode m_AS_findRows.2.1 11 = .ok (.invokevirtual 89, 3) := by decide +kernel
theorem d_AS_findRows_14 : decode m_AS_findRows.2.1 14 = .ok (.putfield 63, 3) := by decide +kernel
theorem d_AS_findRows_17 : decode m_AS_findRows.2.1 17 = .ok (.iconst 0, 1) := by decide +kernel
theorem d_AS_findRows_18 : decode m_AS_findRows.2.1 18 = .ok (.istore_n 2, 1) := by decide +kernel
theorem d_AS_findRows_19 : decode m_AS_findRows.2.1 19 = .ok (.iload_n 2, 1) := by decide +kernel
theorem d_AS_findRows_20 : decode m_AS_findRows.2.1 20 = .ok (.bipush 30, 2) := by decide +kernel
theorem d_AS_findRows_22 : decode m_AS_findRows.2.1 22 = .ok (.if_icmp .ge 82, 3) := by decide +kernel
theorem d_AS_findRows_25 : decode m_AS_findRows.2.1 25 = .ok (.aload_n 0, 1) := by decide +kernel
theorem d_AS_findRows_26 : decode m_AS_findRows.2.1 26 = .ok (.getfield 41, 3) := by decide +kernel
theorem d_AS_findRows_29 : decode m_AS_findRows.2.1 29 = .ok (.getfield 137, 3) := by decide +kernel
theorem d_AS_findRows_32 : decode m_AS_findRows.2.1 32 = .ok (.iload_n 1, 1) := by decide +kernel
theorem d_AS_findRows_33 : decode m_AS_findRows.2.1 33 = .ok (.iload_n 2, 1) := by decide +kernel
theorem d_AS_findRows_34 : decode m_AS_findRows.2.1 34 = .ok (.invokevirtual 141, 3) := by decide +kernel
theorem d_AS_findRows_37 : decode m_AS_findRows.2.1 37 = .ok (.ifCond .eq 61, 3) := by decide +kernel
theorem d_AS_findRows_40 : decode m_AS_findRows.2.1 40 = .ok (.iconst 0, 1) := by decide +kernel
theorem d_AS_findRows_41 : decode m_AS_findRows.2.1 41 = .ok (.istore_n 3, 1) := by decide +kernel
theorem d_AS_findRows_42 : decode m_AS_findRows.2.1 42 = .ok (.iload_n 3, 1) := by decide +kernel
theorem d_AS_findRows_43 : decode m_AS_findRows.2.1 43 = .ok (.aload_n 0, 1) := by decide +kernel
theorem d_AS_findRows_44 : decode m_AS_findRows.2.1 44 = .ok (.getfield 63, 3) := by decide +kernel
theorem d_AS_findRows_47 : decode m_AS_findRows.2.1 47 = .ok (.if_icmp .ge 31, 3) := by decide +kernel
theorem d_AS_findRows_50 : decode m_AS_findRows.2.1 50 = .ok (.aload_n 0, 1) := by decide +kernel
theorem d_AS_findRows_51 : decode m_AS_findRows.2.1 51 = .ok (.aload_n 0, 1) := by decide +kernel
theorem d_AS_findRows_52 : decode m_AS_findRows.2.1 52 = .ok (.getfield 134, 3) := by decide +kernel
theorem d_AS_findRows_55 : decode m_AS_findRows.2.1 55 = .ok (.iload_n 3, 1) := by decide +kernel
theorem d_AS_findRows_56 : decode m_AS_findRows.2.1 56 = .ok (.aload_n 0, 1) := by decide +kernel
theorem d_AS_findRows_57 : decode m_AS_findRows.2.1 57 = .ok (.getfield 41, 3) := by decide +kernel
theorem d_AS_findRows_60 : decode m_AS_findRows.2.1 60 = .ok (.getfield 137, 3) := by decide +kernel
theorem d_AS_findRows_63 : decode m_AS_findRows.2.1 63 = .ok (.iload_n 1, 1) := by decide +kernel
theorem d_AS_findRows_64 : decode m_AS_findRows.2.1 64 = .ok (.iload_n 2, 1) := by decide +kernel
theorem d_AS_findRows_65 : decode m_AS_findRows.2.1 65 = .ok (.iload_n 3, 1) := by decide +kernel
theorem d_AS_findRows_66 : decode m_AS_findRows.2.1 66 = .ok (.invokevirtual 147, 3) := by decide +kernel
theorem d_AS_findRows_69 : decode m_AS_findRows.2.1 69 = .ok (.invokevirtual 151, 3) := by decide +kernel
theorem d_AS_findRows_72 : decode m_AS_findRows.2.1 72 = .ok (.iinc 3 1, 3) := by decide +kernel
theorem d_AS_findRows_75 : decode m_AS_findRows.2.1 75 = .ok (.goto (-33), 3) := by decide +kernel
theorem d_AS_findRows_78 : decode m_AS_findRows.2.1 78 = .ok (.aload_n 0, 1) := by decide +kernel
theorem d_AS_findRows_79 : decode m_AS_findRows.2.1 79 = .ok (.aload_n 0, 1) := by decide +kernel
theorem d_AS_findRows_80 : decode m_AS_findRows.2.1 80 = .ok (.getfield 134, 3) := by decide +kernel
theorem d_AS_findRows_83 : decode m_AS_findRows.2.1 83 = .ok (.iconst 0, 1) := by decide +kernel
theorem d_AS_findRows_84 : decode m_AS_findRows.2.1 84 = .ok (.iload_n 2, 1) := by decide +kernel
theorem d_AS_findRows_85 : decode m_AS_findRows.2.1 85 = .ok (.invokevirtual 155, 3) := by decide +kernel
theorem d_AS_findRows_88 : decode m_AS_findRows.2.1 88 = .ok (.aload_n 0, 1) := by decide +kernel
theorem d_AS_findRows_89 : decode m_AS_findRows.2.1 89 = .ok (.dup, 1) := by decide +kernel
theorem d_AS_findRows_90 : decode m_AS_findRows.2.1 90 = .ok (.getfield 134, 3) := by decide +kernel
theorem d_AS_findRows_93 : decode m_AS_findRows.2.1 93 = .ok (.iconst 1, 1) := by decide +kernel
theorem d_AS_findRows_94 : decode m_AS_findRows.2.1 94 = .ok (.iadd, 1) := by decide +kernel
theorem d_AS_findRows_95 : decode m_AS_findRows.2.1 95 = .ok (.putfield 134, 3) := by decide +kernel
theorem d_AS_findRows_98 : decode m_AS_findRows.2.1 98 = .ok (.iinc 2 1, 3) := by decide +kernel
theorem d_AS_findRows_101 : decode m_AS_findRows.2.1 101 = .ok (.goto (-82), 3) := by decide +kernel
theorem d_AS_findRows_104 : decode m_AS_findRows.2.1 104 = .ok (.return_, 1) := by decide +kernel
theorem d_AS_findPlain_0 : decode m_AS_findPlain.2.1 0 = .ok (.iconst 0, 1) := by decide +kernel
theorem d_AS_findPlain_1 : decode m_AS_findPlain.2.1 1 = .ok (.istore_n 2, 1) := by decide +kernel
theorem d_AS_findPlain_2 : decode m_AS_findPlain.2.1 2 = .ok (.iconst 0, 1) := by decide +kernel
theorem d_AS_findPlain_3 : decode m_AS_findPlain.2.1 3 = .ok (.istore_n 3, 1) := by decide +kernel
theorem d_AS_findPlain_4 : decode m_AS_findPlain.2.1 4 = .ok (.iload_n 3, 1) := by decide +kernel
theorem d_AS_findPlain_5 : decode m_AS_findPlain.2.1 5 = .ok (.aload_n 0, 1) := by decide +kernel
theorem d_AS_findPlain_6 : decode m_AS_findPlain.2.1 6 = .ok (.getfield 134, 3) := by decide +kernel
theorem d_AS_findPlain_9 : decode m_AS_findPlain.2.1 9 = .ok (.if_icmp .ge 83, 3) := by decide +kernel
theorem d_AS_findPlain_12 : decode m_AS_findPlain.2.1 12 = .ok (.iload_n 3, 1) := by decide +kernel
theorem d_AS_findPlain_13 : decode m_AS_findPlain.2.1 13 = .ok (.bipush 30, 2) := by decide +kernel
theorem d_AS_findPlain_15 : decode m_AS_findPlain.2.1 15 = .ok (.if_icmp .ge 77, 3) := by decide +kernel
theorem d_AS_findPlain_18 : decode m_AS_findPlain.2.1 18 = .ok (.iload_n 2, 1) := by decide +kernel
theorem d_AS_findPlain_19 : decode m_AS_findPlain.2.1 19 = .ok (.iload_n 3, 1) := by decide +kernel
theorem d_AS_findPlain_20 : decode m_AS_findPlain.2.1 20 = .ok (.if_icmp .ge 45, 3) := by decide +kernel
theorem d_AS_findPlain_23 : decode m_AS_findPlain.2.1 23 = .ok (.aload_n 0, 1) := by decide +kernel
theorem d_AS_findPlain_24 : decode m_AS_findPlain.2.1 24 = .ok (.getfield 22, 3) := by decide +kernel
theorem d_AS_findPlain_27 : decode m_AS_findPlain.2.1 27 = .ok (.iload_n 3, 1) := by decide +kernel
theorem d_AS_findPlain_28 : decode m_AS_findPlain.2.1 28 = .ok (.bipush 54, 2) := by decide +kernel
theorem d_AS_findPlain_30 : decode m_AS_findPlain.2.1 30 = .ok (.imul, 1) := by decide +kernel
theorem d_AS_findPlain_31 : decode m_AS_findPlain.2.1 31 = .ok (.aload_n 0, 1) := by decide +kernel
theorem d_AS_findPlain_32 : decode m_AS_findPlain.2.1 32 = .ok (.getfield 22, 3) := by decide +kernel
theorem d_AS_findPlain_35 : decode m_AS_findPlain.2.1 35 = .ok (.iload_n 2, 1) := by decide +kernel
theorem d_AS_findPlain_36 : decode m_AS_findPlain.2.1 36 = .ok (.bipush 54, 2) := by decide +kernel
theorem d_AS_findPlain_38 : decode m_AS_findPlain.2.1 38 = .ok (.imul, 1) := by decide +kernel
theorem d_AS_findPlain_39 : decode m_AS_findPlain.2.1 39 = .ok (.bipush 54, 2) := by decide +kernel
theorem d_AS_findPlain_41 : decode m_AS_findPlain.2.1 41 = .ok (.invokestatic 158, 3) := by decide +kernel
theorem d_AS_findPlain_44 : decode m_AS_findPlain.2.1 44 = .ok (.aload_n 0, 1) := by decide +kernel
theorem d_AS_findPlain_45 : decode m_AS_findPlain.2.1 45 = .ok (.getfield 26, 3) := by decide +kernel
theorem d_AS_findPlain_48 : decode m_AS_findPlain.2.1 48 = .ok (.iload_n 3, 1) := by decide +kernel
theorem d_AS_findPlain_49 : decode m_AS_findPlain.2.1 49 = .ok (.bipush 9, 2) := by decide +kernel
theorem d_AS_findPlain_51 : decode m_AS_findPlain.2.1 51 = .ok (.imul, 1) := by decide +kernel
theorem d_AS_findPlain_52 : decode m_AS_findPlain.2.1 52 = .ok (.aload_n 0, 1) := by decide +kernel
theorem d_AS_findPlain_53 : decode m_AS_findPlain.2.1 53 = .ok (.getfield 26, 3) := by decide +kernel
theorem d_AS_findPlain_56 : decode m_AS_findPlain.2.1 56 = .ok (.iload_n 2, 1) := by decide +kernel
theorem d_AS_findPlain_57 : decode m_AS_findPlain.2.1 57 = .ok (.bipush 9, 2) := by decide +kernel
theorem d_AS_findPlain_59 : decode m_AS_findPlain.2.1 59 = .ok (.imul, 1) := by decide +kernel
theorem d_AS_findPlain_60 : decode m_AS_findPlain.2.1 60 = .ok (.bipush 9, 2) := by decide +kernel
theorem d_AS_findPlain_62 : decode m_AS_findPlain.2.1 62 = .ok (.invokestatic 158, 3) := by decide +kernel
theorem d_AS_findPlain_65 : decode m_AS_findPlain.2.1 65 = .ok (.aload_n 0, 1) := by decide +kernel
theorem d_AS_findPlain_66 : decode m_AS_findPlain.2.1 66 = .ok (.iload_n 2, 1) := by decide +kernel
theorem d_AS_findPlain_67 : decode m_AS_findPlain.2.1 67 = .ok (.aload_n 1, 1) := by decide +kernel
theorem d_AS_findPlain_68 : decode m_AS_findPlain.2.1 68 = .ok (.invokevirtual 164, 3) := by decide +kernel
theorem d_AS_findPlain_71 : decode m_AS_findPlain.2.1 71 = .ok (.ifCond .eq 15, 3) := by decide +kernel
theorem d_AS_findPlain_74 : decode m_AS_findPlain.2.1 74 = .ok (.aload_n 0, 1) := by decide +kernel
theorem d_AS_findPlain_75 : decode m_AS_findPlain.2.1 75 = .ok (.iload_n 2, 1) := by decide +kernel
theorem d_AS_findPlain_76 : decode m_AS_findPlain.2.1 76 = .ok (.aload_n 1, 1) := by decide +kernel
theorem d_AS_findPlain_77 : decode m_AS_findPlain.2.1 77 = .ok (.invokevirtual 168, 3) := by decide +kernel
theorem d_AS_findPlain_80 : decode m_AS_findPlain.2.1 80 = .ok (.ifCond .eq 6, 3) := by decide +kernel
theorem d_AS_findPlain_83 : decode m_AS_findPlain.2.1 83 = .ok (.iinc 2 1, 3) := by decide +kernel
theorem d_AS_findPlain_86 : decode m_AS_findPlain.2.1 86 = .ok (.iinc 3 1, 3) := by decide +kernel
theorem d_AS_findPlain_89 : decode m_AS_findPlain.2.1 89 = .ok (.goto (-85), 3) := by decide +kernel
theorem d_AS_findPlain_92 : decode m_AS_findPlain.2.1 92 = .ok (.aload_n 0, 1) := by decide +kernel
theorem d_AS_findPlain_93 : decode m_AS_findPlain.2.1 93 = .ok (.iload_n 2, 1) := by decide +kernel
theorem d_AS_findPlain_94 : decode m_AS_findPlain.2.1 94 = .ok (.putfield 134, 3) := by decide +kernel
theorem d_AS_findPlain_97 : decode m_AS_findPlain.2.1 97 = .ok (.aload_n 0, 1) := by decide +kernel
theorem d_AS_findPlain_98 : decode m_AS_findPlain.2.1 98 = .ok (.aload_n 1, 1) := by decide +kernel
theorem d_AS_findPlain_99 : decode m_AS_findPlain.2.1 99 = .ok (.getfield 56, 3) := by decide +kernel
theorem d_AS_findPlain_102 : decode m_AS_findPlain.2.1 102 = .ok (.putfield 63, 3) := by decide +kernel
theorem d_AS_findPlain_105 : decode m_AS_findPlain.2.1 105 = .ok (.return_, 1) := by decide +kernel
theorem d_AS_joinTo_0 : decode m_AS_joinTo.2.1 0 = .ok (.aload_n 2, 1) := by decide +kernel
theorem d_AS_joinTo_1 : decode m_AS_joinTo.2.1 1 = .ok (.getfield 74, 3) := by decide +kernel
theorem d_AS_joinTo_4 : decode m_AS_joinTo.2.1 4 = .ok (.ifCond .ge 5, 3) := by decide +kernel
theorem d_AS_joinTo_7 : decode m_AS_joinTo.2.1 7 = .ok (.iconst 1, 1) := by decide +kernel
theorem d_AS_joinTo_8 : decode m_AS_joinTo.2.1 8 = .ok (.ireturn, 1) := by decide +kernel
theorem d_AS_joinTo_9 : decode m_AS_joinTo.2.1 9 = .ok (.aload_n 0, 1) := by decide +kernel
theorem d_AS_joinTo_10 : decode m_AS_joinTo.2.1 10 = .ok (.iload_n 1, 1) := by decide +kernel
theorem d_AS_joinTo_11 : decode m_AS_joinTo.2.1 11 = .ok (.aload_n 2, 1) := by decide +kernel
theorem d_AS_joinTo_12 : decode m_AS_joinTo.2.1 12 = .ok (.getfield 74, 3) := by decide +kernel
theorem d_AS_joinTo_15 : decode m_AS_joinTo.2.1 15 = .ok (.invokevirtual 171, 3) := by decide +kernel
theorem d_AS_joinTo_18 : decode m_AS_joinTo.2.1 18 = .ok (.istore_n 3, 1) := by decide +kernel
theorem d_AS_joinTo_19 : decode m_AS_joinTo.2.1 19 = .ok (.aload_n 0, 1) := by decide +kernel
theorem d_AS_joinTo_20 : decode m_AS_joinTo.2.1 20 = .ok (.getfield 41, 3) := by decide +kernel
theorem d_AS_joinTo_23 : decode m_AS_joinTo.2.1 23 = .ok (.getfield 137, 3) := by decide +kernel
theorem d_AS_joinTo_26 : decode m_AS_joinTo.2.1 26 = .ok (.aload_n 2, 1) := by decide +kernel
theorem d_AS_joinTo_27 : decode m_AS_joinTo.2.1 27 = .ok (.getfield 114, 3) := by decide +kernel
theorem d_AS_joinTo_30 : decode m_AS_joinTo.2.1 30 = .ok (.iload_n 3, 1) := by decide +kernel
theorem d_AS_joinTo_31 : decode m_AS_joinTo.2.1 31 = .ok (.invokevirtual 141, 3) := by decide +kernel
theorem d_AS_joinTo_34 : decode m_AS_joinTo.2.1 34 = .ok (.ifCond .ne 5, 3) := by decide +kernel
theorem d_AS_joinTo_37 : decode m_AS_joinTo.2.1 37 = .ok (.iconst 0, 1) := by decide +kernel
theorem d_AS_joinTo_38 : decode m_AS_joinTo.2.1 38 = .ok (.ireturn, 1) := by decide +kernel
theorem d_AS_joinTo_39 : decode m_AS_joinTo.2.1 39 = .ok (.aload_n 2, 1) := by decide +kernel
theorem d_AS_joinTo_40 : decode m_AS_joinTo.2.1 40 = .ok (.getfield 102, 3) := by decide +kernel
theorem d_AS_joinTo_43 : decode m_AS_joinTo.2.1 43 = .ok (.istore 4, 2) := by decide +kernel
theorem d_AS_joinTo_45 : decode m_AS_joinTo.2.1 45 = .ok (.iload 4, 2) := by decide +kernel
theorem d_AS_joinTo_47 : decode m_AS_joinTo.2.1 47 = .ok (.aload_n 2, 1) := by decide +kernel
theorem d_AS_joinTo_48 : decode m_AS_joinTo.2.1 48 = .ok (.getfield 56, 3) := by decide +kernel
theorem d_AS_joinTo_51 : decode m_AS_joinTo.2.1 51 = .ok (.if_icmp .ge 38, 3) := by decide +kernel
theorem d_AS_joinTo_54 : decode m_AS_joinTo.2.1 54 = .ok (.aload_n 0, 1) := by decide +kernel
theorem d_AS_joinTo_55 : decode m_AS_joinTo.2.1 55 = .ok (.iload_n 1, 1) := by decide +kernel
theorem d_AS_joinTo_56 : decode m_AS_joinTo.2.1 56 = .ok (.iload 4, 2) := by decide +kernel
theorem d_AS_joinTo_58 : decode m_AS_joinTo.2.1 58 = .ok (.aload_n 0, 1) := by decide +kernel
theorem d_AS_joinTo_59 : decode m_AS_joinTo.2.1 59 = .ok (.getfield 41, 3) := by decide +kernel
theorem d_AS_joinTo_62 : decode m_AS_joinTo.2.1 62 = .ok (.getfield 137, 3) := by decide +kernel
theorem d_AS_joinTo_65 : decode m_AS_joinTo.2.1 65 = .ok (.aload_n 2, 1) := by decide +kernel
theorem d_AS_joinTo_66 : decode m_AS_joinTo.2.1 66 = .ok (.getfield 114, 3) := by decide +kernel
theorem d_AS_joinTo_69 : decode m_AS_joinTo.2.1 69 = .ok (.iload_n 3, 1) := by decide +kernel
theorem d_AS_joinTo_70 : decode m_AS_joinTo.2.1 70 = .ok (.iload 4, 2) := by decide +kernel
theorem d_AS_joinTo_72 : decode m_AS_joinTo.2.1 72 = .ok (.aload_n 2, 1) := by decide +kernel
theorem d_AS_joinTo_73 : decode m_AS_joinTo.2.1 73 = .ok (.getfield 102, 3) := by decide +kernel
theorem d_AS_joinTo_76 : decode m_AS_joinTo.2.1 76 = .ok (.isub, 1) := by decide +kernel
theorem d_AS_joinTo_77 : decode m_AS_joinTo.2.1 77 = .ok (.invokevirtual 147, 3) := by decide +kernel
theorem d_AS_joinTo_80 : decode m_AS_joinTo.2.1 80 = .ok (.invokevirtual 151, 3) := by decide +kernel
theorem d_AS_joinTo_83 : decode m_AS_joinTo.2.1 83 = .ok (.iinc 4 1, 3) := by decide +kernel
theorem d_AS_joinTo_86 : decode m_AS_joinTo.2.1 86 = .ok (.goto (-41), 3) := by decide +kernel
theorem d_AS_joinTo_89 : decode m_AS_joinTo.2.1 89 = .ok (.aload_n 0, 1) := by decide +kernel
theorem d_AS_joinTo_90 : decode m_AS_joinTo.2.1 90 = .ok (.iload_n 1, 1) := by decide +kernel
theorem d_AS_joinTo_91 : decode m_AS_joinTo.2.1 91 = .ok (.aload_n 2, 1) := by decide +kernel
theorem d_AS_joinTo_92 : decode m_AS_joinTo.2.1 92 = .ok (.getfield 173, 3) := by decide +kernel
theorem d_AS_joinTo_95 : decode m_AS_joinTo.2.1 95 = .ok (.iconst 1, 1) := by decide +kernel
theorem d_AS_joinTo_96 : decode m_AS_joinTo.2.1 96 = .ok (.isub, 1) := by decide +kernel
theorem d_AS_joinTo_97 : decode m_AS_joinTo.2.1 97 = .ok (.iload_n 3, 1) := by decide +kernel
theorem d_AS_joinTo_98 : decode m_AS_joinTo.2.1 98 = .ok (.invokevirtual 155, 3) := by decide +kernel
theorem d_AS_joinTo_101 : decode m_AS_joinTo.2.1 101 = .ok (.iconst 1, 1) := by decide +kernel
theorem d_AS_joinTo_102 : decode m_AS_joinTo.2.1 102 = .ok (.ireturn, 1) := by decide +kernel
theorem d_AS_counts_0 : decode m_AS_counts.2.1 0 = .ok (.aload_n 2, 1) := by decide +kernel
theorem d_AS_counts_1 : decode m_AS_counts.2.1 1 = .ok (.getfield 176, 3) := by decide +kernel
theorem d_AS_counts_4 : decode m_AS_counts.2.1 4 = .ok (.ifCond .ne 5, 3) := by decide +kernel
theorem d_AS_counts_7 : decode m_AS_counts.2.1 7 = .ok (.iconst 1, 1) := by decide +kernel
theorem d_AS_counts_8 : decode m_AS_counts.2.1 8 = .ok (.ireturn, 1) := by decide +kernel
theorem d_AS_counts_9 : decode m_AS_counts.2.1 9 = .ok (.iconst 0, 1) := by decide +kernel
theorem d_AS_counts_10 : decode m_AS_counts.2.1 10 = .ok (.istore_n 3, 1) := by decide +kernel
theorem d_AS_counts_11 : decode m_AS_counts.2.1 11 = .ok (.iload_n 3, 1) := by decide +kernel
theorem d_AS_counts_12 : decode m_AS_counts.2.1 12 = .ok (.iconst 3, 1) := by decide +kernel
theorem d_AS_counts_13 : decode m_AS_counts.2.1 13 = .ok (.if_icmp .ge 21, 3) := by decide +kernel
theorem d_AS_counts_16 : decode m_AS_counts.2.1 16 = .ok (.aload_n 0, 1) := by decide +kernel
theorem d_AS_counts_17 : decode m_AS_counts.2.1 17 = .ok (.iload_n 1, 1) := by decide +kernel
theorem d_AS_counts_18 : decode m_AS_counts.2.1 18 = .ok (.aload_n 2, 1) := by decide +kernel
theorem d_AS_counts_19 : decode m_AS_counts.2.1 19 = .ok (.iload_n 3, 1) := by decide +kernel
theorem d_AS_counts_20 : decode m_AS_counts.2.1 20 = .ok (.invokevirtual 179, 3) := by decide +kernel
theorem d_AS_counts_23 : decode m_AS_counts.2.1 23 = .ok (.ifCond .eq 5, 3) := by decide +kernel
theorem d_AS_counts_26 : decode m_AS_counts.2.1 26 = .ok (.iconst 1, 1) := by decide +kernel
theorem d_AS_counts_27 : decode m_AS_counts.2.1 27 = .ok (.ireturn, 1) := by decide +kernel
theorem d_AS_counts_28 : decode m_AS_counts.2.1 28 = .ok (.iinc 3 1, 3) := by decide +kernel
theorem d_AS_counts_31 : decode m_AS_counts.2.1 31 = .ok (.goto (-20), 3) := by decide +kernel
theorem d_AS_counts_34 : decode m_AS_counts.2.1 34 = .ok (.iconst 0, 1) := by decide +kernel
theorem d_AS_counts_35 : decode m_AS_counts.2.1 35 = .ok (.ireturn, 1) := by decide +kernel
theorem d_AS_lineHolds_0 : decode m_AS_lineHolds.2.1 0 = .ok (.iconst 0, 1) := by decide +kernel
theorem d_AS_lineHolds_1 : decode m_AS_lineHolds.2.1 1 = .ok (.istore 4, 2) := by decide +kernel
theorem d_AS_lineHolds_3 : decode m_AS_lineHolds.2.1 3 = .ok (.iconst 0, 1) := by decide +kernel
theorem d_AS_lineHolds_4 : decode m_AS_lineHolds.2.1 4 = .ok (.istore 5, 2) := by decide +kernel
theorem d_AS_lineHolds_6 : decode m_AS_lineHolds.2.1 6 = .ok (.iload 5, 2) := by decide +kernel
theorem d_AS_lineHolds_8 : decode m_AS_lineHolds.2.1 8 = .ok (.aload_n 2, 1) := by decide +kernel
theorem d_AS_lineHolds_9 : decode m_AS_lineHolds.2.1 9 = .ok (.getfield 176, 3) := by decide +kernel
theorem d_AS_lineHolds_12 : decode m_AS_lineHolds.2.1 12 = .ok (.if_icmp .ge 64, 3) := by decide +kernel
theorem d_AS_lineHolds_15 : decode m_AS_lineHolds.2.1 15 = .ok (.iload 5, 2) := by decide +kernel
theorem d_AS_lineHolds_17 : decode m_AS_lineHolds.2.1 17 = .ok (.bipush 6, 2) := by decide +kernel
theorem d_AS_lineHolds_19 : decode m_AS_lineHolds.2.1 19 = .ok (.if_icmp .ge 57, 3) := by decide +kernel
theorem d_AS_lineHolds_22 : decode m_AS_lineHolds.2.1 22 = .ok (.aload_n 2, 1) := by decide +kernel
theorem d_AS_lineHolds_23 : decode m_AS_lineHolds.2.1 23 = .ok (.getfield 183, 3) := by decide +kernel
theorem d_AS_lineHolds_26 : decode m_AS_lineHolds.2.1 26 = .ok (.iload 5, 2) := by decide +kernel
theorem d_AS_lineHolds_28 : decode m_AS_lineHolds.2.1 28 = .ok (.iaload, 1) := by decide +kernel
theorem d_AS_lineHolds_29 : decode m_AS_lineHolds.2.1 29 = .ok (.iload_n 3, 1) := by decide +kernel
theorem d_AS_lineHolds_30 : decode m_AS_lineHolds.2.1 30 = .ok (.if_icmp .ne 40, 3) := by decide +kernel
theorem d_AS_lineHolds_33 : decode m_AS_lineHolds.2.1 33 = .ok (.iconst 1, 1) := by decide +kernel
theorem d_AS_lineHolds_34 : decode m_AS_lineHolds.2.1 34 = .ok (.istore 4, 2) := by decide +kernel
theorem d_AS_lineHolds_36 : decode m_AS_lineHolds.2.1 36 = .ok (.aload_n 2, 1) := by decide +kernel
theorem d_AS_lineHolds_37 : decode m_AS_lineHolds.2.1 37 = .ok (.getfield 186, 3) := by decide +kernel
theorem d_AS_lineHolds_40 : decode m_AS_lineHolds.2.1 40 = .ok (.iload 5, 2) := by decide +kernel
theorem d_AS_lineHolds_42 : decode m_AS_lineHolds.2.1 42 = .ok (.iaload, 1) := by decide +kernel
theorem d_AS_lineHolds_43 : decode m_AS_lineHolds.2.1 43 = .ok (.aload_n 0, 1) := by decide +kernel
theorem d_AS_lineHolds_44 : decode m_AS_lineHolds.2.1 44 = .ok (.iload_n 1, 1) := by decide +kernel
theorem d_AS_lineHolds_45 : decode m_AS_lineHolds.2.1 45 = .ok (.aload_n 2, 1) := by decide +kernel
theorem d_AS_lineHolds_46 : decode m_AS_lineHolds.2.1 46 = .ok (.getfield 189, 3) := by decide +kernel
theorem d_AS_lineHolds_49 : decode m_AS_lineHolds.2.1 49 = .ok (.iload 5, 2) := by decide +kernel
theorem d_AS_lineHolds_51 : decode m_AS_lineHolds.2.1 51 = .ok (.iaload, 1) := by decide +kernel
theorem d_AS_lineHolds_52 : decode m_AS_lineHolds.2.1 52 = .ok (.invokevirtual 171, 3) := by decide +kernel
theorem d_AS_lineHolds_55 : decode m_AS_lineHolds.2.1 55 = .ok (.aload_n 2, 1) := by decide +kernel
theorem d_AS_lineHolds_56 : decode m_AS_lineHolds.2.1 56 = .ok (.getfield 192, 3) := by decide +kernel
theorem d_AS_lineHolds_59 : decode m_AS_lineHolds.2.1 59 = .ok (.iload 5, 2) := by decide +kernel
theorem d_AS_lineHolds_61 : decode m_AS_lineHolds.2.1 61 = .ok (.iaload, 1) := by decide +kernel
theorem d_AS_lineHolds_62 : decode m_AS_lineHolds.2.1 62 = .ok (.invokestatic 195, 3) := by decide +kernel
theorem d_AS_lineHolds_65 : decode m_AS_lineHolds.2.1 65 = .ok (.ifCond .ne 5, 3) := by decide +kernel
theorem d_AS_lineHolds_68 : decode m_AS_lineHolds.2.1 68 = .ok (.iconst 0, 1) := by decide +kernel
theorem d_AS_lineHolds_69 : decode m_AS_lineHolds.2.1 69 = .ok (.ireturn, 1) := by decide +kernel
theorem d_AS_lineHolds_70 : decode m_AS_lineHolds.2.1 70 = .ok (.iinc 5 1, 3) := by decide +kernel
theorem d_AS_lineHolds_73 : decode m_AS_lineHolds.2.1 73 = .ok (.goto (-67), 3) := by decide +kernel
theorem d_AS_lineHolds_76 : decode m_AS_lineHolds.2.1 76 = .ok (.iload 4, 2) := by decide +kernel
theorem d_AS_lineHolds_78 : decode m_AS_lineHolds.2.1 78 = .ok (.ireturn, 1) := by decide +kernel
theorem d_AS_gather_0 : decode m_AS_gather.2.1 0 = .ok (.iconst 0, 1) := by decide +kernel
theorem d_AS_gather_1 : decode m_AS_gather.2.1 1 = .ok (.istore_n 3, 1) := by decide +kernel
theorem d_AS_gather_2 : decode m_AS_gather.2.1 2 = .ok (.iconst 0, 1) := by decide +kernel
theorem d_AS_gather_3 : decode m_AS_gather.2.1 3 = .ok (.istore 4, 2) := by decide +kernel
theorem d_AS_gather_5 : decode m_AS_gather.2.1 5 = .ok (.iload 4, 2) := by decide +kernel
theorem d_AS_gather_7 : decode m_AS_gather.2.1 7 = .ok (.aload_n 0, 1) := by decide +kernel
theorem d_AS_gather_8 : decode m_AS_gather.2.1 8 = .ok (.getfield 134, 3) := by decide +kernel
theorem d_AS_gather_11 : decode m_AS_gather.2.1 11 = .ok (.if_icmp .ge 84, 3) := by decide +kernel
theorem d_AS_gather_14 : decode m_AS_gather.2.1 14 = .ok (.iload_n 3, 1) := by decide +kernel
theorem d_AS_gather_15 : decode m_AS_gather.2.1 15 = .ok (.aload_n 2, 1) := by decide +kernel
theorem d_AS_gather_16 : decode m_AS_gather.2.1 16 = .ok (.arraylength, 1) := by decide +kernel
theorem d_AS_gather_17 : decode m_AS_gather.2.1 17 = .ok (.if_icmp .ge 78, 3) := by decide +kernel
theorem d_AS_gather_20 : decode m_AS_gather.2.1 20 = .ok (.aload_n 0, 1) := by decide +kernel
theorem d_AS_gather_21 : decode m_AS_gather.2.1 21 = .ok (.iload 4, 2) := by decide +kernel
theorem d_AS_gather_23 : decode m_AS_gather.2.1 23 = .ok (.iload_n 1, 1) := by decide +kernel
theorem d_AS_gather_24 : decode m_AS_gather.2.1 24 = .ok (.invokevirtual 171, 3) := by decide +kernel
theorem d_AS_gather_27 : decode m_AS_gather.2.1 27 = .ok (.istore 5, 2) := by decide +kernel
theorem d_AS_gather_29 : decode m_AS_gather.2.1 29 = .ok (.aload_n 0, 1) := by decide +kernel
theorem d_AS_gather_30 : decode m_AS_gather.2.1 30 = .ok (.aload_n 2, 1) := by decide +kernel
theorem d_AS_gather_31 : decode m_AS_gather.2.1 31 = .ok (.iload_n 3, 1) := by decide +kernel
theorem d_AS_gather_32 : decode m_AS_gather.2.1 32 = .ok (.iload 5, 2) := by decide +kernel
theorem d_AS_gather_34 : decode m_AS_gather.2.1 34 = .ok (.invokevirtual 199, 3) := by decide +kernel
theorem d_AS_gather_37 : decode m_AS_gather.2.1 37 = .ok (.istore 6, 2) := by decide +kernel
theorem d_AS_gather_39 : decode m_AS_gather.2.1 39 = .ok (.iload 6, 2) := by decide +kernel
theorem d_AS_gather_41 : decode m_AS_gather.2.1 41 = .ok (.iload_n 3, 1) := by decide +kernel
theorem d_AS_gather_42 : decode m_AS_gather.2.1 42 = .ok (.if_icmp .ne 14, 3) := by decide +kernel
theorem d_AS_gather_45 : decode m_AS_gather.2.1 45 = .ok (.aload_n 2, 1) := by decide +kernel
theorem d_AS_gather_46 : decode m_AS_gather.2.1 46 = .ok (.iload_n 3, 1) := by decide +kernel
theorem d_AS_gather_47 : decode m_AS_gather.2.1 47 = .ok (.iload 5, 2) := by decide +kernel
theorem d_AS_gather_49 : decode m_AS_gather.2.1 49 = .ok (.iastore, 1) := by decide +kernel
theorem d_AS_gather_50 : decode m_AS_gather.2.1 50 = .ok (.iinc 3 1, 3) := by decide +kernel
theorem d_AS_gather_53 : decode m_AS_gather.2.1 53 = .ok (.goto 36, 3) := by decide +kernel
theorem d_AS_gather_56 : decode m_AS_gather.2.1 56 = .ok (.aload_n 2, 1) := by decide +kernel
theorem d_AS_gather_57 : decode m_AS_gather.2.1 57 = .ok (.iload 6, 2) := by decide +kernel
theorem d_AS_gather_59 : decode m_AS_gather.2.1 59 = .ok (.iaload, 1) := by decide +kernel
theorem d_AS_gather_60 : decode m_AS_gather.2.1 60 = .ok (.iload 5, 2) := by decide +kernel
theorem d_AS_gather_62 : decode m_AS_gather.2.1 62 = .ok (.if_icmp .eq 27, 3) := by decide +kernel
theorem d_AS_gather_65 : decode m_AS_gather.2.1 65 = .ok (.aload_n 2, 1) := by decide +kernel
theorem d_AS_gather_66 : decode m_AS_gather.2.1 66 = .ok (.iload 6, 2) := by decide +kernel
theorem d_AS_gather_68 : decode m_AS_gather.2.1 68 = .ok (.aload_n 2, 1) := by decide +kernel
theorem d_AS_gather_69 : decode m_AS_gather.2.1 69 = .ok (.iload 6, 2) := by decide +kernel
theorem d_AS_gather_71 : decode m_AS_gather.2.1 71 = .ok (.iconst 1, 1) := by decide +kernel
theorem d_AS_gather_72 : decode m_AS_gather.2.1 72 = .ok (.iadd, 1) := by decide +kernel
theorem d_AS_gather_73 : decode m_AS_gather.2.1 73 = .ok (.iload_n 3, 1) := by decide +kernel
theorem d_AS_gather_74 : decode m_AS_gather.2.1 74 = .ok (.iload 6, 2) := by decide +kernel
theorem d_AS_gather_76 : decode m_AS_gather.2.1 76 = .ok (.isub, 1) := by decide +kernel
theorem d_AS_gather_77 : decode m_AS_gather.2.1 77 = .ok (.invokestatic 158, 3) := by decide +kernel
theorem d_AS_gather_80 : decode m_AS_gather.2.1 80 = .ok (.aload_n 2, 1) := by decide +kernel
theorem d_AS_gather_81 : decode m_AS_gather.2.1 81 = .ok (.iload 6, 2) := by decide +kernel
theorem d_AS_gather_83 : decode m_AS_gather.2.1 83 = .ok (.iload 5, 2) := by decide +kernel
theorem d_AS_gather_85 : decode m_AS_gather.2.1 85 = .ok (.iastore, 1) := by decide +kernel
theorem d_AS_gather_86 : decode m_AS_gather.2.1 86 = .ok (.iinc 3 1, 3) := by decide +kernel
theorem d_AS_gather_89 : decode m_AS_gather.2.1 89 = .ok (.iinc 4 1, 3) := by decide +kernel
theorem d_AS_gather_92 : decode m_AS_gather.2.1 92 = .ok (.goto (-87), 3) := by decide +kernel
theorem d_AS_gather_95 : decode m_AS_gather.2.1 95 = .ok (.iload_n 3, 1) := by decide +kernel
theorem d_AS_gather_96 : decode m_AS_gather.2.1 96 = .ok (.ireturn, 1) := by decide +kernel
theorem d_AS_placeIn_0 : decode m_AS_placeIn.2.1 0 = .ok (.iconst 0, 1) := by decide +kernel
theorem d_AS_placeIn_1 : decode m_AS_placeIn.2.1 1 = .ok (.istore 4, 2) := by decide +kernel
theorem d_AS_placeIn_3 : decode m_AS_placeIn.2.1 3 = .ok (.iload 4, 2) := by decide +kernel
theorem d_AS_placeIn_5 : decode m_AS_placeIn.2.1 5 = .ok (.iload_n 2, 1) := by decide +kernel
theorem d_AS_placeIn_6 : decode m_AS_placeIn.2.1 6 = .ok (.if_icmp .ge 24, 3) := by decide +kernel
theorem d_AS_placeIn_9 : decode m_AS_placeIn.2.1 9 = .ok (.iload 4, 2) := by decide +kernel
theorem d_AS_placeIn_11 : decode m_AS_placeIn.2.1 11 = .ok (.aload_n 1, 1) := by decide +kernel
theorem d_AS_placeIn_12 : decode m_AS_placeIn.2.1 12 = .ok (.arraylength, 1) := by decide +kernel
theorem d_AS_placeIn_13 : decode m_AS_placeIn.2.1 13 = .ok (.if_icmp .ge 17, 3) := by decide +kernel
theorem d_AS_placeIn_16 : decode m_AS_placeIn.2.1 16 = .ok (.aload_n 1, 1) := by decide +kernel
theorem d_AS_placeIn_17 : decode m_AS_placeIn.2.1 17 = .ok (.iload 4, 2) := by decide +kernel
theorem d_AS_placeIn_19 : decode m_AS_placeIn.2.1 19 = .ok (.iaload, 1) := by decide +kernel
theorem d_AS_placeIn_20 : decode m_AS_placeIn.2.1 20 = .ok (.iload_n 3, 1) := by decide +kernel
theorem d_AS_placeIn_21 : decode m_AS_placeIn.2.1 21 = .ok (.if_icmp .ge 9, 3) := by decide +kernel
theorem d_AS_placeIn_24 : decode m_AS_placeIn.2.1 24 = .ok (.iinc 4 1, 3) := by decide +kernel
theorem d_AS_placeIn_27 : decode m_AS_placeIn.2.1 27 = .ok (.goto (-24), 3) := by decide +kernel
theorem d_AS_placeIn_30 : decode m_AS_placeIn.2.1 30 = .ok (.iload 4, 2) := by decide +kernel
theorem d_AS_placeIn_32 : decode m_AS_placeIn.2.1 32 = .ok (.ireturn, 1) := by decide +kernel
theorem d_AS_findGroups_0 : decode m_AS_findGroups.2.1 0 = .ok (.aload_n 0, 1) := by decide +kernel
theorem d_AS_findGroups_1 : decode m_AS_findGroups.2.1 1 = .ok (.aload_n 1, 1) := by decide +kernel
theorem d_AS_findGroups_2 : decode m_AS_findGroups.2.1 2 = .ok (.getfield 80, 3) := by decide +kernel
theorem d_AS_findGroups_5 : decode m_AS_findGroups.2.1 5 = .ok (.aload_n 0, 1) := by decide +kernel
theorem d_AS_findGroups_6 : decode m_AS_findGroups.2.1 6 = .ok (.getfield 29, 3) := by decide +kernel
theorem d_AS_findGroups_9 : decode m_AS_findGroups.2.1 9 = .ok (.invokevirtual 203, 3) := by decide +kernel
theorem d_AS_findGroups_12 : decode m_AS_findGroups.2.1 12 = .ok (.istore_n 2, 1) := by decide +kernel
theorem d_AS_findGroups_13 : decode m_AS_findGroups.2.1 13 = .ok (.iconst 0, 1) := by decide +kernel
theorem d_AS_findGroups_14 : decode m_AS_findGroups.2.1 14 = .ok (.istore_n 3, 1) := by decide +kernel
theorem d_AS_findGroups_15 : decode m_AS_findGroups.2.1 15 = .ok (.iload_n 3, 1) := by decide +kernel
theorem d_AS_findGroups_16 : decode m_AS_findGroups.2.1 16 = .ok (.iload_n 2, 1) := by decide +kernel
theorem d_AS_findGroups_17 : decode m_AS_findGroups.2.1 17 = .ok (.if_icmp .ge 21, 3) := by decide +kernel
theorem d_AS_findGroups_20 : decode m_AS_findGroups.2.1 20 = .ok (.iload_n 3, 1) := by decide +kernel
theorem d_AS_findGroups_21 : decode m_AS_findGroups.2.1 21 = .ok (.bipush 30, 2) := by decide +kernel
theorem d_AS_findGroups_23 : decode m_AS_findGroups.2.1 23 = .ok (.if_icmp .ge 15, 3) := by decide +kernel
theorem d_AS_findGroups_26 : decode m_AS_findGroups.2.1 26 = .ok (.aload_n 0, 1) := by decide +kernel
theorem d_AS_findGroups_27 : decode m_AS_findGroups.2.1 27 = .ok (.aload_n 1, 1) := by decide +kernel
theorem d_AS_findGroups_28 : decode m_AS_findGroups.2.1 28 = .ok (.iload_n 3, 1) := by decide +kernel
theorem d_AS_findGroups_29 : decode m_AS_findGroups.2.1 29 = .ok (.invokevirtual 207, 3) := by decide +kernel
theorem d_AS_findGroups_32 : decode m_AS_findGroups.2.1 32 = .ok (.iinc 3 1, 3) := by decide +kernel
theorem d_AS_findGroups_35 : decode m_AS_findGroups.2.1 35 = .ok (.goto (-20), 3) := by decide +kernel
theorem d_AS_findGroups_38 : decode m_AS_findGroups.2.1 38 = .ok (.aload_n 0, 1) := by decide +kernel
theorem d_AS_findGroups_39 : decode m_AS_findGroups.2.1 39 = .ok (.iload_n 2, 1) := by decide +kernel
theorem d_AS_findGroups_40 : decode m_AS_findGroups.2.1 40 = .ok (.iconst 5, 1) := by decide +kernel
theorem d_AS_findGroups_41 : decode m_AS_findGroups.2.1 41 = .ok (.invokevirtual 211, 3) := by decide +kernel
theorem d_AS_findGroups_44 : decode m_AS_findGroups.2.1 44 = .ok (.return_, 1) := by decide +kernel
theorem d_AS_findGroup_0 : decode m_AS_findGroup.2.1 0 = .ok (.iconst 0, 1) := by decide +kernel
theorem d_AS_findGroup_1 : decode m_AS_findGroup.2.1 1 = .ok (.istore_n 3, 1) := by decide +kernel
theorem d_AS_findGroup_2 : decode m_AS_findGroup.2.1 2 = .ok (.iconst 0, 1) := by decide +kernel
theorem d_AS_findGroup_3 : decode m_AS_findGroup.2.1 3 = .ok (.istore 4, 2) := by decide +kernel
theorem d_AS_findGroup_5 : decode m_AS_findGroup.2.1 5 = .ok (.ldc 117, 2) := by decide +kernel
theorem d_AS_findGroup_7 : decode m_AS_findGroup.2.1 7 = .ok (.istore 5, 2) := by decide +kernel
theorem d_AS_findGroup_9 : decode m_AS_findGroup.2.1 9 = .ok (.ldc 117, 2) := by decide +kernel
theorem d_AS_findGroup_11 : decode m_AS_findGroup.2.1 11 = .ok (.istore 6, 2) := by decide +kernel
theorem d_AS_findGroup_13 : decode m_AS_findGroup.2.1 13 = .ok (.iconst 0, 1) := by decide +kernel
theorem d_AS_findGroup_14 : decode m_AS_findGroup.2.1 14 = .ok (.istore 7, 2) := by decide +kernel
theorem d_AS_findGroup_16 : decode m_AS_findGroup.2.1 16 = .ok (.iload 7, 2) := by decide +kernel
theorem d_AS_findGroup_18 : decode m_AS_findGroup.2.1 18 = .ok (.aload_n 0, 1) := by decide +kernel
theorem d_AS_findGroup_19 : decode m_AS_findGroup.2.1 19 = .ok (.getfield 134, 3) := by decide +kernel
theorem d_AS_findGroup_22 : decode m_AS_findGroup.2.1 22 = .ok (.if_icmp .ge 92, 3) := by decide +kernel
theorem d_AS_findGroup_25 : decode m_AS_findGroup.2.1 25 = .ok (.aload_n 0, 1) := by decide +kernel
theorem d_AS_findGroup_26 : decode m_AS_findGroup.2.1 26 = .ok (.iload 7, 2) := by decide +kernel
theorem d_AS_findGroup_28 : decode m_AS_findGroup.2.1 28 = .ok (.aload_n 1, 1) := by decide +kernel
theorem d_AS_findGroup_29 : decode m_AS_findGroup.2.1 29 = .ok (.getfield 80, 3) := by decide +kernel
theorem d_AS_findGroup_32 : decode m_AS_findGroup.2.1 32 = .ok (.invokevirtual 171, 3) := by decide +kernel
theorem d_AS_findGroup_35 : decode m_AS_findGroup.2.1 35 = .ok (.aload_n 0, 1) := by decide +kernel
theorem d_AS_findGroup_36 : decode m_AS_findGroup.2.1 36 = .ok (.getfield 29, 3) := by decide +kernel
theorem d_AS_findGroup_39 : decode m_AS_findGroup.2.1 39 = .ok (.iload_n 2, 1) := by decide +kernel
theorem d_AS_findGroup_40 : decode m_AS_findGroup.2.1 40 = .ok (.iaload, 1) := by decide +kernel
theorem d_AS_findGroup_41 : decode m_AS_findGroup.2.1 41 = .ok (.if_icmp .ne 67, 3) := by decide +kernel
theorem d_AS_findGroup_44 : decode m_AS_findGroup.2.1 44 = .ok (.iinc 3 1, 3) := by decide +kernel
theorem d_AS_findGroup_47 : decode m_AS_findGroup.2.1 47 = .ok (.aload_n 0, 1) := by decide +kernel
theorem d_AS_findGroup_48 : decode m_AS_findGroup.2.1 48 = .ok (.iload 7, 2) := by decide +kernel
theorem d_AS_findGroup_50 : decode m_AS_findGroup.2.1 50 = .ok (.aload_n 1, 1) := by decide +kernel
theorem d_AS_findGroup_51 : decode m_AS_findGroup.2.1 51 = .ok (.getfield 86, 3) := by decide +kernel
theorem d_AS_findGroup_54 : decode m_AS_findGroup.2.1 54 = .ok (.invokevirtual 171, 3) := by decide +kernel
theorem d_AS_findGroup_57 : decode m_AS_findGroup.2.1 57 = .ok (.istore 8, 2) := by decide +kernel
theorem d_AS_findGroup_59 : decode m_AS_findGroup.2.1 59 = .ok (.iload 4, 2) := by decide +kernel
theorem d_AS_findGroup_61 : decode m_AS_findGroup.2.1 61 = .ok (.iload 8, 2) := by decide +kernel
theorem d_AS_findGroup_63 : decode m_AS_findGroup.2.1 63 = .ok (.invokestatic 214, 3) := by decide +kernel
theorem d_AS_findGroup_66 : decode m_AS_findGroup.2.1 66 = .ok (.iadd, 1) := by decide +kernel
theorem d_AS_findGroup_67 : decode m_AS_findGroup.2.1 67 = .ok (.istore 4, 2) := by decide +kernel
theorem d_AS_findGroup_69 : decode m_AS_findGroup.2.1 69 = .ok (.iload 5, 2) := by decide +kernel
theorem d_AS_findGroup_71 : decode m_AS_findGroup.2.1 71 = .ok (.ldc 117, 2) := by decide +kernel
theorem d_AS_findGroup_73 : decode m_AS_findGroup.2.1 73 = .ok (.if_icmp .eq 17, 3) := by decide +kernel
theorem d_AS_findGroup_76 : decode m_AS_findGroup.2.1 76 = .ok (.iload 8, 2) := by decide +kernel
theorem d_AS_findGroup_78 : decode m_AS_findGroup.2.1 78 = .ok (.ldc 117, 2) := by decide +kernel
theorem d_AS_findGroup_80 : decode m_AS_findGroup.2.1 80 = .ok (.if_icmp .eq 15, 3) := by decide +kernel
theorem d_AS_findGroup_83 : decode m_AS_findGroup.2.1 83 = .ok (.iload 8, 2) := by decide +kernel
theorem d_AS_findGroup_85 : decode m_AS_findGroup.2.1 85 = .ok (.iload 5, 2) := by decide +kernel
theorem d_AS_findGroup_87 : decode m_AS_findGroup.2.1 87 = .ok (.if_icmp .ge 8, 3) := by decide +kernel
theorem d_AS_findGroup_90 : decode m_AS_findGroup.2.1 90 = .ok (.iload 8, 2) := by decide +kernel
theorem d_AS_findGroup_92 : decode m_AS_findGroup.2.1 92 = .ok (.goto 5, 3) := by decide +kernel
theorem d_AS_findGroup_95 : decode m_AS_findGroup.2.1 95 = .ok (.iload 5, 2) := by decide +kernel
theorem d_AS_findGroup_97 : decode m_AS_findGroup.2.1 97 = .ok (.istore 5, 2) := by decide +kernel
theorem d_AS_findGroup_99 : decode m_AS_findGroup.2.1 99 = .ok (.iload 6, 2) := by decide +kernel
theorem d_AS_findGroup_101 : decode m_AS_findGroup.2.1 101 = .ok (.iload 8, 2) := by decide +kernel
theorem d_AS_findGroup_103 : decode m_AS_findGroup.2.1 103 = .ok (.invokestatic 217, 3) := by decide +kernel
theorem d_AS_findGroup_106 : decode m_AS_findGroup.2.1 106 = .ok (.istore 6, 2) := by decide +kernel
theorem d_AS_findGroup_108 : decode m_AS_findGroup.2.1 108 = .ok (.iinc 7 1, 3) := by decide +kernel
theorem d_AS_findGroup_111 : decode m_AS_findGroup.2.1 111 = .ok (.goto (-95), 3) := by decide +kernel
theorem d_AS_findGroup_114 : decode m_AS_findGroup.2.1 114 = .ok (.iload_n 2, 1) := by decide +kernel
theorem d_AS_findGroup_115 : decode m_AS_findGroup.2.1 115 = .ok (.bipush 31, 2) := by decide +kernel
theorem d_AS_findGroup_117 : decode m_AS_findGroup.2.1 117 = .ok (.imul, 1) := by decide +kernel
theorem d_AS_findGroup_118 : decode m_AS_findGroup.2.1 118 = .ok (.istore 7, 2) := by decide +kernel
theorem d_AS_findGroup_120 : decode m_AS_findGroup.2.1 120 = .ok (.aload_n 0, 1) := by decide +kernel
theorem d_AS_findGroup_121 : decode m_AS_findGroup.2.1 121 = .ok (.getfield 35, 3) := by decide +kernel
theorem d_AS_findGroup_124 : decode m_AS_findGroup.2.1 124 = .ok (.iload 7, 2) := by decide +kernel
theorem d_AS_findGroup_126 : decode m_AS_findGroup.2.1 126 = .ok (.aload_n 0, 1) := by decide +kernel
theorem d_AS_findGroup_127 : decode m_AS_findGroup.2.1 127 = .ok (.getfield 29, 3) := by decide +kernel
theorem d_AS_findGroup_130 : decode m_AS_findGroup.2.1 130 = .ok (.iload_n 2, 1) := by decide +kernel
theorem d_AS_findGroup_131 : decode m_AS_findGroup.2.1 131 = .ok (.iaload, 1) := by decide +kernel
theorem d_AS_findGroup_132 : decode m_AS_findGroup.2.1 132 = .ok (.iastore, 1) := by decide +kernel
theorem d_AS_findGroup_133 : decode m_AS_findGroup.2.1 133 = .ok (.aload_n 0, 1) := by decide +kernel
theorem d_AS_findGroup_134 : decode m_AS_findGroup.2.1 134 = .ok (.getfield 35, 3) := by decide +kernel
theorem d_AS_findGroup_137 : decode m_AS_findGroup.2.1 137 = .ok (.iload 7, 2) := by decide +kernel
theorem d_AS_findGroup_139 : decode m_AS_findGroup.2.1 139 = .ok (.iconst 1, 1) := by decide +kernel
theorem d_AS_findGroup_140 : decode m_AS_findGroup.2.1 140 = .ok (.iadd, 1) := by decide +kernel
theorem d_AS_findGroup_141 : decode m_AS_findGroup.2.1 141 = .ok (.iload_n 3, 1) := by decide +kernel
theorem d_AS_findGroup_142 : decode m_AS_findGroup.2.1 142 = .ok (.iastore, 1) := by decide +kernel
theorem d_AS_findGroup_143 : decode m_AS_findGroup.2.1 143 = .ok (.aload_n 0, 1) := by decide +kernel
theorem d_AS_findGroup_144 : decode m_AS_findGroup.2.1 144 = .ok (.getfield 35, 3) := by decide +kernel
theorem d_AS_findGroup_147 : decode m_AS_findGroup.2.1 147 = .ok (.iload 7, 2) := by decide +kernel
theorem d_AS_findGroup_149 : decode m_AS_findGroup.2.1 149 = .ok (.iconst 2, 1) := by decide +kernel
theorem d_AS_findGroup_150 : decode m_AS_findGroup.2.1 150 = .ok (.iadd, 1) := by decide +kernel
theorem d_AS_findGroup_151 : decode m_AS_findGroup.2.1 151 = .ok (.iload 4, 2) := by decide +kernel
theorem d_AS_findGroup_153 : decode m_AS_findGroup.2.1 153 = .ok (.i2l, 1) := by decide +kernel
theorem d_AS_findGroup_154 : decode m_AS_findGroup.2.1 154 = .ok (.invokestatic 222, 3) := by decide +kernel
theorem d_AS_findGroup_157 : decode m_AS_findGroup.2.1 157 = .ok (.iastore, 1) := by decide +kernel
theorem d_AS_findGroup_158 : decode m_AS_findGroup.2.1 158 = .ok (.aload_n 0, 1) := by decide +kernel
theorem d_AS_findGroup_159 : decode m_AS_findGroup.2.1 159 = .ok (.getfield 35, 3) := by decide +kernel
theorem d_AS_findGroup_162 : decode m_AS_findGroup.2.1 162 = .ok (.iload 7, 2) := by decide +kernel
theorem d_AS_findGroup_164 : decode m_AS_findGroup.2.1 164 = .ok (.iconst 3, 1) := by decide +kernel
theorem d_AS_findGroup_165 : decode m_AS_findGroup.2.1 165 = .ok (.iadd, 1) := by decide +kernel
theorem d_AS_findGroup_166 : decode m_AS_findGroup.2.1 166 = .ok (.iload 5, 2) := by decide +kernel
theorem d_AS_findGroup_168 : decode m_AS_findGroup.2.1 168 = .ok (.iastore, 1) := by decide +kernel
theorem d_AS_findGroup_169 : decode m_AS_findGroup.2.1 169 = .ok (.aload_n 0, 1) := by decide +kernel
theorem d_AS_findGroup_170 : decode m_AS_findGroup.2.1 170 = .ok (.getfield 35, 3) := by decide +kernel
theorem d_AS_findGroup_173 : decode m_AS_findGroup.2.1 173 = .ok (.iload 7, 2) := by decide +kernel
theorem d_AS_findGroup_175 : decode m_AS_findGroup.2.1 175 = .ok (.iconst 4, 1) := by decide +kernel
theorem d_AS_findGroup_176 : decode m_AS_findGroup.2.1 176 = .ok (.iadd, 1) := by decide +kernel
theorem d_AS_findGroup_177 : decode m_AS_findGroup.2.1 177 = .ok (.iload 6, 2) := by decide +kernel
theorem d_AS_findGroup_179 : decode m_AS_findGroup.2.1 179 = .ok (.iastore, 1) := by decide +kernel
theorem d_AS_findGroup_180 : decode m_AS_findGroup.2.1 180 = .ok (.return_, 1) := by decide +kernel
theorem d_AS_findCross_0 : decode m_AS_findCross.2.1 0 = .ok (.aload_n 0, 1) := by decide +kernel
theorem d_AS_findCross_1 : decode m_AS_findCross.2.1 1 = .ok (.aload_n 1, 1) := by decide +kernel
theorem d_AS_findCross_2 : decode m_AS_findCross.2.1 2 = .ok (.getfield 80, 3) := by decide +kernel
theorem d_AS_findCross_5 : decode m_AS_findCross.2.1 5 = .ok (.aload_n 0, 1) := by decide +kernel
theorem d_AS_findCross_6 : decode m_AS_findCross.2.1 6 = .ok (.getfield 29, 3) := by decide +kernel
theorem d_AS_findCross_9 : decode m_AS_findCross.2.1 9 = .ok (.invokevirtual 203, 3) := by decide +kernel
theorem d_AS_findCross_12 : decode m_AS_findCross.2.1 12 = .ok (.istore_n 2, 1) := by decide +kernel
theorem d_AS_findCross_13 : decode m_AS_findCross.2.1 13 = .ok (.aload_n 0, 1) := by decide +kernel
theorem d_AS_findCross_14 : decode m_AS_findCross.2.1 14 = .ok (.aload_n 1, 1) := by decide +kernel
theorem d_AS_findCross_15 : decode m_AS_findCross.2.1 15 = .ok (.getfield 83, 3) := by decide +kernel
theorem d_AS_findCross_18 : decode m_AS_findCross.2.1 18 = .ok (.aload_n 0, 1) := by decide +kernel
theorem d_AS_findCross_19 : decode m_AS_findCross.2.1 19 = .ok (.getfield 32, 3) := by decide +kernel
theorem d_AS_findCross_22 : decode m_AS_findCross.2.1 22 = .ok (.invokevirtual 203, 3) := by decide +kernel
theorem d_AS_findCross_25 : decode m_AS_findCross.2.1 25 = .ok (.istore_n 3, 1) := by decide +kernel
theorem d_AS_findCross_26 : decode m_AS_findCross.2.1 26 = .ok (.aload_n 0, 1) := by decide +kernel
theorem d_AS_findCross_27 : decode m_AS_findCross.2.1 27 = .ok (.getfield 35, 3) := by decide +kernel
theorem d_AS_findCross_30 : decode m_AS_findCross.2.1 30 = .ok (.ldc 226, 2) := by decide +kernel
theorem d_AS_findCross_32 : decode m_AS_findCross.2.1 32 = .ok (.invokestatic 227, 3) := by decide +kernel
theorem d_AS_findCross_35 : decode m_AS_findCross.2.1 35 = .ok (.iconst 0, 1) := by decide +kernel
theorem d_AS_findCross_36 : decode m_AS_findCross.2.1 36 = .ok (.istore 4, 2) := by decide +kernel
theorem d_AS_findCross_38 : decode m_AS_findCross.2.1 38 = .ok (.iload 4, 2) := by decide +kernel
theorem d_AS_findCross_40 : decode m_AS_findCross.2.1 40 = .ok (.aload_n 0, 1) := by decide +kernel
theorem d_AS_findCross_41 : decode m_AS_findCross.2.1 41 = .ok (.getfield 134, 3) := by decide +kernel
theorem d_AS_findCross_44 : decode m_AS_findCross.2.1 44 = .ok (.if_icmp .ge 113, 3) := by decide +kernel
theorem d_AS_findCross_47 : decode m_AS_findCross.2.1 47 = .ok (.aload_n 0, 1) := by decide +kernel
theorem d_AS_findCross_48 : decode m_AS_findCross.2.1 48 = .ok (.aload_n 0, 1) := by decide +kernel
theorem d_AS_findCross_49 : decode m_AS_findCross.2.1 49 = .ok (.getfield 29, 3) := by decide +kernel
theorem d_AS_findCross_52 : decode m_AS_findCross.2.1 52 = .ok (.iload_n 2, 1) := by decide +kernel
theorem d_AS_findCross_53 : decode m_AS_findCross.2.1 53 = .ok (.aload_n 0, 1) := by decide +kernel
theorem d_AS_findCross_54 : decode m_AS_findCross.2.1 54 = .ok (.iload 4, 2) := by decide +kernel
theorem d_AS_findCross_56 : decode m_AS_findCross.2.1 56 = .ok (.aload_n 1, 1) := by decide +kernel
theorem d_AS_findCross_57 : decode m_AS_findCross.2.1 57 = .ok (.getfield 80, 3) := by decide +kernel
theorem d_AS_findCross_60 : decode m_AS_findCross.2.1 60 = .ok (.invokevirtual 171, 3) := by decide +kernel
theorem d_AS_findCross_63 : decode m_AS_findCross.2.1 63 = .ok (.invokevirtual 199, 3) := by decide +kernel
theorem d_AS_findCross_66 : decode m_AS_findCross.2.1 66 = .ok (.bipush 31, 2) := by decide +kernel
theorem d_AS_findCross_68 : decode m_AS_findCross.2.1 68 = .ok (.imul, 1) := by decide +kernel
theorem d_AS_findCross_69 : decode m_AS_findCross.2.1 69 = .ok (.iconst 1, 1) := by decide +kernel
theorem d_AS_findCross_70 : decode m_AS_findCross.2.1 70 = .ok (.iadd, 1) := by decide +kernel
theorem d_AS_findCross_71 : decode m_AS_findCross.2.1 71 = .ok (.aload_n 0, 1) := by decide +kernel
theorem d_AS_findCross_72 : decode m_AS_findCross.2.1 72 = .ok (.aload_n 0, 1) := by decide +kernel
theorem d_AS_findCross_73 : decode m_AS_findCross.2.1 73 = .ok (.getfield 32, 3) := by decide +kernel
theorem d_AS_findCross_76 : decode m_AS_findCross.2.1 76 = .ok (.iload_n 3, 1) := by decide +kernel
theorem d_AS_findCross_77 : decode m_AS_findCross.2.1 77 = .ok (.aload_n 0, 1) := by decide +kernel
theorem d_AS_findCross_78 : decode m_AS_findCross.2.1 78 = .ok (.iload 4, 2) := by decide +kernel
theorem d_AS_findCross_80 : decode m_AS_findCross.2.1 80 = .ok (.aload_n 1, 1) := by decide +kernel
theorem d_AS_findCross_81 : decode m_AS_findCross.2.1 81 = .ok (.getfield 83, 3) := by decide +kernel
theorem d_AS_findCross_84 : decode m_AS_findCross.2.1 84 = .ok (.invokevirtual 171, 3) := by decide +kernel
theorem d_AS_findCross_87 : decode m_AS_findCross.2.1 87 = .ok (.invokevirtual 199, 3) := by decide +kernel
theorem d_AS_findCross_90 : decode m_AS_findCross.2.1 90 = .ok (.iadd, 1) := by decide +kernel
theorem d_AS_findCross_91 : decode m_AS_findCross.2.1 91 = .ok (.istore 5, 2) := by decide +kernel
theorem d_AS_findCross_93 : decode m_AS_findCross.2.1 93 = .ok (.iload 5, 2) := by decide +kernel
theorem d_AS_findCross_95 : decode m_AS_findCross.2.1 95 = .ok (.aload_n 0, 1) := by decide +kernel
theorem d_AS_findCross_96 : decode m_AS_findCross.2.1 96 = .ok (.getfield 35, 3) := by decide +kernel
theorem d_AS_findCross_99 : decode m_AS_findCross.2.1 99 = .ok (.arraylength, 1) := by decide +kernel
theorem d_AS_findCross_100 : decode m_AS_findCross.2.1 100 = .ok (.if_icmp .ge 51, 3) := by decide +kernel
theorem d_AS_findCross_103 : decode m_AS_findCross.2.1 103 = .ok (.aload_n 0, 1) := by decide +kernel
theorem d_AS_findCross_104 : decode m_AS_findCross.2.1 104 = .ok (.getfield 35, 3) := by decide +kernel
theorem d_AS_findCross_107 : decode m_AS_findCross.2.1 107 = .ok (.iload 5, 2) := by decide +kernel
theorem d_AS_findCross_109 : decode m_AS_findCross.2.1 109 = .ok (.iaload, 1) := by decide +kernel
theorem d_AS_findCross_110 : decode m_AS_findCross.2.1 110 = .ok (.ldc 226, 2) := by decide +kernel
theorem d_AS_findCross_112 : decode m_AS_findCross.2.1 112 = .ok (.if_icmp .ne 7, 3) := by decide +kernel
theorem d_AS_findCross_115 : decode m_AS_findCross.2.1 115 = .ok (.iconst 0, 1) := by decide +kernel
theorem d_AS_findCross_116 : decode m_AS_findCross.2.1 116 = .ok (.goto 10, 3) := by decide +kernel
theorem d_AS_findCross_119 : decode m_AS_findCross.2.1 119 = .ok (.aload_n 0, 1) := by decide +kernel
theorem d_AS_findCross_120 : decode m_AS_findCross.2.1 120 = .ok (.getfield 35, 3) := by decide +kernel
theorem d_AS_findCross_123 : decode m_AS_findCross.2.1 123 = .ok (.iload 5, 2) := by decide +kernel
theorem d_AS_findCross_125 : decode m_AS_findCross.2.1 125 = .ok (.iaload, 1) := by decide +kernel
theorem d_AS_findCross_126 : decode m_AS_findCross.2.1 126 = .ok (.istore 6, 2) := by decide +kernel
theorem d_AS_findCross_128 : decode m_AS_findCross.2.1 128 = .ok (.aload_n 0, 1) := by decide +kernel
theorem d_AS_findCross_129 : decode m_AS_findCross.2.1 129 = .ok (.getfield 35, 3) := by decide +kernel
theorem d_AS_findCross_132 : decode m_AS_findCross.2.1 132 = .ok (.iload 5, 2) := by decide +kernel
theorem d_AS_findCross_134 : decode m_AS_findCross.2.1 134 = .ok (.iload 6, 2) := by decide +kernel
theorem d_AS_findCross_136 : decode m_AS_findCross.2.1 136 = .ok (.aload_n 0, 1) := by decide +kernel
theorem d_AS_findCross_137 : decode m_AS_findCross.2.1 137 = .ok (.iload 4, 2) := by decide +kernel
theorem d_AS_findCross_139 : decode m_AS_findCross.2.1 139 = .ok (.aload_n 1, 1) := by decide +kernel
theorem d_AS_findCross_140 : decode m_AS_findCross.2.1 140 = .ok (.getfield 86, 3) := by decide +kernel
theorem d_AS_findCross_143 : decode m_AS_findCross.2.1 143 = .ok (.invokevirtual 171, 3) := by decide +kernel
theorem d_AS_findCross_146 : decode m_AS_findCross.2.1 146 = .ok (.invokestatic 214, 3) := by decide +kernel
theorem d_AS_findCross_149 : decode m_AS_findCross.2.1 149 = .ok (.iadd, 1) := by decide +kernel
theorem d_AS_findCross_150 : decode m_AS_findCross.2.1 150 = .ok (.iastore, 1) := by decide +kernel
theorem d_AS_findCross_151 : decode m_AS_findCross.2.1 151 = .ok (.iinc 4 1, 3) := by decide +kernel
theorem d_AS_findCross_154 : decode m_AS_findCross.2.1 154 = .ok (.goto (-116), 3) := by decide +kernel
theorem d_AS_findCross_157 : decode m_AS_findCross.2.1 157 = .ok (.iconst 0, 1) := by decide +kernel
theorem d_AS_findCross_158 : decode m_AS_findCross.2.1 158 = .ok (.istore 4, 2) := by decide +kernel
theorem d_AS_findCross_160 : decode m_AS_findCross.2.1 160 = .ok (.iload 4, 2) := by decide +kernel
theorem d_AS_findCross_162 : decode m_AS_findCross.2.1 162 = .ok (.aload_n 0, 1) := by decide +kernel
theorem d_AS_findCross_163 : decode m_AS_findCross.2.1 163 = .ok (.getfield 35, 3) := by decide +kernel
theorem d_AS_findCross_166 : decode m_AS_findCross.2.1 166 = .ok (.arraylength, 1) := by decide +kernel
theorem d_AS_findCross_167 : decode m_AS_findCross.2.1 167 = .ok (.if_icmp .ge 48, 3) := by decide +kernel
theorem d_AS_findCross_170 : decode m_AS_findCross.2.1 170 = .ok (.aload_n 0, 1) := by decide +kernel
theorem d_AS_findCross_171 : decode m_AS_findCross.2.1 171 = .ok (.getfield 35, 3) := by decide +kernel
theorem d_AS_findCross_174 : decode m_AS_findCross.2.1 174 = .ok (.iload 4, 2) := by decide +kernel
theorem d_AS_findCross_176 : decode m_AS_findCross.2.1 176 = .ok (.iload 4, 2) := by decide +kernel
theorem d_AS_findCross_178 : decode m_AS_findCross.2.1 178 = .ok (.bipush 31, 2) := by decide +kernel
theorem d_AS_findCross_180 : decode m_AS_findCross.2.1 180 = .ok (.irem, 1) := by decide +kernel
theorem d_AS_findCross_181 : decode m_AS_findCross.2.1 181 = .ok (.ifCond .ne 16, 3) := by decide +kernel
theorem d_AS_findCross_184 : decode m_AS_findCross.2.1 184 = .ok (.aload_n 0, 1) := by decide +kernel
theorem d_AS_findCross_185 : decode m_AS_findCross.2.1 185 = .ok (.getfield 29, 3) := by decide +kernel
theorem d_AS_findCross_188 : decode m_AS_findCross.2.1 188 = .ok (.iload 4, 2) := by decide +kernel
theorem d_AS_findCross_190 : decode m_AS_findCross.2.1 190 = .ok (.bipush 31, 2) := by decide +kernel
theorem d_AS_findCross_192 : decode m_AS_findCross.2.1 192 = .ok (.idiv, 1) := by decide +kernel
theorem d_AS_findCross_193 : decode m_AS_findCross.2.1 193 = .ok (.iaload, 1) := by decide +kernel
theorem d_AS_findCross_194 : decode m_AS_findCross.2.1 194 = .ok (.goto 14, 3) := by decide +kernel
theorem d_AS_findCross_197 : decode m_AS_findCross.2.1 197 = .ok (.aload_n 0, 1) := by decide +kernel
theorem d_AS_findCross_198 : decode m_AS_findCross.2.1 198 = .ok (.getfield 35, 3) := by decide +kernel
theorem d_AS_findCross_201 : decode m_AS_findCross.2.1 201 = .ok (.iload 4, 2) := by decide +kernel
theorem d_AS_findCross_203 : decode m_AS_findCross.2.1 203 = .ok (.iaload, 1) := by decide +kernel
theorem d_AS_findCross_204 : decode m_AS_findCross.2.1 204 = .ok (.i2l, 1) := by decide +kernel
theorem d_AS_findCross_205 : decode m_AS_findCross.2.1 205 = .ok (.invokestatic 222, 3) := by decide +kernel
theorem d_AS_findCross_208 : decode m_AS_findCross.2.1 208 = .ok (.iastore, 1) := by decide +kernel
theorem d_AS_findCross_209 : decode m_AS_findCross.2.1 209 = .ok (.iinc 4 1, 3) := by decide +kernel
theorem d_AS_findCross_212 : decode m_AS_findCross.2.1 212 = .ok (.goto (-52), 3) := by decide +kernel
theorem d_AS_findCross_215 : decode m_AS_findCross.2.1 215 = .ok (.aload_n 0, 1) := by decide +kernel
theorem d_AS_findCross_216 : decode m_AS_findCross.2.1 216 = .ok (.iload_n 2, 1) := by decide +kernel
theorem d_AS_findCross_217 : decode m_AS_findCross.2.1 217 = .ok (.iload_n 3, 1) := by decide +kernel
theorem d_AS_findCross_218 : decode m_AS_findCross.2.1 218 = .ok (.iconst 1, 1) := by decide +kernel
theorem d_AS_findCross_219 : decode m_AS_findCross.2.1 219 = .ok (.iadd, 1) := by decide +kernel
theorem d_AS_findCross_220 : decode m_AS_findCross.2.1 220 = .ok (.invokevirtual 211, 3) := by decide +kernel
theorem d_AS_findCross_223 : decode m_AS_findCross.2.1 223 = .ok (.return_, 1) := by decide +kernel
theorem d_AS_takeSpare_0 : decode m_AS_takeSpare.2.1 0 = .ok (.iconst 0, 1) := by decide +kernel
theorem d_AS_takeSpare_1 : decode m_AS_takeSpare.2.1 1 = .ok (.istore_n 3, 1) := by decide +kernel
theorem d_AS_takeSpare_2 : decode m_AS_takeSpare.2.1 2 = .ok (.iload_n 3, 1) := by decide +kernel
theorem d_AS_takeSpare_3 : decode m_AS_takeSpare.2.1 3 = .ok (.iload_n 1, 1) := by decide +kernel
theorem d_AS_takeSpare_4 : decode m_AS_takeSpare.2.1 4 = .ok (.if_icmp .ge 56, 3) := by decide +kernel
theorem d_AS_takeSpare_7 : decode m_AS_takeSpare.2.1 7 = .ok (.iload_n 3, 1) := by decide +kernel
theorem d_AS_takeSpare_8 : decode m_AS_takeSpare.2.1 8 = .ok (.bipush 30, 2) := by decide +kernel
theorem d_AS_takeSpare_10 : decode m_AS_takeSpare.2.1 10 = .ok (.if_icmp .ge 50, 3) := by decide +kernel
theorem d_AS_takeSpare_13 : decode m_AS_takeSpare.2.1 13 = .ok (.iconst 0, 1) := by decide +kernel
theorem d_AS_takeSpare_14 : decode m_AS_takeSpare.2.1 14 = .ok (.istore 4, 2) := by decide +kernel
theorem d_AS_takeSpare_16 : decode m_AS_takeSpare.2.1 16 = .ok (.iload 4, 2) := by decide +kernel
theorem d_AS_takeSpare_18 : decode m_AS_takeSpare.2.1 18 = .ok (.iload_n 2, 1) := by decide +kernel
theorem d_AS_takeSpare_19 : decode m_AS_takeSpare.2.1 19 = .ok (.if_icmp .ge 35, 3) := by decide +kernel
theorem d_AS_takeSpare_22 : decode m_AS_takeSpare.2.1 22 = .ok (.iload 4, 2) := by decide +kernel
theorem d_AS_takeSpare_24 : decode m_AS_takeSpare.2.1 24 = .ok (.bipush 31, 2) := by decide +kernel
theorem d_AS_takeSpare_26 : decode m_AS_takeSpare.2.1 26 = .ok (.if_icmp .ge 28, 3) := by decide +kernel
theorem d_AS_takeSpare_29 : decode m_AS_takeSpare.2.1 29 = .ok (.aload_n 0, 1) := by decide +kernel
theorem d_AS_takeSpare_30 : decode m_AS_takeSpare.2.1 30 = .ok (.iload_n 3, 1) := by decide +kernel
theorem d_AS_takeSpare_31 : decode m_AS_takeSpare.2.1 31 = .ok (.iload 4, 2) := by decide +kernel
theorem d_AS_takeSpare_33 : decode m_AS_takeSpare.2.1 33 = .ok (.aload_n 0, 1) := by decide +kernel
theorem d_AS_takeSpare_34 : decode m_AS_takeSpare.2.1 34 = .ok (.getfield 35, 3) := by decide +kernel
theorem d_AS_takeSpare_37 : decode m_AS_takeSpare.2.1 37 = .ok (.iload_n 3, 1) := by decide +kernel
theorem d_AS_takeSpare_38 : decode m_AS_takeSpare.2.1 38 = .ok (.bipush 31, 2) := by decide +kernel
theorem d_AS_takeSpare_40 : decode m_AS_takeSpare.2.1 40 = .ok (.imul, 1) := by decide +kernel
theorem d_AS_takeSpare_41 : decode m_AS_takeSpare.2.1 41 = .ok (.iload 4, 2) := by decide +kernel
theorem d_AS_takeSpare_43 : decode m_AS_takeSpare.2.1 43 = .ok (.iadd, 1) := by decide +kernel
theorem d_AS_takeSpare_44 : decode m_AS_takeSpare.2.1 44 = .ok (.iaload, 1) := by decide +kernel
theorem d_AS_takeSpare_45 : decode m_AS_takeSpare.2.1 45 = .ok (.invokevirtual 151, 3) := by decide +kernel
theorem d_AS_takeSpare_48 : decode m_AS_takeSpare.2.1 48 = .ok (.iinc 4 1, 3) := by decide +kernel
theorem d_AS_takeSpare_51 : decode m_AS_takeSpare.2.1 51 = .ok (.goto (-35), 3) := by decide +kernel
theorem d_AS_takeSpare_54 : decode m_AS_takeSpare.2.1 54 = .ok (.iinc 3 1, 3) := by decide +kernel
theorem d_AS_takeSpare_57 : decode m_AS_takeSpare.2.1 57 = .ok (.goto (-55), 3) := by decide +kernel
theorem d_AS_takeSpare_60 : decode m_AS_takeSpare.2.1 60 = .ok (.aload_n 0, 1) := by decide +kernel
theorem d_AS_takeSpare_61 : decode m_AS_takeSpare.2.1 61 = .ok (.iload_n 1, 1) := by decide +kernel
theorem d_AS_takeSpare_62 : decode m_AS_takeSpare.2.1 62 = .ok (.putfield 134, 3) := by decide +kernel
theorem d_AS_takeSpare_65 : decode m_AS_takeSpare.2.1 65 = .ok (.aload_n 0, 1) := by decide +kernel
theorem d_AS_takeSpare_66 : decode m_AS_takeSpare.2.1 66 = .ok (.iload_n 2, 1) := by decide +kernel
theorem d_AS_takeSpare_67 : decode m_AS_takeSpare.2.1 67 = .ok (.putfield 63, 3) := by decide +kernel
theorem d_AS_takeSpare_70 : decode m_AS_takeSpare.2.1 70 = .ok (.return_, 1) := by decide +kernel

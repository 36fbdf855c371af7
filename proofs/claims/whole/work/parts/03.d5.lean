theorem d_MO_addAct_0 : decode m_MO_addAct.2.1 0 = .ok (.aload_n 0, 1) := by decide +kernel
theorem d_MO_addAct_1 : decode m_MO_addAct.2.1 1 = .ok (.aload_n 0, 1) := by decide +kernel
theorem d_MO_addAct_2 : decode m_MO_addAct.2.1 2 = .ok (.getfield 467, 3) := by decide +kernel
theorem d_MO_addAct_5 : decode m_MO_addAct.2.1 5 = .ok (.iconst 4, 1) := by decide +kernel
theorem d_MO_addAct_6 : decode m_MO_addAct.2.1 6 = .ok (.if_icmp .ne 7, 3) := by decide +kernel
theorem d_MO_addAct_9 : decode m_MO_addAct.2.1 9 = .ok (.iconst 1, 1) := by decide +kernel
theorem d_MO_addAct_10 : decode m_MO_addAct.2.1 10 = .ok (.goto 4, 3) := by decide +kernel
theorem d_MO_addAct_13 : decode m_MO_addAct.2.1 13 = .ok (.iconst 0, 1) := by decide +kernel
theorem d_MO_addAct_14 : decode m_MO_addAct.2.1 14 = .ok (.invokevirtual 292, 3) := by decide +kernel
theorem d_MO_addAct_17 : decode m_MO_addAct.2.1 17 = .ok (.ifCond .ne 5, 3) := by decide +kernel
theorem d_MO_addAct_20 : decode m_MO_addAct.2.1 20 = .ok (.iconst 0, 1) := by decide +kernel
theorem d_MO_addAct_21 : decode m_MO_addAct.2.1 21 = .ok (.ireturn, 1) := by decide +kernel
theorem d_MO_addAct_22 : decode m_MO_addAct.2.1 22 = .ok (.aload_n 0, 1) := by decide +kernel
theorem d_MO_addAct_23 : decode m_MO_addAct.2.1 23 = .ok (.dup, 1) := by decide +kernel
theorem d_MO_addAct_24 : decode m_MO_addAct.2.1 24 = .ok (.getfield 467, 3) := by decide +kernel
theorem d_MO_addAct_27 : decode m_MO_addAct.2.1 27 = .ok (.iconst 1, 1) := by decide +kernel
theorem d_MO_addAct_28 : decode m_MO_addAct.2.1 28 = .ok (.iadd, 1) := by decide +kernel
theorem d_MO_addAct_29 : decode m_MO_addAct.2.1 29 = .ok (.putfield 467, 3) := by decide +kernel
theorem d_MO_addAct_32 : decode m_MO_addAct.2.1 32 = .ok (.aload_n 0, 1) := by decide +kernel
theorem d_MO_addAct_33 : decode m_MO_addAct.2.1 33 = .ok (.getfield 467, 3) := by decide +kernel
theorem d_MO_addAct_36 : decode m_MO_addAct.2.1 36 = .ok (.iconst 1, 1) := by decide +kernel
theorem d_MO_addAct_37 : decode m_MO_addAct.2.1 37 = .ok (.isub, 1) := by decide +kernel
theorem d_MO_addAct_38 : decode m_MO_addAct.2.1 38 = .ok (.ireturn, 1) := by decide +kernel
theorem d_MO_addLink_0 : decode m_MO_addLink.2.1 0 = .ok (.aload_n 0, 1) := by decide +kernel
theorem d_MO_addLink_1 : decode m_MO_addLink.2.1 1 = .ok (.aload_n 0, 1) := by decide +kernel
theorem d_MO_addLink_2 : decode m_MO_addLink.2.1 2 = .ok (.iload_n 2, 1) := by decide +kernel
theorem d_MO_addLink_3 : decode m_MO_addLink.2.1 3 = .ok (.invokevirtual 201, 3) := by decide +kernel
theorem d_MO_addLink_6 : decode m_MO_addLink.2.1 6 = .ok (.ifCond .ne 7, 3) := by decide +kernel
theorem d_MO_addLink_9 : decode m_MO_addLink.2.1 9 = .ok (.iconst 1, 1) := by decide +kernel
theorem d_MO_addLink_10 : decode m_MO_addLink.2.1 10 = .ok (.goto 14, 3) := by decide +kernel
theorem d_MO_addLink_13 : decode m_MO_addLink.2.1 13 = .ok (.aload_n 0, 1) := by decide +kernel
theorem d_MO_addLink_14 : decode m_MO_addLink.2.1 14 = .ok (.iload_n 1, 1) := by decide +kernel
theorem d_MO_addLink_15 : decode m_MO_addLink.2.1 15 = .ok (.iload_n 3, 1) := by decide +kernel
theorem d_MO_addLink_16 : decode m_MO_addLink.2.1 16 = .ok (.iconst 0, 1) := by decide +kernel
theorem d_MO_addLink_17 : decode m_MO_addLink.2.1 17 = .ok (.iconst 2, 1) := by decide +kernel
theorem d_MO_addLink_18 : decode m_MO_addLink.2.1 18 = .ok (.invokestatic 190, 3) := by decide +kernel
theorem d_MO_addLink_21 : decode m_MO_addLink.2.1 21 = .ok (.invokevirtual 298, 3) := by decide +kernel
theorem d_MO_addLink_24 : decode m_MO_addLink.2.1 24 = .ok (.invokevirtual 292, 3) := by decide +kernel
theorem d_MO_addLink_27 : decode m_MO_addLink.2.1 27 = .ok (.ifCond .ne 5, 3) := by decide +kernel
theorem d_MO_addLink_30 : decode m_MO_addLink.2.1 30 = .ok (.iconst 0, 1) := by decide +kernel
theorem d_MO_addLink_31 : decode m_MO_addLink.2.1 31 = .ok (.ireturn, 1) := by decide +kernel
theorem d_MO_addLink_32 : decode m_MO_addLink.2.1 32 = .ok (.aload_n 0, 1) := by decide +kernel
theorem d_MO_addLink_33 : decode m_MO_addLink.2.1 33 = .ok (.iload_n 1, 1) := by decide +kernel
theorem d_MO_addLink_34 : decode m_MO_addLink.2.1 34 = .ok (.iconst 1, 1) := by decide +kernel
theorem d_MO_addLink_35 : decode m_MO_addLink.2.1 35 = .ok (.invokevirtual 302, 3) := by decide +kernel
theorem d_MO_addLink_38 : decode m_MO_addLink.2.1 38 = .ok (.istore 4, 2) := by decide +kernel
theorem d_MO_addLink_40 : decode m_MO_addLink.2.1 40 = .ok (.aload_n 0, 1) := by decide +kernel
theorem d_MO_addLink_41 : decode m_MO_addLink.2.1 41 = .ok (.getfield 22, 3) := by decide +kernel
theorem d_MO_addLink_44 : decode m_MO_addLink.2.1 44 = .ok (.iload 4, 2) := by decide +kernel
theorem d_MO_addLink_46 : decode m_MO_addLink.2.1 46 = .ok (.iload_n 2, 1) := by decide +kernel
theorem d_MO_addLink_47 : decode m_MO_addLink.2.1 47 = .ok (.iastore, 1) := by decide +kernel
theorem d_MO_addLink_48 : decode m_MO_addLink.2.1 48 = .ok (.aload_n 0, 1) := by decide +kernel
theorem d_MO_addLink_49 : decode m_MO_addLink.2.1 49 = .ok (.getfield 25, 3) := by decide +kernel
theorem d_MO_addLink_52 : decode m_MO_addLink.2.1 52 = .ok (.iload 4, 2) := by decide +kernel
theorem d_MO_addLink_54 : decode m_MO_addLink.2.1 54 = .ok (.iload_n 3, 1) := by decide +kernel
theorem d_MO_addLink_55 : decode m_MO_addLink.2.1 55 = .ok (.iastore, 1) := by decide +kernel
theorem d_MO_addLink_56 : decode m_MO_addLink.2.1 56 = .ok (.iload 4, 2) := by decide +kernel
theorem d_MO_addLink_58 : decode m_MO_addLink.2.1 58 = .ok (.bipush 6, 2) := by decide +kernel
theorem d_MO_addLink_60 : decode m_MO_addLink.2.1 60 = .ok (.irem, 1) := by decide +kernel
theorem d_MO_addLink_61 : decode m_MO_addLink.2.1 61 = .ok (.ireturn, 1) := by decide +kernel
theorem d_MO_addNumber_0 : decode m_MO_addNumber.2.1 0 = .ok (.aload_n 0, 1) := by decide +kernel
theorem d_MO_addNumber_1 : decode m_MO_addNumber.2.1 1 = .ok (.aload_n 0, 1) := by decide +kernel
theorem d_MO_addNumber_2 : decode m_MO_addNumber.2.1 2 = .ok (.iload_n 1, 1) := by decide +kernel
theorem d_MO_addNumber_3 : decode m_MO_addNumber.2.1 3 = .ok (.iload_n 2, 1) := by decide +kernel
theorem d_MO_addNumber_4 : decode m_MO_addNumber.2.1 4 = .ok (.iload_n 3, 1) := by decide +kernel
theorem d_MO_addNumber_5 : decode m_MO_addNumber.2.1 5 = .ok (.invokestatic 295, 3) := by decide +kernel
theorem d_MO_addNumber_8 : decode m_MO_addNumber.2.1 8 = .ok (.invokevirtual 298, 3) := by decide +kernel
theorem d_MO_addNumber_11 : decode m_MO_addNumber.2.1 11 = .ok (.invokevirtual 292, 3) := by decide +kernel
theorem d_MO_addNumber_14 : decode m_MO_addNumber.2.1 14 = .ok (.ifCond .ne 5, 3) := by decide +kernel
theorem d_MO_addNumber_17 : decode m_MO_addNumber.2.1 17 = .ok (.iconst 0, 1) := by decide +kernel
theorem d_MO_addNumber_18 : decode m_MO_addNumber.2.1 18 = .ok (.ireturn, 1) := by decide +kernel
theorem d_MO_addNumber_19 : decode m_MO_addNumber.2.1 19 = .ok (.aload_n 0, 1) := by decide +kernel
theorem d_MO_addNumber_20 : decode m_MO_addNumber.2.1 20 = .ok (.iload_n 1, 1) := by decide +kernel
theorem d_MO_addNumber_21 : decode m_MO_addNumber.2.1 21 = .ok (.iconst 0, 1) := by decide +kernel
theorem d_MO_addNumber_22 : decode m_MO_addNumber.2.1 22 = .ok (.invokevirtual 302, 3) := by decide +kernel
theorem d_MO_addNumber_25 : decode m_MO_addNumber.2.1 25 = .ok (.istore 4, 2) := by decide +kernel
theorem d_MO_addNumber_27 : decode m_MO_addNumber.2.1 27 = .ok (.aload_n 0, 1) := by decide +kernel
theorem d_MO_addNumber_28 : decode m_MO_addNumber.2.1 28 = .ok (.getfield 16, 3) := by decide +kernel
theorem d_MO_addNumber_31 : decode m_MO_addNumber.2.1 31 = .ok (.iload 4, 2) := by decide +kernel
theorem d_MO_addNumber_33 : decode m_MO_addNumber.2.1 33 = .ok (.iload_n 2, 1) := by decide +kernel
theorem d_MO_addNumber_34 : decode m_MO_addNumber.2.1 34 = .ok (.iastore, 1) := by decide +kernel
theorem d_MO_addNumber_35 : decode m_MO_addNumber.2.1 35 = .ok (.aload_n 0, 1) := by decide +kernel
theorem d_MO_addNumber_36 : decode m_MO_addNumber.2.1 36 = .ok (.getfield 19, 3) := by decide +kernel
theorem d_MO_addNumber_39 : decode m_MO_addNumber.2.1 39 = .ok (.iload 4, 2) := by decide +kernel
theorem d_MO_addNumber_41 : decode m_MO_addNumber.2.1 41 = .ok (.iload_n 3, 1) := by decide +kernel
theorem d_MO_addNumber_42 : decode m_MO_addNumber.2.1 42 = .ok (.iastore, 1) := by decide +kernel
theorem d_MO_addNumber_43 : decode m_MO_addNumber.2.1 43 = .ok (.iload 4, 2) := by decide +kernel
theorem d_MO_addNumber_45 : decode m_MO_addNumber.2.1 45 = .ok (.bipush 6, 2) := by decide +kernel
theorem d_MO_addNumber_47 : decode m_MO_addNumber.2.1 47 = .ok (.irem, 1) := by decide +kernel
theorem d_MO_addNumber_48 : decode m_MO_addNumber.2.1 48 = .ok (.ireturn, 1) := by decide +kernel
theorem d_MO_addReckoned_0 : decode m_MO_addReckoned.2.1 0 = .ok (.aload_n 0, 1) := by decide +kernel
theorem d_MO_addReckoned_1 : decode m_MO_addReckoned.2.1 1 = .ok (.iload_n 1, 1) := by decide +kernel
theorem d_MO_addReckoned_2 : decode m_MO_addReckoned.2.1 2 = .ok (.invokevirtual 201, 3) := by decide +kernel
theorem d_MO_addReckoned_5 : decode m_MO_addReckoned.2.1 5 = .ok (.ifCond .eq 17, 3) := by decide +kernel
theorem d_MO_addReckoned_8 : decode m_MO_addReckoned.2.1 8 = .ok (.aload_n 0, 1) := by decide +kernel
theorem d_MO_addReckoned_9 : decode m_MO_addReckoned.2.1 9 = .ok (.iload_n 1, 1) := by decide +kernel
theorem d_MO_addReckoned_10 : decode m_MO_addReckoned.2.1 10 = .ok (.iload_n 2, 1) := by decide +kernel
theorem d_MO_addReckoned_11 : decode m_MO_addReckoned.2.1 11 = .ok (.iload_n 3, 1) := by decide +kernel
theorem d_MO_addReckoned_12 : decode m_MO_addReckoned.2.1 12 = .ok (.iload 4, 2) := by decide +kernel
theorem d_MO_addReckoned_14 : decode m_MO_addReckoned.2.1 14 = .ok (.iload 5, 2) := by decide +kernel
theorem d_MO_addReckoned_16 : decode m_MO_addReckoned.2.1 16 = .ok (.invokevirtual 314, 3) := by decide +kernel
theorem d_MO_addReckoned_19 : decode m_MO_addReckoned.2.1 19 = .ok (.goto 4, 3) := by decide +kernel
theorem d_MO_addReckoned_22 : decode m_MO_addReckoned.2.1 22 = .ok (.iconst 1, 1) := by decide +kernel
theorem d_MO_addReckoned_23 : decode m_MO_addReckoned.2.1 23 = .ok (.istore 6, 2) := by decide +kernel
theorem d_MO_addReckoned_25 : decode m_MO_addReckoned.2.1 25 = .ok (.aload_n 0, 1) := by decide +kernel
theorem d_MO_addReckoned_26 : decode m_MO_addReckoned.2.1 26 = .ok (.iload 6, 2) := by decide +kernel
theorem d_MO_addReckoned_28 : decode m_MO_addReckoned.2.1 28 = .ok (.ifCond .ne 18, 3) := by decide +kernel
theorem d_MO_addReckoned_31 : decode m_MO_addReckoned.2.1 31 = .ok (.aload_n 0, 1) := by decide +kernel
theorem d_MO_addReckoned_32 : decode m_MO_addReckoned.2.1 32 = .ok (.getfield 7, 3) := by decide +kernel
theorem d_MO_addReckoned_35 : decode m_MO_addReckoned.2.1 35 = .ok (.iload_n 1, 1) := by decide +kernel
theorem d_MO_addReckoned_36 : decode m_MO_addReckoned.2.1 36 = .ok (.iaload, 1) := by decide +kernel
theorem d_MO_addReckoned_37 : decode m_MO_addReckoned.2.1 37 = .ok (.bipush 6, 2) := by decide +kernel
theorem d_MO_addReckoned_39 : decode m_MO_addReckoned.2.1 39 = .ok (.if_icmp .ne 7, 3) := by decide +kernel
theorem d_MO_addReckoned_42 : decode m_MO_addReckoned.2.1 42 = .ok (.iconst 3, 1) := by decide +kernel
theorem d_MO_addReckoned_43 : decode m_MO_addReckoned.2.1 43 = .ok (.goto 5, 3) := by decide +kernel
theorem d_MO_addReckoned_46 : decode m_MO_addReckoned.2.1 46 = .ok (.iload 6, 2) := by decide +kernel
theorem d_MO_addReckoned_48 : decode m_MO_addReckoned.2.1 48 = .ok (.invokevirtual 292, 3) := by decide +kernel
theorem d_MO_addReckoned_51 : decode m_MO_addReckoned.2.1 51 = .ok (.ifCond .ne 5, 3) := by decide +kernel
theorem d_MO_addReckoned_54 : decode m_MO_addReckoned.2.1 54 = .ok (.iconst 0, 1) := by decide +kernel
theorem d_MO_addReckoned_55 : decode m_MO_addReckoned.2.1 55 = .ok (.ireturn, 1) := by decide +kernel
theorem d_MO_addReckoned_56 : decode m_MO_addReckoned.2.1 56 = .ok (.aload_n 0, 1) := by decide +kernel
theorem d_MO_addReckoned_57 : decode m_MO_addReckoned.2.1 57 = .ok (.iload_n 1, 1) := by decide +kernel
theorem d_MO_addReckoned_58 : decode m_MO_addReckoned.2.1 58 = .ok (.iconst 2, 1) := by decide +kernel
theorem d_MO_addReckoned_59 : decode m_MO_addReckoned.2.1 59 = .ok (.invokevirtual 302, 3) := by decide +kernel
theorem d_MO_addReckoned_62 : decode m_MO_addReckoned.2.1 62 = .ok (.istore 7, 2) := by decide +kernel
theorem d_MO_addReckoned_64 : decode m_MO_addReckoned.2.1 64 = .ok (.aload_n 0, 1) := by decide +kernel
theorem d_MO_addReckoned_65 : decode m_MO_addReckoned.2.1 65 = .ok (.iload 7, 2) := by decide +kernel
theorem d_MO_addReckoned_67 : decode m_MO_addReckoned.2.1 67 = .ok (.iload_n 2, 1) := by decide +kernel
theorem d_MO_addReckoned_68 : decode m_MO_addReckoned.2.1 68 = .ok (.iload_n 3, 1) := by decide +kernel
theorem d_MO_addReckoned_69 : decode m_MO_addReckoned.2.1 69 = .ok (.iload 4, 2) := by decide +kernel
theorem d_MO_addReckoned_71 : decode m_MO_addReckoned.2.1 71 = .ok (.iload 5, 2) := by decide +kernel
theorem d_MO_addReckoned_73 : decode m_MO_addReckoned.2.1 73 = .ok (.invokevirtual 318, 3) := by decide +kernel
theorem d_MO_addReckoned_76 : decode m_MO_addReckoned.2.1 76 = .ok (.aload_n 0, 1) := by decide +kernel
theorem d_MO_addReckoned_77 : decode m_MO_addReckoned.2.1 77 = .ok (.invokevirtual 275, 3) := by decide +kernel
theorem d_MO_addReckoned_80 : decode m_MO_addReckoned.2.1 80 = .ok (.iload 7, 2) := by decide +kernel
theorem d_MO_addReckoned_82 : decode m_MO_addReckoned.2.1 82 = .ok (.bipush 6, 2) := by decide +kernel
theorem d_MO_addReckoned_84 : decode m_MO_addReckoned.2.1 84 = .ok (.irem, 1) := by decide +kernel
theorem d_MO_addReckoned_85 : decode m_MO_addReckoned.2.1 85 = .ok (.ireturn, 1) := by decide +kernel
theorem d_MO_addRule_0 : decode m_MO_addRule.2.1 0 = .ok (.aload_n 0, 1) := by decide +kernel
theorem d_MO_addRule_1 : decode m_MO_addRule.2.1 1 = .ok (.iload_n 1, 1) := by decide +kernel
theorem d_MO_addRule_2 : decode m_MO_addRule.2.1 2 = .ok (.iload_n 2, 1) := by decide +kernel
theorem d_MO_addRule_3 : decode m_MO_addRule.2.1 3 = .ok (.invokevirtual 305, 3) := by decide +kernel
theorem d_MO_addRule_6 : decode m_MO_addRule.2.1 6 = .ok (.ifCond .eq 17, 3) := by decide +kernel
theorem d_MO_addRule_9 : decode m_MO_addRule.2.1 9 = .ok (.aload_n 0, 1) := by decide +kernel
theorem d_MO_addRule_10 : decode m_MO_addRule.2.1 10 = .ok (.iload_n 1, 1) := by decide +kernel
theorem d_MO_addRule_11 : decode m_MO_addRule.2.1 11 = .ok (.iload 4, 2) := by decide +kernel
theorem d_MO_addRule_13 : decode m_MO_addRule.2.1 13 = .ok (.invokevirtual 305, 3) := by decide +kernel
theorem d_MO_addRule_16 : decode m_MO_addRule.2.1 16 = .ok (.ifCond .eq 7, 3) := by decide +kernel
theorem d_MO_addRule_19 : decode m_MO_addRule.2.1 19 = .ok (.iconst 1, 1) := by decide +kernel
theorem d_MO_addRule_20 : decode m_MO_addRule.2.1 20 = .ok (.goto 4, 3) := by decide +kernel
theorem d_MO_addRule_23 : decode m_MO_addRule.2.1 23 = .ok (.iconst 0, 1) := by decide +kernel
theorem d_MO_addRule_24 : decode m_MO_addRule.2.1 24 = .ok (.istore 6, 2) := by decide +kernel
theorem d_MO_addRule_26 : decode m_MO_addRule.2.1 26 = .ok (.iload 6, 2) := by decide +kernel
theorem d_MO_addRule_28 : decode m_MO_addRule.2.1 28 = .ok (.ifCond .eq 51, 3) := by decide +kernel
theorem d_MO_addRule_31 : decode m_MO_addRule.2.1 31 = .ok (.iload_n 3, 1) := by decide +kernel
theorem d_MO_addRule_32 : decode m_MO_addRule.2.1 32 = .ok (.iconst 0, 1) := by decide +kernel
theorem d_MO_addRule_33 : decode m_MO_addRule.2.1 33 = .ok (.iconst 3, 1) := by decide +kernel
theorem d_MO_addRule_34 : decode m_MO_addRule.2.1 34 = .ok (.invokestatic 190, 3) := by decide +kernel
theorem d_MO_addRule_37 : decode m_MO_addRule.2.1 37 = .ok (.ifCond .eq 42, 3) := by decide +kernel
theorem d_MO_addRule_40 : decode m_MO_addRule.2.1 40 = .ok (.iload 5, 2) := by decide +kernel
theorem d_MO_addRule_42 : decode m_MO_addRule.2.1 42 = .ok (.sipush (-9999), 3) := by decide +kernel
theorem d_MO_addRule_45 : decode m_MO_addRule.2.1 45 = .ok (.sipush 9999, 3) := by decide +kernel
theorem d_MO_addRule_48 : decode m_MO_addRule.2.1 48 = .ok (.invokestatic 190, 3) := by decide +kernel
theorem d_MO_addRule_51 : decode m_MO_addRule.2.1 51 = .ok (.ifCond .eq 28, 3) := by decide +kernel
theorem d_MO_addRule_54 : decode m_MO_addRule.2.1 54 = .ok (.aload_n 0, 1) := by decide +kernel
theorem d_MO_addRule_55 : decode m_MO_addRule.2.1 55 = .ok (.iload_n 1, 1) := by decide +kernel
theorem d_MO_addRule_56 : decode m_MO_addRule.2.1 56 = .ok (.iload_n 2, 1) := by decide +kernel
theorem d_MO_addRule_57 : decode m_MO_addRule.2.1 57 = .ok (.invokevirtual 308, 3) := by decide +kernel
theorem d_MO_addRule_60 : decode m_MO_addRule.2.1 60 = .ok (.iconst 3, 1) := by decide +kernel
theorem d_MO_addRule_61 : decode m_MO_addRule.2.1 61 = .ok (.if_icmp .eq 18, 3) := by decide +kernel
theorem d_MO_addRule_64 : decode m_MO_addRule.2.1 64 = .ok (.aload_n 0, 1) := by decide +kernel
theorem d_MO_addRule_65 : decode m_MO_addRule.2.1 65 = .ok (.iload_n 1, 1) := by decide +kernel
theorem d_MO_addRule_66 : decode m_MO_addRule.2.1 66 = .ok (.iload 4, 2) := by decide +kernel
theorem d_MO_addRule_68 : decode m_MO_addRule.2.1 68 = .ok (.invokevirtual 308, 3) := by decide +kernel
theorem d_MO_addRule_71 : decode m_MO_addRule.2.1 71 = .ok (.iconst 3, 1) := by decide +kernel
theorem d_MO_addRule_72 : decode m_MO_addRule.2.1 72 = .ok (.if_icmp .eq 7, 3) := by decide +kernel
theorem d_MO_addRule_75 : decode m_MO_addRule.2.1 75 = .ok (.iconst 1, 1) := by decide +kernel
theorem d_MO_addRule_76 : decode m_MO_addRule.2.1 76 = .ok (.goto 4, 3) := by decide +kernel
theorem d_MO_addRule_79 : decode m_MO_addRule.2.1 79 = .ok (.iconst 0, 1) := by decide +kernel
theorem d_MO_addRule_80 : decode m_MO_addRule.2.1 80 = .ok (.istore 7, 2) := by decide +kernel
theorem d_MO_addRule_82 : decode m_MO_addRule.2.1 82 = .ok (.aload_n 0, 1) := by decide +kernel
theorem d_MO_addRule_83 : decode m_MO_addRule.2.1 83 = .ok (.iload 6, 2) := by decide +kernel
theorem d_MO_addRule_85 : decode m_MO_addRule.2.1 85 = .ok (.ifCond .ne 7, 3) := by decide +kernel
theorem d_MO_addRule_88 : decode m_MO_addRule.2.1 88 = .ok (.iconst 1, 1) := by decide +kernel
theorem d_MO_addRule_89 : decode m_MO_addRule.2.1 89 = .ok (.goto 26, 3) := by decide +kernel
theorem d_MO_addRule_92 : decode m_MO_addRule.2.1 92 = .ok (.iload 7, 2) := by decide +kernel
theorem d_MO_addRule_94 : decode m_MO_addRule.2.1 94 = .ok (.ifCond .ne 7, 3) := by decide +kernel
theorem d_MO_addRule_97 : decode m_MO_addRule.2.1 97 = .ok (.iconst 2, 1) := by decide +kernel
theorem d_MO_addRule_98 : decode m_MO_addRule.2.1 98 = .ok (.goto 17, 3) := by decide +kernel
theorem d_MO_addRule_101 : decode m_MO_addRule.2.1 101 = .ok (.aload_n 0, 1) := by decide +kernel
theorem d_MO_addRule_102 : decode m_MO_addRule.2.1 102 = .ok (.getfield 265, 3) := by decide +kernel
theorem d_MO_addRule_105 : decode m_MO_addRule.2.1 105 = .ok (.bipush 8, 2) := by decide +kernel
theorem d_MO_addRule_107 : decode m_MO_addRule.2.1 107 = .ok (.if_icmp .ne 7, 3) := by decide +kernel
theorem d_MO_addRule_110 : decode m_MO_addRule.2.1 110 = .ok (.iconst 3, 1) := by decide +kernel
theorem d_MO_addRule_111 : decode m_MO_addRule.2.1 111 = .ok (.goto 4, 3) := by decide +kernel
theorem d_MO_addRule_114 : decode m_MO_addRule.2.1 114 = .ok (.iconst 0, 1) := by decide +kernel
theorem d_MO_addRule_115 : decode m_MO_addRule.2.1 115 = .ok (.invokevirtual 292, 3) := by decide +kernel
theorem d_MO_addRule_118 : decode m_MO_addRule.2.1 118 = .ok (.ifCond .ne 5, 3) := by decide +kernel
theorem d_MO_addRule_121 : decode m_MO_addRule.2.1 121 = .ok (.iconst 0, 1) := by decide +kernel
theorem d_MO_addRule_122 : decode m_MO_addRule.2.1 122 = .ok (.ireturn, 1) := by decide +kernel
theorem d_MO_addRule_123 : decode m_MO_addRule.2.1 123 = .ok (.aload_n 0, 1) := by decide +kernel
theorem d_MO_addRule_124 : decode m_MO_addRule.2.1 124 = .ok (.bipush 6, 2) := by decide +kernel
theorem d_MO_addRule_126 : decode m_MO_addRule.2.1 126 = .ok (.invokevirtual 322, 3) := by decide +kernel
theorem d_MO_addRule_129 : decode m_MO_addRule.2.1 129 = .ok (.aload_n 0, 1) := by decide +kernel
theorem d_MO_addRule_130 : decode m_MO_addRule.2.1 130 = .ok (.getfield 53, 3) := by decide +kernel
theorem d_MO_addRule_133 : decode m_MO_addRule.2.1 133 = .ok (.aload_n 0, 1) := by decide +kernel
theorem d_MO_addRule_134 : decode m_MO_addRule.2.1 134 = .ok (.getfield 265, 3) := by decide +kernel
theorem d_MO_addRule_137 : decode m_MO_addRule.2.1 137 = .ok (.iload_n 1, 1) := by decide +kernel
theorem d_MO_addRule_138 : decode m_MO_addRule.2.1 138 = .ok (.iastore, 1) := by decide +kernel
theorem d_MO_addRule_139 : decode m_MO_addRule.2.1 139 = .ok (.aload_n 0, 1) := by decide +kernel
theorem d_MO_addRule_140 : decode m_MO_addRule.2.1 140 = .ok (.getfield 56, 3) := by decide +kernel
theorem d_MO_addRule_143 : decode m_MO_addRule.2.1 143 = .ok (.aload_n 0, 1) := by decide +kernel
theorem d_MO_addRule_144 : decode m_MO_addRule.2.1 144 = .ok (.getfield 265, 3) := by decide +kernel
theorem d_MO_addRule_147 : decode m_MO_addRule.2.1 147 = .ok (.iload_n 2, 1) := by decide +kernel
theorem d_MO_addRule_148 : decode m_MO_addRule.2.1 148 = .ok (.iastore, 1) := by decide +kernel
theorem d_MO_addRule_149 : decode m_MO_addRule.2.1 149 = .ok (.aload_n 0, 1) := by decide +kernel
theorem d_MO_addRule_150 : decode m_MO_addRule.2.1 150 = .ok (.getfield 59, 3) := by decide +kernel
theorem d_MO_addRule_153 : decode m_MO_addRule.2.1 153 = .ok (.aload_n 0, 1) := by decide +kernel
theorem d_MO_addRule_154 : decode m_MO_addRule.2.1 154 = .ok (.getfield 265, 3) := by decide +kernel
theorem d_MO_addRule_157 : decode m_MO_addRule.2.1 157 = .ok (.iload_n 3, 1) := by decide +kernel
theorem d_MO_addRule_158 : decode m_MO_addRule.2.1 158 = .ok (.iastore, 1) := by decide +kernel
theorem d_MO_addRule_159 : decode m_MO_addRule.2.1 159 = .ok (.aload_n 0, 1) := by decide +kernel
theorem d_MO_addRule_160 : decode m_MO_addRule.2.1 160 = .ok (.getfield 62, 3) := by decide +kernel
theorem d_MO_addRule_163 : decode m_MO_addRule.2.1 163 = .ok (.aload_n 0, 1) := by decide +kernel
theorem d_MO_addRule_164 : decode m_MO_addRule.2.1 164 = .ok (.getfield 265, 3) := by decide +kernel
theorem d_MO_addRule_167 : decode m_MO_addRule.2.1 167 = .ok (.iload 4, 2) := by decide +kernel
theorem d_MO_addRule_169 : decode m_MO_addRule.2.1 169 = .ok (.iastore, 1) := by decide +kernel
theorem d_MO_addRule_170 : decode m_MO_addRule.2.1 170 = .ok (.aload_n 0, 1) := by decide +kernel
theorem d_MO_addRule_171 : decode m_MO_addRule.2.1 171 = .ok (.getfield 65, 3) := by decide +kernel
theorem d_MO_addRule_174 : decode m_MO_addRule.2.1 174 = .ok (.aload_n 0, 1) := by decide +kernel
theorem d_MO_addRule_175 : decode m_MO_addRule.2.1 175 = .ok (.getfield 265, 3) := by decide +kernel
theorem d_MO_addRule_178 : decode m_MO_addRule.2.1 178 = .ok (.iload 5, 2) := by decide +kernel
theorem d_MO_addRule_180 : decode m_MO_addRule.2.1 180 = .ok (.iastore, 1) := by decide +kernel
theorem d_MO_addRule_181 : decode m_MO_addRule.2.1 181 = .ok (.aload_n 0, 1) := by decide +kernel
theorem d_MO_addRule_182 : decode m_MO_addRule.2.1 182 = .ok (.getfield 68, 3) := by decide +kernel
theorem d_MO_addRule_185 : decode m_MO_addRule.2.1 185 = .ok (.aload_n 0, 1) := by decide +kernel
theorem d_MO_addRule_186 : decode m_MO_addRule.2.1 186 = .ok (.getfield 265, 3) := by decide +kernel
theorem d_MO_addRule_189 : decode m_MO_addRule.2.1 189 = .ok (.iconst 0, 1) := by decide +kernel
theorem d_MO_addRule_190 : decode m_MO_addRule.2.1 190 = .ok (.bastore, 1) := by decide +kernel
theorem d_MO_addRule_191 : decode m_MO_addRule.2.1 191 = .ok (.aload_n 0, 1) := by decide +kernel
theorem d_MO_addRule_192 : decode m_MO_addRule.2.1 192 = .ok (.dup, 1) := by decide +kernel
theorem d_MO_addRule_193 : decode m_MO_addRule.2.1 193 = .ok (.getfield 265, 3) := by decide +kernel
theorem d_MO_addRule_196 : decode m_MO_addRule.2.1 196 = .ok (.iconst 1, 1) := by decide +kernel
theorem d_MO_addRule_197 : decode m_MO_addRule.2.1 197 = .ok (.iadd, 1) := by decide +kernel
theorem d_MO_addRule_198 : decode m_MO_addRule.2.1 198 = .ok (.putfield 265, 3) := by decide +kernel
theorem d_MO_addRule_201 : decode m_MO_addRule.2.1 201 = .ok (.aload_n 0, 1) := by decide +kernel
theorem d_MO_addRule_202 : decode m_MO_addRule.2.1 202 = .ok (.invokevirtual 325, 3) := by decide +kernel
theorem d_MO_addRule_205 : decode m_MO_addRule.2.1 205 = .ok (.ifCond .ne 15, 3) := by decide +kernel
theorem d_MO_addRule_208 : decode m_MO_addRule.2.1 208 = .ok (.aload_n 0, 1) := by decide +kernel
theorem d_MO_addRule_209 : decode m_MO_addRule.2.1 209 = .ok (.dup, 1) := by decide +kernel
theorem d_MO_addRule_210 : decode m_MO_addRule.2.1 210 = .ok (.getfield 265, 3) := by decide +kernel
theorem d_MO_addRule_213 : decode m_MO_addRule.2.1 213 = .ok (.iconst 1, 1) := by decide +kernel
theorem d_MO_addRule_214 : decode m_MO_addRule.2.1 214 = .ok (.isub, 1) := by decide +kernel
theorem d_MO_addRule_215 : decode m_MO_addRule.2.1 215 = .ok (.putfield 265, 3) := by decide +kernel
theorem d_MO_addRule_218 : decode m_MO_addRule.2.1 218 = .ok (.iconst (-1), 1) := by decide +kernel
theorem d_MO_addRule_219 : decode m_MO_addRule.2.1 219 = .ok (.ireturn, 1) := by decide +kernel
theorem d_MO_addRule_220 : decode m_MO_addRule.2.1 220 = .ok (.aload_n 0, 1) := by decide +kernel
theorem d_MO_addRule_221 : decode m_MO_addRule.2.1 221 = .ok (.iconst 1, 1) := by decide +kernel
theorem d_MO_addRule_222 : decode m_MO_addRule.2.1 222 = .ok (.invokevirtual 328, 3) := by decide +kernel
theorem d_MO_addRule_225 : decode m_MO_addRule.2.1 225 = .ok (.pop, 1) := by decide +kernel
theorem d_MO_addRule_226 : decode m_MO_addRule.2.1 226 = .ok (.aload_n 0, 1) := by decide +kernel
theorem d_MO_addRule_227 : decode m_MO_addRule.2.1 227 = .ok (.getfield 265, 3) := by decide +kernel
theorem d_MO_addRule_230 : decode m_MO_addRule.2.1 230 = .ok (.iconst 1, 1) := by decide +kernel
theorem d_MO_addRule_231 : decode m_MO_addRule.2.1 231 = .ok (.isub, 1) := by decide +kernel
theorem d_MO_addRule_232 : decode m_MO_addRule.2.1 232 = .ok (.ireturn, 1) := by decide +kernel
theorem d_MO_addTable_0 : decode m_MO_addTable.2.1 0 = .ok (.aload_n 0, 1) := by decide +kernel
theorem d_MO_addTable_1 : decode m_MO_addTable.2.1 1 = .ok (.aload_n 0, 1) := by decide +kernel
theorem d_MO_addTable_2 : decode m_MO_addTable.2.1 2 = .ok (.getfield 198, 3) := by decide +kernel
theorem d_MO_addTable_5 : decode m_MO_addTable.2.1 5 = .ok (.iconst 4, 1) := by decide +kernel
theorem d_MO_addTable_6 : decode m_MO_addTable.2.1 6 = .ok (.if_icmp .ne 7, 3) := by decide +kernel
theorem d_MO_addTable_9 : decode m_MO_addTable.2.1 9 = .ok (.iconst 1, 1) := by decide +kernel
theorem d_MO_addTable_10 : decode m_MO_addTable.2.1 10 = .ok (.goto 4, 3) := by decide +kernel
theorem d_MO_addTable_13 : decode m_MO_addTable.2.1 13 = .ok (.iconst 0, 1) := by decide +kernel
theorem d_MO_addTable_14 : decode m_MO_addTable.2.1 14 = .ok (.invokevirtual 292, 3) := by decide +kernel
theorem d_MO_addTable_17 : decode m_MO_addTable.2.1 17 = .ok (.ifCond .ne 5, 3) := by decide +kernel
theorem d_MO_addTable_20 : decode m_MO_addTable.2.1 20 = .ok (.iconst 0, 1) := by decide +kernel
theorem d_MO_addTable_21 : decode m_MO_addTable.2.1 21 = .ok (.ireturn, 1) := by decide +kernel
theorem d_MO_addTable_22 : decode m_MO_addTable.2.1 22 = .ok (.aload_n 0, 1) := by decide +kernel
theorem d_MO_addTable_23 : decode m_MO_addTable.2.1 23 = .ok (.dup, 1) := by decide +kernel
theorem d_MO_addTable_24 : decode m_MO_addTable.2.1 24 = .ok (.getfield 198, 3) := by decide +kernel
theorem d_MO_addTable_27 : decode m_MO_addTable.2.1 27 = .ok (.iconst 1, 1) := by decide +kernel
theorem d_MO_addTable_28 : decode m_MO_addTable.2.1 28 = .ok (.iadd, 1) := by decide +kernel
theorem d_MO_addTable_29 : decode m_MO_addTable.2.1 29 = .ok (.putfield 198, 3) := by decide +kernel
theorem d_MO_addTable_32 : decode m_MO_addTable.2.1 32 = .ok (.aload_n 0, 1) := by decide +kernel
theorem d_MO_addTable_33 : decode m_MO_addTable.2.1 33 = .ok (.iconst 0, 1) := by decide +kernel
theorem d_MO_addTable_34 : decode m_MO_addTable.2.1 34 = .ok (.putfield 289, 3) := by decide +kernel
theorem d_MO_addTable_37 : decode m_MO_addTable.2.1 37 = .ok (.aload_n 0, 1) := by decide +kernel
theorem d_MO_addTable_38 : decode m_MO_addTable.2.1 38 = .ok (.getfield 198, 3) := by decide +kernel
theorem d_MO_addTable_41 : decode m_MO_addTable.2.1 41 = .ok (.iconst 1, 1) := by decide +kernel
theorem d_MO_addTable_42 : decode m_MO_addTable.2.1 42 = .ok (.isub, 1) := by decide +kernel
theorem d_MO_addTable_43 : decode m_MO_addTable.2.1 43 = .ok (.ireturn, 1) := by decide +kernel
theorem d_MO_addsStep_0 : decode m_MO_addsStep.2.1 0 = .ok (.bipush 6, 2) := by decide +kernel
theorem d_MO_addsStep_2 : decode m_MO_addsStep.2.1 2 = .ok (.iload_n 1, 1) := by decide +kernel
theorem d_MO_addsStep_3 : decode m_MO_addsStep.2.1 3 = .ok (.imul, 1) := by decide +kernel
theorem d_MO_addsStep_4 : decode m_MO_addsStep.2.1 4 = .ok (.aload_n 0, 1) := by decide +kernel
theorem d_MO_addsStep_5 : decode m_MO_addsStep.2.1 5 = .ok (.getfield 165, 3) := by decide +kernel
theorem d_MO_addsStep_8 : decode m_MO_addsStep.2.1 8 = .ok (.iload_n 1, 1) := by decide +kernel
theorem d_MO_addsStep_9 : decode m_MO_addsStep.2.1 9 = .ok (.iaload, 1) := by decide +kernel
theorem d_MO_addsStep_10 : decode m_MO_addsStep.2.1 10 = .ok (.iadd, 1) := by decide +kernel
theorem d_MO_addsStep_11 : decode m_MO_addsStep.2.1 11 = .ok (.istore 6, 2) := by decide +kernel
theorem d_MO_addsStep_13 : decode m_MO_addsStep.2.1 13 = .ok (.aload_n 0, 1) := by decide +kernel
theorem d_MO_addsStep_14 : decode m_MO_addsStep.2.1 14 = .ok (.getfield 168, 3) := by decide +kernel
theorem d_MO_addsStep_17 : decode m_MO_addsStep.2.1 17 = .ok (.iload 6, 2) := by decide +kernel
theorem d_MO_addsStep_19 : decode m_MO_addsStep.2.1 19 = .ok (.iload_n 2, 1) := by decide +kernel
theorem d_MO_addsStep_20 : decode m_MO_addsStep.2.1 20 = .ok (.iastore, 1) := by decide +kernel
theorem d_MO_addsStep_21 : decode m_MO_addsStep.2.1 21 = .ok (.aload_n 0, 1) := by decide +kernel
theorem d_MO_addsStep_22 : decode m_MO_addsStep.2.1 22 = .ok (.getfield 171, 3) := by decide +kernel
theorem d_MO_addsStep_25 : decode m_MO_addsStep.2.1 25 = .ok (.iload 6, 2) := by decide +kernel
theorem d_MO_addsStep_27 : decode m_MO_addsStep.2.1 27 = .ok (.iload_n 3, 1) := by decide +kernel
theorem d_MO_addsStep_28 : decode m_MO_addsStep.2.1 28 = .ok (.iastore, 1) := by decide +kernel
theorem d_MO_addsStep_29 : decode m_MO_addsStep.2.1 29 = .ok (.aload_n 0, 1) := by decide +kernel
theorem d_MO_addsStep_30 : decode m_MO_addsStep.2.1 30 = .ok (.getfield 174, 3) := by decide +kernel
theorem d_MO_addsStep_33 : decode m_MO_addsStep.2.1 33 = .ok (.iload 6, 2) := by decide +kernel
theorem d_MO_addsStep_35 : decode m_MO_addsStep.2.1 35 = .ok (.iload 4, 2) := by decide +kernel
theorem d_MO_addsStep_37 : decode m_MO_addsStep.2.1 37 = .ok (.iastore, 1) := by decide +kernel
theorem d_MO_addsStep_38 : decode m_MO_addsStep.2.1 38 = .ok (.aload_n 0, 1) := by decide +kernel
theorem d_MO_addsStep_39 : decode m_MO_addsStep.2.1 39 = .ok (.getfield 177, 3) := by decide +kernel
theorem d_MO_addsStep_42 : decode m_MO_addsStep.2.1 42 = .ok (.iload 6, 2) := by decide +kernel
theorem d_MO_addsStep_44 : decode m_MO_addsStep.2.1 44 = .ok (.iload 5, 2) := by decide +kernel
theorem d_MO_addsStep_46 : decode m_MO_addsStep.2.1 46 = .ok (.iastore, 1) := by decide +kernel
theorem d_MO_addsStep_47 : decode m_MO_addsStep.2.1 47 = .ok (.iconst 0, 1) := by decide +kernel
theorem d_MO_addsStep_48 : decode m_MO_addsStep.2.1 48 = .ok (.istore 7, 2) := by decide +kernel
theorem d_MO_addsStep_50 : decode m_MO_addsStep.2.1 50 = .ok (.iload 7, 2) := by decide +kernel
theorem d_MO_addsStep_52 : decode m_MO_addsStep.2.1 52 = .ok (.bipush 6, 2) := by decide +kernel
theorem d_MO_addsStep_54 : decode m_MO_addsStep.2.1 54 = .ok (.if_icmp .ge 29, 3) := by decide +kernel
theorem d_MO_addsStep_57 : decode m_MO_addsStep.2.1 57 = .ok (.aload_n 0, 1) := by decide +kernel
theorem d_MO_addsStep_58 : decode m_MO_addsStep.2.1 58 = .ok (.getfield 180, 3) := by decide +kernel
theorem d_MO_addsStep_61 : decode m_MO_addsStep.2.1 61 = .ok (.bipush 6, 2) := by decide +kernel
theorem d_MO_addsStep_63 : decode m_MO_addsStep.2.1 63 = .ok (.iload 6, 2) := by decide +kernel
theorem d_MO_addsStep_65 : decode m_MO_addsStep.2.1 65 = .ok (.imul, 1) := by decide +kernel
theorem d_MO_addsStep_66 : decode m_MO_addsStep.2.1 66 = .ok (.iload 7, 2) := by decide +kernel
theorem d_MO_addsStep_68 : decode m_MO_addsStep.2.1 68 = .ok (.iadd, 1) := by decide +kernel
theorem d_MO_addsStep_69 : decode m_MO_addsStep.2.1 69 = .ok (.aload_n 0, 1) := by decide +kernel
theorem d_MO_addsStep_70 : decode m_MO_addsStep.2.1 70 = .ok (.getfield 80, 3) := by decide +kernel
theorem d_MO_addsStep_73 : decode m_MO_addsStep.2.1 73 = .ok (.iload 7, 2) := by decide +kernel
theorem d_MO_addsStep_75 : decode m_MO_addsStep.2.1 75 = .ok (.iaload, 1) := by decide +kernel
theorem d_MO_addsStep_76 : decode m_MO_addsStep.2.1 76 = .ok (.iastore, 1) := by decide +kernel
theorem d_MO_addsStep_77 : decode m_MO_addsStep.2.1 77 = .ok (.iinc 7 1, 3) := by decide +kernel
theorem d_MO_addsStep_80 : decode m_MO_addsStep.2.1 80 = .ok (.goto (-30), 3) := by decide +kernel
theorem d_MO_addsStep_83 : decode m_MO_addsStep.2.1 83 = .ok (.aload_n 0, 1) := by decide +kernel
theorem d_MO_addsStep_84 : decode m_MO_addsStep.2.1 84 = .ok (.getfield 165, 3) := by decide +kernel
theorem d_MO_addsStep_87 : decode m_MO_addsStep.2.1 87 = .ok (.iload_n 1, 1) := by decide +kernel
theorem d_MO_addsStep_88 : decode m_MO_addsStep.2.1 88 = .ok (.dup2, 1) := by decide +kernel
theorem d_MO_addsStep_89 : decode m_MO_addsStep.2.1 89 = .ok (.iaload, 1) := by decide +kernel
theorem d_MO_addsStep_90 : decode m_MO_addsStep.2.1 90 = .ok (.iconst 1, 1) := by decide +kernel
theorem d_MO_addsStep_91 : decode m_MO_addsStep.2.1 91 = .ok (.iadd, 1) := by decide +kernel
theorem d_MO_addsStep_92 : decode m_MO_addsStep.2.1 92 = .ok (.iastore, 1) := by decide +kernel
theorem d_MO_addsStep_93 : decode m_MO_addsStep.2.1 93 = .ok (.aload_n 0, 1) := by decide +kernel
theorem d_MO_addsStep_94 : decode m_MO_addsStep.2.1 94 = .ok (.getfield 165, 3) := by decide +kernel
theorem d_MO_addsStep_97 : decode m_MO_addsStep.2.1 97 = .ok (.iload_n 1, 1) := by decide +kernel
theorem d_MO_addsStep_98 : decode m_MO_addsStep.2.1 98 = .ok (.iaload, 1) := by decide +kernel
theorem d_MO_addsStep_99 : decode m_MO_addsStep.2.1 99 = .ok (.ireturn, 1) := by decide +kernel
theorem d_MO_allBroken_0 : decode m_MO_allBroken.2.1 0 = .ok (.iconst 0, 1) := by decide +kernel
theorem d_MO_allBroken_1 : decode m_MO_allBroken.2.1 1 = .ok (.istore_n 2, 1) := by decide +kernel
theorem d_MO_allBroken_2 : decode m_MO_allBroken.2.1 2 = .ok (.iconst 0, 1) := by decide +kernel
theorem d_MO_allBroken_3 : decode m_MO_allBroken.2.1 3 = .ok (.istore_n 3, 1) := by decide +kernel
theorem d_MO_allBroken_4 : decode m_MO_allBroken.2.1 4 = .ok (.iload_n 3, 1) := by decide +kernel
theorem d_MO_allBroken_5 : decode m_MO_allBroken.2.1 5 = .ok (.bipush 30, 2) := by decide +kernel
theorem d_MO_allBroken_7 : decode m_MO_allBroken.2.1 7 = .ok (.aload_n 0, 1) := by decide +kernel
theorem d_MO_allBroken_8 : decode m_MO_allBroken.2.1 8 = .ok (.getfield 198, 3) := by decide +kernel
theorem d_MO_allBroken_11 : decode m_MO_allBroken.2.1 11 = .ok (.imul, 1) := by decide +kernel
theorem d_MO_allBroken_12 : decode m_MO_allBroken.2.1 12 = .ok (.if_icmp .ge 46, 3) := by decide +kernel
theorem d_MO_allBroken_15 : decode m_MO_allBroken.2.1 15 = .ok (.iload_n 2, 1) := by decide +kernel
theorem d_MO_allBroken_16 : decode m_MO_allBroken.2.1 16 = .ok (.ifCond .eq 7, 3) := by decide +kernel
theorem d_MO_allBroken_19 : decode m_MO_allBroken.2.1 19 = .ok (.iload_n 1, 1) := by decide +kernel
theorem d_MO_allBroken_20 : decode m_MO_allBroken.2.1 20 = .ok (.ifCond .ne 38, 3) := by decide +kernel
theorem d_MO_allBroken_23 : decode m_MO_allBroken.2.1 23 = .ok (.iload_n 2, 1) := by decide +kernel
theorem d_MO_allBroken_24 : decode m_MO_allBroken.2.1 24 = .ok (.aload_n 0, 1) := by decide +kernel
theorem d_MO_allBroken_25 : decode m_MO_allBroken.2.1 25 = .ok (.getfield 74, 3) := by decide +kernel
theorem d_MO_allBroken_28 : decode m_MO_allBroken.2.1 28 = .ok (.iload_n 3, 1) := by decide +kernel
theorem d_MO_allBroken_29 : decode m_MO_allBroken.2.1 29 = .ok (.baload, 1) := by decide +kernel
theorem d_MO_allBroken_30 : decode m_MO_allBroken.2.1 30 = .ok (.ifCond .eq 19, 3) := by decide +kernel
theorem d_MO_allBroken_33 : decode m_MO_allBroken.2.1 33 = .ok (.aload_n 0, 1) := by decide +kernel
theorem d_MO_allBroken_34 : decode m_MO_allBroken.2.1 34 = .ok (.iload_n 3, 1) := by decide +kernel
theorem d_MO_allBroken_35 : decode m_MO_allBroken.2.1 35 = .ok (.bipush 30, 2) := by decide +kernel
theorem d_MO_allBroken_37 : decode m_MO_allBroken.2.1 37 = .ok (.idiv, 1) := by decide +kernel
theorem d_MO_allBroken_38 : decode m_MO_allBroken.2.1 38 = .ok (.iload_n 3, 1) := by decide +kernel
theorem d_MO_allBroken_39 : decode m_MO_allBroken.2.1 39 = .ok (.bipush 30, 2) := by decide +kernel
theorem d_MO_allBroken_41 : decode m_MO_allBroken.2.1 41 = .ok (.irem, 1) := by decide +kernel
theorem d_MO_allBroken_42 : decode m_MO_allBroken.2.1 42 = .ok (.iload_n 1, 1) := by decide +kernel
theorem d_MO_allBroken_43 : decode m_MO_allBroken.2.1 43 = .ok (.invokevirtual 271, 3) := by decide +kernel
theorem d_MO_allBroken_46 : decode m_MO_allBroken.2.1 46 = .ok (.goto 4, 3) := by decide +kernel
theorem d_MO_allBroken_49 : decode m_MO_allBroken.2.1 49 = .ok (.iconst 0, 1) := by decide +kernel
theorem d_MO_allBroken_50 : decode m_MO_allBroken.2.1 50 = .ok (.iadd, 1) := by decide +kernel
theorem d_MO_allBroken_51 : decode m_MO_allBroken.2.1 51 = .ok (.istore_n 2, 1) := by decide +kernel
theorem d_MO_allBroken_52 : decode m_MO_allBroken.2.1 52 = .ok (.iinc 3 1, 3) := by decide +kernel
theorem d_MO_allBroken_55 : decode m_MO_allBroken.2.1 55 = .ok (.goto (-51), 3) := by decide +kernel
theorem d_MO_allBroken_58 : decode m_MO_allBroken.2.1 58 = .ok (.iload_n 2, 1) := by decide +kernel
theorem d_MO_allBroken_59 : decode m_MO_allBroken.2.1 59 = .ok (.ireturn, 1) := by decide +kernel
theorem d_MO_answer_0 : decode m_MO_answer.2.1 0 = .ok (.aload_n 0, 1) := by decide +kernel
theorem d_MO_answer_1 : decode m_MO_answer.2.1 1 = .ok (.aload_n 0, 1) := by decide +kernel
theorem d_MO_answer_2 : decode m_MO_answer.2.1 2 = .ok (.iload_n 1, 1) := by decide +kernel
theorem d_MO_answer_3 : decode m_MO_answer.2.1 3 = .ok (.iload_n 2, 1) := by decide +kernel
theorem d_MO_answer_4 : decode m_MO_answer.2.1 4 = .ok (.iload_n 3, 1) := by decide +kernel
theorem d_MO_answer_5 : decode m_MO_answer.2.1 5 = .ok (.invokevirtual 461, 3) := by decide +kernel
theorem d_MO_answer_8 : decode m_MO_answer.2.1 8 = .ok (.ifCond .eq 7, 3) := by decide +kernel
theorem d_MO_answer_11 : decode m_MO_answer.2.1 11 = .ok (.iconst 0, 1) := by decide +kernel
theorem d_MO_answer_12 : decode m_MO_answer.2.1 12 = .ok (.goto 4, 3) := by decide +kernel
theorem d_MO_answer_15 : decode m_MO_answer.2.1 15 = .ok (.iconst 1, 1) := by decide +kernel
theorem d_MO_answer_16 : decode m_MO_answer.2.1 16 = .ok (.invokevirtual 292, 3) := by decide +kernel
theorem d_MO_answer_19 : decode m_MO_answer.2.1 19 = .ok (.ifCond .eq 23, 3) := by decide +kernel
theorem d_MO_answer_22 : decode m_MO_answer.2.1 22 = .ok (.aload_n 0, 1) := by decide +kernel
theorem d_MO_answer_23 : decode m_MO_answer.2.1 23 = .ok (.getfield 150, 3) := by decide +kernel
theorem d_MO_answer_26 : decode m_MO_answer.2.1 26 = .ok (.sipush 1620, 3) := by decide +kernel
theorem d_MO_answer_29 : decode m_MO_answer.2.1 29 = .ok (.iload_n 1, 1) := by decide +kernel
theorem d_MO_answer_30 : decode m_MO_answer.2.1 30 = .ok (.imul, 1) := by decide +kernel
theorem d_MO_answer_31 : decode m_MO_answer.2.1 31 = .ok (.bipush 54, 2) := by decide +kernel
theorem d_MO_answer_33 : decode m_MO_answer.2.1 33 = .ok (.iload_n 2, 1) := by decide +kernel
theorem d_MO_answer_34 : decode m_MO_answer.2.1 34 = .ok (.imul, 1) := by decide +kernel
theorem d_MO_answer_35 : decode m_MO_answer.2.1 35 = .ok (.iadd, 1) := by decide +kernel
theorem d_MO_answer_36 : decode m_MO_answer.2.1 36 = .ok (.iload_n 3, 1) := by decide +kernel
theorem d_MO_answer_37 : decode m_MO_answer.2.1 37 = .ok (.iadd, 1) := by decide +kernel
theorem d_MO_answer_38 : decode m_MO_answer.2.1 38 = .ok (.iaload, 1) := by decide +kernel
theorem d_MO_answer_39 : decode m_MO_answer.2.1 39 = .ok (.goto 4, 3) := by decide +kernel
theorem d_MO_answer_42 : decode m_MO_answer.2.1 42 = .ok (.iconst 0, 1) := by decide +kernel
theorem d_MO_answer_43 : decode m_MO_answer.2.1 43 = .ok (.ireturn, 1) := by decide +kernel
theorem d_MO_answers_0 : decode m_MO_answers.2.1 0 = .ok (.aload_n 0, 1) := by decide +kernel
theorem d_MO_answers_1 : decode m_MO_answers.2.1 1 = .ok (.aload_n 0, 1) := by decide +kernel
theorem d_MO_answers_2 : decode m_MO_answers.2.1 2 = .ok (.iload_n 1, 1) := by decide +kernel
theorem d_MO_answers_3 : decode m_MO_answers.2.1 3 = .ok (.invokevirtual 426, 3) := by decide +kernel
theorem d_MO_answers_6 : decode m_MO_answers.2.1 6 = .ok (.ifCond .eq 7, 3) := by decide +kernel
theorem d_MO_answers_9 : decode m_MO_answers.2.1 9 = .ok (.iconst 0, 1) := by decide +kernel
theorem d_MO_answers_10 : decode m_MO_answers.2.1 10 = .ok (.goto 4, 3) := by decide +kernel
theorem d_MO_answers_13 : decode m_MO_answers.2.1 13 = .ok (.iconst 1, 1) := by decide +kernel
theorem d_MO_answers_14 : decode m_MO_answers.2.1 14 = .ok (.invokevirtual 292, 3) := by decide +kernel
theorem d_MO_answers_17 : decode m_MO_answers.2.1 17 = .ok (.ifCond .ne 5, 3) := by decide +kernel
theorem d_MO_answers_20 : decode m_MO_answers.2.1 20 = .ok (.iconst 0, 1) := by decide +kernel
theorem d_MO_answers_21 : decode m_MO_answers.2.1 21 = .ok (.ireturn, 1) := by decide +kernel
theorem d_MO_answers_22 : decode m_MO_answers.2.1 22 = .ok (.aload_n 0, 1) := by decide +kernel
theorem d_MO_answers_23 : decode m_MO_answers.2.1 23 = .ok (.iload_n 1, 1) := by decide +kernel
theorem d_MO_answers_24 : decode m_MO_answers.2.1 24 = .ok (.invokevirtual 429, 3) := by decide +kernel
theorem d_MO_answers_27 : decode m_MO_answers.2.1 27 = .ok (.aload_n 0, 1) := by decide +kernel
theorem d_MO_answers_28 : decode m_MO_answers.2.1 28 = .ok (.getfield 144, 3) := by decide +kernel
theorem d_MO_answers_31 : decode m_MO_answers.2.1 31 = .ok (.iload_n 1, 1) := by decide +kernel
theorem d_MO_answers_32 : decode m_MO_answers.2.1 32 = .ok (.iaload, 1) := by decide +kernel
theorem d_MO_answers_33 : decode m_MO_answers.2.1 33 = .ok (.ireturn, 1) := by decide +kernel
theorem d_MO_ask_0 : decode m_MO_ask.2.1 0 = .ok (.aload_n 0, 1) := by decide +kernel
theorem d_MO_ask_1 : decode m_MO_ask.2.1 1 = .ok (.iload_n 1, 1) := by decide +kernel
theorem d_MO_ask_2 : decode m_MO_ask.2.1 2 = .ok (.invokevirtual 432, 3) := by decide +kernel
theorem d_MO_ask_5 : decode m_MO_ask.2.1 5 = .ok (.ifCond .eq 21, 3) := by decide +kernel
theorem d_MO_ask_8 : decode m_MO_ask.2.1 8 = .ok (.iload_n 2, 1) := by decide +kernel
theorem d_MO_ask_9 : decode m_MO_ask.2.1 9 = .ok (.iconst (-1), 1) := by decide +kernel
theorem d_MO_ask_10 : decode m_MO_ask.2.1 10 = .ok (.if_icmp .eq 12, 3) := by decide +kernel
theorem d_MO_ask_13 : decode m_MO_ask.2.1 13 = .ok (.aload_n 0, 1) := by decide +kernel
theorem d_MO_ask_14 : decode m_MO_ask.2.1 14 = .ok (.iload_n 1, 1) := by decide +kernel
theorem d_MO_ask_15 : decode m_MO_ask.2.1 15 = .ok (.iload_n 2, 1) := by decide +kernel
theorem d_MO_ask_16 : decode m_MO_ask.2.1 16 = .ok (.invokevirtual 435, 3) := by decide +kernel
theorem d_MO_ask_19 : decode m_MO_ask.2.1 19 = .ok (.ifCond .eq 7, 3) := by decide +kernel
theorem d_MO_ask_22 : decode m_MO_ask.2.1 22 = .ok (.iconst 1, 1) := by decide +kernel
theorem d_MO_ask_23 : decode m_MO_ask.2.1 23 = .ok (.goto 4, 3) := by decide +kernel
theorem d_MO_ask_26 : decode m_MO_ask.2.1 26 = .ok (.iconst 0, 1) := by decide +kernel
theorem d_MO_ask_27 : decode m_MO_ask.2.1 27 = .ok (.istore_n 3, 1) := by decide +kernel
theorem d_MO_ask_28 : decode m_MO_ask.2.1 28 = .ok (.iload_n 3, 1) := by decide +kernel
theorem d_MO_ask_29 : decode m_MO_ask.2.1 29 = .ok (.ifCond .eq 29, 3) := by decide +kernel
theorem d_MO_ask_32 : decode m_MO_ask.2.1 32 = .ok (.aload_n 0, 1) := by decide +kernel
theorem d_MO_ask_33 : decode m_MO_ask.2.1 33 = .ok (.iload_n 1, 1) := by decide +kernel
theorem d_MO_ask_34 : decode m_MO_ask.2.1 34 = .ok (.invokevirtual 438, 3) := by decide +kernel
theorem d_MO_ask_37 : decode m_MO_ask.2.1 37 = .ok (.ifCond .ne 21, 3) := by decide +kernel
theorem d_MO_ask_40 : decode m_MO_ask.2.1 40 = .ok (.iload_n 2, 1) := by decide +kernel
theorem d_MO_ask_41 : decode m_MO_ask.2.1 41 = .ok (.iconst (-1), 1) := by decide +kernel
theorem d_MO_ask_42 : decode m_MO_ask.2.1 42 = .ok (.if_icmp .eq 12, 3) := by decide +kernel
theorem d_MO_ask_45 : decode m_MO_ask.2.1 45 = .ok (.aload_n 0, 1) := by decide +kernel
theorem d_MO_ask_46 : decode m_MO_ask.2.1 46 = .ok (.iload_n 1, 1) := by decide +kernel
theorem d_MO_ask_47 : decode m_MO_ask.2.1 47 = .ok (.iload_n 2, 1) := by decide +kernel
theorem d_MO_ask_48 : decode m_MO_ask.2.1 48 = .ok (.invokevirtual 441, 3) := by decide +kernel
theorem d_MO_ask_51 : decode m_MO_ask.2.1 51 = .ok (.ifCond .eq 7, 3) := by decide +kernel
theorem d_MO_ask_54 : decode m_MO_ask.2.1 54 = .ok (.iconst 1, 1) := by decide +kernel
theorem d_MO_ask_55 : decode m_MO_ask.2.1 55 = .ok (.goto 4, 3) := by decide +kernel
theorem d_MO_ask_58 : decode m_MO_ask.2.1 58 = .ok (.iconst 0, 1) := by decide +kernel
theorem d_MO_ask_59 : decode m_MO_ask.2.1 59 = .ok (.istore 4, 2) := by decide +kernel
theorem d_MO_ask_61 : decode m_MO_ask.2.1 61 = .ok (.aload_n 0, 1) := by decide +kernel
theorem d_MO_ask_62 : decode m_MO_ask.2.1 62 = .ok (.iload_n 3, 1) := by decide +kernel
theorem d_MO_ask_63 : decode m_MO_ask.2.1 63 = .ok (.ifCond .ne 7, 3) := by decide +kernel
theorem d_MO_ask_66 : decode m_MO_ask.2.1 66 = .ok (.iconst 1, 1) := by decide +kernel
theorem d_MO_ask_67 : decode m_MO_ask.2.1 67 = .ok (.goto 26, 3) := by decide +kernel
theorem d_MO_ask_70 : decode m_MO_ask.2.1 70 = .ok (.iload 4, 2) := by decide +kernel
theorem d_MO_ask_72 : decode m_MO_ask.2.1 72 = .ok (.ifCond .ne 7, 3) := by decide +kernel
theorem d_MO_ask_75 : decode m_MO_ask.2.1 75 = .ok (.iconst 2, 1) := by decide +kernel
theorem d_MO_ask_76 : decode m_MO_ask.2.1 76 = .ok (.goto 17, 3) := by decide +kernel
theorem d_MO_ask_79 : decode m_MO_ask.2.1 79 = .ok (.aload_n 0, 1) := by decide +kernel
theorem d_MO_ask_80 : decode m_MO_ask.2.1 80 = .ok (.getfield 345, 3) := by decide +kernel
theorem d_MO_ask_83 : decode m_MO_ask.2.1 83 = .ok (.bipush 8, 2) := by decide +kernel
theorem d_MO_ask_85 : decode m_MO_ask.2.1 85 = .ok (.if_icmp .ne 7, 3) := by decide +kernel
theorem d_MO_ask_88 : decode m_MO_ask.2.1 88 = .ok (.iconst 3, 1) := by decide +kernel
theorem d_MO_ask_89 : decode m_MO_ask.2.1 89 = .ok (.goto 4, 3) := by decide +kernel
theorem d_MO_ask_92 : decode m_MO_ask.2.1 92 = .ok (.iconst 0, 1) := by decide +kernel
theorem d_MO_ask_93 : decode m_MO_ask.2.1 93 = .ok (.invokevirtual 292, 3) := by decide +kernel
theorem d_MO_ask_96 : decode m_MO_ask.2.1 96 = .ok (.ifCond .ne 5, 3) := by decide +kernel
theorem d_MO_ask_99 : decode m_MO_ask.2.1 99 = .ok (.iconst 0, 1) := by decide +kernel
theorem d_MO_ask_100 : decode m_MO_ask.2.1 100 = .ok (.ireturn, 1) := by decide +kernel
theorem d_MO_ask_101 : decode m_MO_ask.2.1 101 = .ok (.aload_n 0, 1) := by decide +kernel
theorem d_MO_ask_102 : decode m_MO_ask.2.1 102 = .ok (.aload_n 0, 1) := by decide +kernel
theorem d_MO_ask_103 : decode m_MO_ask.2.1 103 = .ok (.getfield 345, 3) := by decide +kernel
theorem d_MO_ask_106 : decode m_MO_ask.2.1 106 = .ok (.iconst 1, 1) := by decide +kernel
theorem d_MO_ask_107 : decode m_MO_ask.2.1 107 = .ok (.isub, 1) := by decide +kernel
theorem d_MO_ask_108 : decode m_MO_ask.2.1 108 = .ok (.invokevirtual 429, 3) := by decide +kernel
theorem d_MO_ask_111 : decode m_MO_ask.2.1 111 = .ok (.aload_n 0, 1) := by decide +kernel
theorem d_MO_ask_112 : decode m_MO_ask.2.1 112 = .ok (.iconst 0, 1) := by decide +kernel
theorem d_MO_ask_113 : decode m_MO_ask.2.1 113 = .ok (.iload_n 1, 1) := by decide +kernel
theorem d_MO_ask_114 : decode m_MO_ask.2.1 114 = .ok (.invokevirtual 444, 3) := by decide +kernel
theorem d_MO_ask_117 : decode m_MO_ask.2.1 117 = .ok (.istore 5, 2) := by decide +kernel
theorem d_MO_ask_119 : decode m_MO_ask.2.1 119 = .ok (.iload_n 2, 1) := by decide +kernel
theorem d_MO_ask_120 : decode m_MO_ask.2.1 120 = .ok (.iconst (-1), 1) := by decide +kernel
theorem d_MO_ask_121 : decode m_MO_ask.2.1 121 = .ok (.if_icmp .eq 11, 3) := by decide +kernel
theorem d_MO_ask_124 : decode m_MO_ask.2.1 124 = .ok (.aload_n 0, 1) := by decide +kernel
theorem d_MO_ask_125 : decode m_MO_ask.2.1 125 = .ok (.iload 5, 2) := by decide +kernel
theorem d_MO_ask_127 : decode m_MO_ask.2.1 127 = .ok (.iload_n 1, 1) := by decide +kernel
theorem d_MO_ask_128 : decode m_MO_ask.2.1 128 = .ok (.iload_n 2, 1) := by decide +kernel
theorem d_MO_ask_129 : decode m_MO_ask.2.1 129 = .ok (.invokevirtual 447, 3) := by decide +kernel
theorem d_MO_ask_132 : decode m_MO_ask.2.1 132 = .ok (.iload 5, 2) := by decide +kernel
theorem d_MO_ask_134 : decode m_MO_ask.2.1 134 = .ok (.ireturn, 1) := by decide +kernel
theorem d_MO_askCross_0 : decode m_MO_askCross.2.1 0 = .ok (.aload_n 0, 1) := by decide +kernel
theorem d_MO_askCross_1 : decode m_MO_askCross.2.1 1 = .ok (.iconst 2, 1) := by decide +kernel
theorem d_MO_askCross_2 : decode m_MO_askCross.2.1 2 = .ok (.iload_n 1, 1) := by decide +kernel
theorem d_MO_askCross_3 : decode m_MO_askCross.2.1 3 = .ok (.iload_n 2, 1) := by decide +kernel
theorem d_MO_askCross_4 : decode m_MO_askCross.2.1 4 = .ok (.iload_n 3, 1) := by decide +kernel
theorem d_MO_askCross_5 : decode m_MO_askCross.2.1 5 = .ok (.iload 4, 2) := by decide +kernel
theorem d_MO_askCross_7 : decode m_MO_askCross.2.1 7 = .ok (.invokevirtual 458, 3) := by decide +kernel
theorem d_MO_askCross_10 : decode m_MO_askCross.2.1 10 = .ok (.ireturn, 1) := by decide +kernel
theorem d_MO_askGroups_0 : decode m_MO_askGroups.2.1 0 = .ok (.aload_n 0, 1) := by decide +kernel
theorem d_MO_askGroups_1 : decode m_MO_askGroups.2.1 1 = .ok (.iconst 1, 1) := by decide +kernel
theorem d_MO_askGroups_2 : decode m_MO_askGroups.2.1 2 = .ok (.iload_n 1, 1) := by decide +kernel
theorem d_MO_askGroups_3 : decode m_MO_askGroups.2.1 3 = .ok (.iload_n 2, 1) := by decide +kernel
theorem d_MO_askGroups_4 : decode m_MO_askGroups.2.1 4 = .ok (.iload_n 2, 1) := by decide +kernel
theorem d_MO_askGroups_5 : decode m_MO_askGroups.2.1 5 = .ok (.iload_n 3, 1) := by decide +kernel
theorem d_MO_askGroups_6 : decode m_MO_askGroups.2.1 6 = .ok (.invokevirtual 458, 3) := by decide +kernel
theorem d_MO_askGroups_9 : decode m_MO_askGroups.2.1 9 = .ok (.ireturn, 1) := by decide +kernel
theorem d_MO_asks_0 : decode m_MO_asks.2.1 0 = .ok (.aload_n 0, 1) := by decide +kernel
theorem d_MO_asks_1 : decode m_MO_asks.2.1 1 = .ok (.aload_n 0, 1) := by decide +kernel
theorem d_MO_asks_2 : decode m_MO_asks.2.1 2 = .ok (.iload_n 2, 1) := by decide +kernel
theorem d_MO_asks_3 : decode m_MO_asks.2.1 3 = .ok (.iload_n 3, 1) := by decide +kernel
theorem d_MO_asks_4 : decode m_MO_asks.2.1 4 = .ok (.iload 4, 2) := by decide +kernel
theorem d_MO_asks_6 : decode m_MO_asks.2.1 6 = .ok (.iload 5, 2) := by decide +kernel
theorem d_MO_asks_8 : decode m_MO_asks.2.1 8 = .ok (.invokevirtual 455, 3) := by decide +kernel
theorem d_MO_asks_11 : decode m_MO_asks.2.1 11 = .ok (.invokevirtual 292, 3) := by decide +kernel
theorem d_MO_asks_14 : decode m_MO_asks.2.1 14 = .ok (.ifCond .ne 5, 3) := by decide +kernel
theorem d_MO_asks_17 : decode m_MO_asks.2.1 17 = .ok (.iconst 0, 1) := by decide +kernel
theorem d_MO_asks_18 : decode m_MO_asks.2.1 18 = .ok (.ireturn, 1) := by decide +kernel
theorem d_MO_asks_19 : decode m_MO_asks.2.1 19 = .ok (.aload_n 0, 1) := by decide +kernel
theorem d_MO_asks_20 : decode m_MO_asks.2.1 20 = .ok (.iload_n 1, 1) := by decide +kernel
theorem d_MO_asks_21 : decode m_MO_asks.2.1 21 = .ok (.iload_n 2, 1) := by decide +kernel
theorem d_MO_asks_22 : decode m_MO_asks.2.1 22 = .ok (.invokevirtual 444, 3) := by decide +kernel
theorem d_MO_asks_25 : decode m_MO_asks.2.1 25 = .ok (.istore 6, 2) := by decide +kernel
theorem d_MO_asks_27 : decode m_MO_asks.2.1 27 = .ok (.aload_n 0, 1) := by decide +kernel
theorem d_MO_asks_28 : decode m_MO_asks.2.1 28 = .ok (.getfield 120, 3) := by decide +kernel
theorem d_MO_asks_31 : decode m_MO_asks.2.1 31 = .ok (.iload 6, 2) := by decide +kernel
theorem d_MO_asks_33 : decode m_MO_asks.2.1 33 = .ok (.iload_n 3, 1) := by decide +kernel
theorem d_MO_asks_34 : decode m_MO_asks.2.1 34 = .ok (.iastore, 1) := by decide +kernel
theorem d_MO_asks_35 : decode m_MO_asks.2.1 35 = .ok (.aload_n 0, 1) := by decide +kernel
theorem d_MO_asks_36 : decode m_MO_asks.2.1 36 = .ok (.getfield 123, 3) := by decide +kernel
theorem d_MO_asks_39 : decode m_MO_asks.2.1 39 = .ok (.iload 6, 2) := by decide +kernel
theorem d_MO_asks_41 : decode m_MO_asks.2.1 41 = .ok (.iload 4, 2) := by decide +kernel
theorem d_MO_asks_43 : decode m_MO_asks.2.1 43 = .ok (.iastore, 1) := by decide +kernel
theorem d_MO_asks_44 : decode m_MO_asks.2.1 44 = .ok (.aload_n 0, 1) := by decide +kernel
theorem d_MO_asks_45 : decode m_MO_asks.2.1 45 = .ok (.getfield 126, 3) := by decide +kernel
theorem d_MO_asks_48 : decode m_MO_asks.2.1 48 = .ok (.iload 6, 2) := by decide +kernel
theorem d_MO_asks_50 : decode m_MO_asks.2.1 50 = .ok (.iload 5, 2) := by decide +kernel
theorem d_MO_asks_52 : decode m_MO_asks.2.1 52 = .ok (.iastore, 1) := by decide +kernel
theorem d_MO_asks_53 : decode m_MO_asks.2.1 53 = .ok (.iload 6, 2) := by decide +kernel
theorem d_MO_asks_55 : decode m_MO_asks.2.1 55 = .ok (.ireturn, 1) := by decide +kernel
theorem d_MO_at_0 : decode m_MO_at.2.1 0 = .ok (.bipush 6, 2) := by decide +kernel
theorem d_MO_at_2 : decode m_MO_at.2.1 2 = .ok (.bipush 30, 2) := by decide +kernel
theorem d_MO_at_4 : decode m_MO_at.2.1 4 = .ok (.iload_n 0, 1) := by decide +kernel
theorem d_MO_at_5 : decode m_MO_at.2.1 5 = .ok (.imul, 1) := by decide +kernel
theorem d_MO_at_6 : decode m_MO_at.2.1 6 = .ok (.iload_n 1, 1) := by decide +kernel
theorem d_MO_at_7 : decode m_MO_at.2.1 7 = .ok (.iadd, 1) := by decide +kernel
theorem d_MO_at_8 : decode m_MO_at.2.1 8 = .ok (.imul, 1) := by decide +kernel
theorem d_MO_at_9 : decode m_MO_at.2.1 9 = .ok (.iload_n 2, 1) := by decide +kernel
theorem d_MO_at_10 : decode m_MO_at.2.1 10 = .ok (.iadd, 1) := by decide +kernel
theorem d_MO_at_11 : decode m_MO_at.2.1 11 = .ok (.ireturn, 1) := by decide +kernel
theorem d_MO_beyond_0 : decode m_MO_beyond.2.1 0 = .ok (.iconst 0, 1) := by decide +kernel
theorem d_MO_beyond_1 : decode m_MO_beyond.2.1 1 = .ok (.istore 6, 2) := by decide +kernel
theorem d_MO_beyond_3 : decode m_MO_beyond.2.1 3 = .ok (.iconst 0, 1) := by decide +kernel
theorem d_MO_beyond_4 : decode m_MO_beyond.2.1 4 = .ok (.istore 7, 2) := by decide +kernel
theorem d_MO_beyond_6 : decode m_MO_beyond.2.1 6 = .ok (.iload 7, 2) := by decide +kernel
theorem d_MO_beyond_8 : decode m_MO_beyond.2.1 8 = .ok (.aload_n 0, 1) := by decide +kernel
theorem d_MO_beyond_9 : decode m_MO_beyond.2.1 9 = .ok (.getfield 71, 3) := by decide +kernel
theorem d_MO_beyond_12 : decode m_MO_beyond.2.1 12 = .ok (.iload_n 1, 1) := by decide +kernel
theorem d_MO_beyond_13 : decode m_MO_beyond.2.1 13 = .ok (.iaload, 1) := by decide +kernel
theorem d_MO_beyond_14 : decode m_MO_beyond.2.1 14 = .ok (.if_icmp .ge 107, 3) := by decide +kernel
theorem d_MO_beyond_17 : decode m_MO_beyond.2.1 17 = .ok (.aload_n 0, 1) := by decide +kernel
theorem d_MO_beyond_18 : decode m_MO_beyond.2.1 18 = .ok (.getfield 77, 3) := by decide +kernel
theorem d_MO_beyond_21 : decode m_MO_beyond.2.1 21 = .ok (.iload_n 1, 1) := by decide +kernel
theorem d_MO_beyond_22 : decode m_MO_beyond.2.1 22 = .ok (.iload 7, 2) := by decide +kernel
theorem d_MO_beyond_24 : decode m_MO_beyond.2.1 24 = .ok (.iload_n 2, 1) := by decide +kernel
theorem d_MO_beyond_25 : decode m_MO_beyond.2.1 25 = .ok (.invokestatic 225, 3) := by decide +kernel
theorem d_MO_beyond_28 : decode m_MO_beyond.2.1 28 = .ok (.iaload, 1) := by decide +kernel
theorem d_MO_beyond_29 : decode m_MO_beyond.2.1 29 = .ok (.istore 8, 2) := by decide +kernel
theorem d_MO_beyond_31 : decode m_MO_beyond.2.1 31 = .ok (.aload_n 0, 1) := by decide +kernel
theorem d_MO_beyond_32 : decode m_MO_beyond.2.1 32 = .ok (.getfield 74, 3) := by decide +kernel
theorem d_MO_beyond_35 : decode m_MO_beyond.2.1 35 = .ok (.bipush 30, 2) := by decide +kernel
theorem d_MO_beyond_37 : decode m_MO_beyond.2.1 37 = .ok (.iload_n 1, 1) := by decide +kernel
theorem d_MO_beyond_38 : decode m_MO_beyond.2.1 38 = .ok (.imul, 1) := by decide +kernel
theorem d_MO_beyond_39 : decode m_MO_beyond.2.1 39 = .ok (.iload 7, 2) := by decide +kernel
theorem d_MO_beyond_41 : decode m_MO_beyond.2.1 41 = .ok (.iadd, 1) := by decide +kernel
theorem d_MO_beyond_42 : decode m_MO_beyond.2.1 42 = .ok (.baload, 1) := by decide +kernel
theorem d_MO_beyond_43 : decode m_MO_beyond.2.1 43 = .ok (.ifCond .eq 25, 3) := by decide +kernel
theorem d_MO_beyond_46 : decode m_MO_beyond.2.1 46 = .ok (.iload 8, 2) := by decide +kernel
theorem d_MO_beyond_48 : decode m_MO_beyond.2.1 48 = .ok (.ldc 186, 2) := by decide +kernel
theorem d_MO_beyond_50 : decode m_MO_beyond.2.1 50 = .ok (.if_icmp .eq 18, 3) := by decide +kernel
theorem d_MO_beyond_53 : decode m_MO_beyond.2.1 53 = .ok (.iload 8, 2) := by decide +kernel
theorem d_MO_beyond_55 : decode m_MO_beyond.2.1 55 = .ok (.iload_n 3, 1) := by decide +kernel
theorem d_MO_beyond_56 : decode m_MO_beyond.2.1 56 = .ok (.iload 4, 2) := by decide +kernel
theorem d_MO_beyond_58 : decode m_MO_beyond.2.1 58 = .ok (.invokestatic 190, 3) := by decide +kernel
theorem d_MO_beyond_61 : decode m_MO_beyond.2.1 61 = .ok (.ifCond .ne 7, 3) := by decide +kernel
theorem d_MO_beyond_64 : decode m_MO_beyond.2.1 64 = .ok (.iconst 1, 1) := by decide +kernel
theorem d_MO_beyond_65 : decode m_MO_beyond.2.1 65 = .ok (.goto 4, 3) := by decide +kernel
theorem d_MO_beyond_68 : decode m_MO_beyond.2.1 68 = .ok (.iconst 0, 1) := by decide +kernel
theorem d_MO_beyond_69 : decode m_MO_beyond.2.1 69 = .ok (.istore 9, 2) := by decide +kernel
theorem d_MO_beyond_71 : decode m_MO_beyond.2.1 71 = .ok (.iload 6, 2) := by decide +kernel
theorem d_MO_beyond_73 : decode m_MO_beyond.2.1 73 = .ok (.iload 9, 2) := by decide +kernel
theorem d_MO_beyond_75 : decode m_MO_beyond.2.1 75 = .ok (.ifCond .eq 7, 3) := by decide +kernel
theorem d_MO_beyond_78 : decode m_MO_beyond.2.1 78 = .ok (.iconst 1, 1) := by decide +kernel
theorem d_MO_beyond_79 : decode m_MO_beyond.2.1 79 = .ok (.goto 4, 3) := by decide +kernel
theorem d_MO_beyond_82 : decode m_MO_beyond.2.1 82 = .ok (.iconst 0, 1) := by decide +kernel
theorem d_MO_beyond_83 : decode m_MO_beyond.2.1 83 = .ok (.iadd, 1) := by decide +kernel
theorem d_MO_beyond_84 : decode m_MO_beyond.2.1 84 = .ok (.istore 6, 2) := by decide +kernel
theorem d_MO_beyond_86 : decode m_MO_beyond.2.1 86 = .ok (.aload_n 0, 1) := by decide +kernel
theorem d_MO_beyond_87 : decode m_MO_beyond.2.1 87 = .ok (.getfield 77, 3) := by decide +kernel
theorem d_MO_beyond_90 : decode m_MO_beyond.2.1 90 = .ok (.iload_n 1, 1) := by decide +kernel
theorem d_MO_beyond_91 : decode m_MO_beyond.2.1 91 = .ok (.iload 7, 2) := by decide +kernel
theorem d_MO_beyond_93 : decode m_MO_beyond.2.1 93 = .ok (.iload_n 2, 1) := by decide +kernel
theorem d_MO_beyond_94 : decode m_MO_beyond.2.1 94 = .ok (.invokestatic 225, 3) := by decide +kernel
theorem d_MO_beyond_97 : decode m_MO_beyond.2.1 97 = .ok (.iload 9, 2) := by decide +kernel
theorem d_MO_beyond_99 : decode m_MO_beyond.2.1 99 = .ok (.ifCond .eq 13, 3) := by decide +kernel
theorem d_MO_beyond_102 : decode m_MO_beyond.2.1 102 = .ok (.iload 5, 2) := by decide +kernel
theorem d_MO_beyond_104 : decode m_MO_beyond.2.1 104 = .ok (.ifCond .eq 8, 3) := by decide +kernel
theorem d_MO_beyond_107 : decode m_MO_beyond.2.1 107 = .ok (.ldc 186, 2) := by decide +kernel
theorem d_MO_beyond_109 : decode m_MO_beyond.2.1 109 = .ok (.goto 5, 3) := by decide +kernel
theorem d_MO_beyond_112 : decode m_MO_beyond.2.1 112 = .ok (.iload 8, 2) := by decide +kernel
theorem d_MO_beyond_114 : decode m_MO_beyond.2.1 114 = .ok (.iastore, 1) := by decide +kernel
theorem d_MO_beyond_115 : decode m_MO_beyond.2.1 115 = .ok (.iinc 7 1, 3) := by decide +kernel
theorem d_MO_beyond_118 : decode m_MO_beyond.2.1 118 = .ok (.goto (-112), 3) := by decide +kernel
theorem d_MO_beyond_121 : decode m_MO_beyond.2.1 121 = .ok (.iload 6, 2) := by decide +kernel
theorem d_MO_beyond_123 : decode m_MO_beyond.2.1 123 = .ok (.ireturn, 1) := by decide +kernel
theorem d_MO_broken_0 : decode m_MO_broken.2.1 0 = .ok (.aload_n 0, 1) := by decide +kernel
theorem d_MO_broken_1 : decode m_MO_broken.2.1 1 = .ok (.iconst 0, 1) := by decide +kernel
theorem d_MO_broken_2 : decode m_MO_broken.2.1 2 = .ok (.putfield 187, 3) := by decide +kernel
theorem d_MO_broken_5 : decode m_MO_broken.2.1 5 = .ok (.aload_n 0, 1) := by decide +kernel
theorem d_MO_broken_6 : decode m_MO_broken.2.1 6 = .ok (.iconst 0, 1) := by decide +kernel
theorem d_MO_broken_7 : decode m_MO_broken.2.1 7 = .ok (.invokevirtual 278, 3) := by decide +kernel
theorem d_MO_broken_10 : decode m_MO_broken.2.1 10 = .ok (.ireturn, 1) := by decide +kernel
theorem d_MO_brokenIn_0 : decode m_MO_brokenIn.2.1 0 = .ok (.iconst 0, 1) := by decide +kernel
theorem d_MO_brokenIn_1 : decode m_MO_brokenIn.2.1 1 = .ok (.istore 4, 2) := by decide +kernel
theorem d_MO_brokenIn_3 : decode m_MO_brokenIn.2.1 3 = .ok (.iconst 0, 1) := by decide +kernel
theorem d_MO_brokenIn_4 : decode m_MO_brokenIn.2.1 4 = .ok (.istore 5, 2) := by decide +kernel
theorem d_MO_brokenIn_6 : decode m_MO_brokenIn.2.1 6 = .ok (.iload 5, 2) := by decide +kernel
theorem d_MO_brokenIn_8 : decode m_MO_brokenIn.2.1 8 = .ok (.iconst 4, 1) := by decide +kernel
theorem d_MO_brokenIn_9 : decode m_MO_brokenIn.2.1 9 = .ok (.aload_n 0, 1) := by decide +kernel
theorem d_MO_brokenIn_10 : decode m_MO_brokenIn.2.1 10 = .ok (.getfield 7, 3) := by decide +kernel
theorem d_MO_brokenIn_13 : decode m_MO_brokenIn.2.1 13 = .ok (.iload_n 1, 1) := by decide +kernel
theorem d_MO_brokenIn_14 : decode m_MO_brokenIn.2.1 14 = .ok (.iaload, 1) := by decide +kernel
theorem d_MO_brokenIn_15 : decode m_MO_brokenIn.2.1 15 = .ok (.imul, 1) := by decide +kernel
theorem d_MO_brokenIn_16 : decode m_MO_brokenIn.2.1 16 = .ok (.if_icmp .ge 58, 3) := by decide +kernel
theorem d_MO_brokenIn_19 : decode m_MO_brokenIn.2.1 19 = .ok (.aload_n 0, 1) := by decide +kernel
theorem d_MO_brokenIn_20 : decode m_MO_brokenIn.2.1 20 = .ok (.iload_n 1, 1) := by decide +kernel
theorem d_MO_brokenIn_21 : decode m_MO_brokenIn.2.1 21 = .ok (.iload_n 2, 1) := by decide +kernel
theorem d_MO_brokenIn_22 : decode m_MO_brokenIn.2.1 22 = .ok (.iload 5, 2) := by decide +kernel
theorem d_MO_brokenIn_24 : decode m_MO_brokenIn.2.1 24 = .ok (.iconst 4, 1) := by decide +kernel
theorem d_MO_brokenIn_25 : decode m_MO_brokenIn.2.1 25 = .ok (.idiv, 1) := by decide +kernel
theorem d_MO_brokenIn_26 : decode m_MO_brokenIn.2.1 26 = .ok (.iconst 1, 1) := by decide +kernel
theorem d_MO_brokenIn_27 : decode m_MO_brokenIn.2.1 27 = .ok (.iload 5, 2) := by decide +kernel
theorem d_MO_brokenIn_29 : decode m_MO_brokenIn.2.1 29 = .ok (.iconst 4, 1) := by decide +kernel
theorem d_MO_brokenIn_30 : decode m_MO_brokenIn.2.1 30 = .ok (.irem, 1) := by decide +kernel
theorem d_MO_brokenIn_31 : decode m_MO_brokenIn.2.1 31 = .ok (.iadd, 1) := by decide +kernel
theorem d_MO_brokenIn_32 : decode m_MO_brokenIn.2.1 32 = .ok (.invokevirtual 257, 3) := by decide +kernel
theorem d_MO_brokenIn_35 : decode m_MO_brokenIn.2.1 35 = .ok (.ifCond .eq 33, 3) := by decide +kernel
theorem d_MO_brokenIn_38 : decode m_MO_brokenIn.2.1 38 = .ok (.iinc 4 1, 3) := by decide +kernel
theorem d_MO_brokenIn_41 : decode m_MO_brokenIn.2.1 41 = .ok (.iload_n 3, 1) := by decide +kernel
theorem d_MO_brokenIn_42 : decode m_MO_brokenIn.2.1 42 = .ok (.ifCond .eq 26, 3) := by decide +kernel
theorem d_MO_brokenIn_45 : decode m_MO_brokenIn.2.1 45 = .ok (.iload 4, 2) := by decide +kernel
theorem d_MO_brokenIn_47 : decode m_MO_brokenIn.2.1 47 = .ok (.iconst 1, 1) := by decide +kernel
theorem d_MO_brokenIn_48 : decode m_MO_brokenIn.2.1 48 = .ok (.if_icmp .ne 20, 3) := by decide +kernel
theorem d_MO_brokenIn_51 : decode m_MO_brokenIn.2.1 51 = .ok (.aload_n 0, 1) := by decide +kernel
theorem d_MO_brokenIn_52 : decode m_MO_brokenIn.2.1 52 = .ok (.iconst 1, 1) := by decide +kernel
theorem d_MO_brokenIn_53 : decode m_MO_brokenIn.2.1 53 = .ok (.iload 5, 2) := by decide +kernel
theorem d_MO_brokenIn_55 : decode m_MO_brokenIn.2.1 55 = .ok (.iconst 4, 1) := by decide +kernel
theorem d_MO_brokenIn_56 : decode m_MO_brokenIn.2.1 56 = .ok (.irem, 1) := by decide +kernel
theorem d_MO_brokenIn_57 : decode m_MO_brokenIn.2.1 57 = .ok (.iadd, 1) := by decide +kernel
theorem d_MO_brokenIn_58 : decode m_MO_brokenIn.2.1 58 = .ok (.iload_n 1, 1) := by decide +kernel
theorem d_MO_brokenIn_59 : decode m_MO_brokenIn.2.1 59 = .ok (.iload_n 2, 1) := by decide +kernel
theorem d_MO_brokenIn_60 : decode m_MO_brokenIn.2.1 60 = .ok (.iload 5, 2) := by decide +kernel
theorem d_MO_brokenIn_62 : decode m_MO_brokenIn.2.1 62 = .ok (.iconst 4, 1) := by decide +kernel
theorem d_MO_brokenIn_63 : decode m_MO_brokenIn.2.1 63 = .ok (.idiv, 1) := by decide +kernel
theorem d_MO_brokenIn_64 : decode m_MO_brokenIn.2.1 64 = .ok (.invokevirtual 261, 3) := by decide +kernel
theorem d_MO_brokenIn_67 : decode m_MO_brokenIn.2.1 67 = .ok (.pop, 1) := by decide +kernel
theorem d_MO_brokenIn_68 : decode m_MO_brokenIn.2.1 68 = .ok (.iinc 5 1, 3) := by decide +kernel
theorem d_MO_brokenIn_71 : decode m_MO_brokenIn.2.1 71 = .ok (.goto (-65), 3) := by decide +kernel
theorem d_MO_brokenIn_74 : decode m_MO_brokenIn.2.1 74 = .ok (.iconst 0, 1) := by decide +kernel
theorem d_MO_brokenIn_75 : decode m_MO_brokenIn.2.1 75 = .ok (.istore 5, 2) := by decide +kernel
theorem d_MO_brokenIn_77 : decode m_MO_brokenIn.2.1 77 = .ok (.iload 5, 2) := by decide +kernel
theorem d_MO_brokenIn_79 : decode m_MO_brokenIn.2.1 79 = .ok (.aload_n 0, 1) := by decide +kernel
theorem d_MO_brokenIn_80 : decode m_MO_brokenIn.2.1 80 = .ok (.getfield 265, 3) := by decide +kernel
theorem d_MO_brokenIn_83 : decode m_MO_brokenIn.2.1 83 = .ok (.if_icmp .ge 63, 3) := by decide +kernel
theorem d_MO_brokenIn_86 : decode m_MO_brokenIn.2.1 86 = .ok (.aload_n 0, 1) := by decide +kernel
theorem d_MO_brokenIn_87 : decode m_MO_brokenIn.2.1 87 = .ok (.getfield 68, 3) := by decide +kernel
theorem d_MO_brokenIn_90 : decode m_MO_brokenIn.2.1 90 = .ok (.iload 5, 2) := by decide +kernel
theorem d_MO_brokenIn_92 : decode m_MO_brokenIn.2.1 92 = .ok (.baload, 1) := by decide +kernel
theorem d_MO_brokenIn_93 : decode m_MO_brokenIn.2.1 93 = .ok (.ifCond .ne 47, 3) := by decide +kernel
theorem d_MO_brokenIn_96 : decode m_MO_brokenIn.2.1 96 = .ok (.aload_n 0, 1) := by decide +kernel
theorem d_MO_brokenIn_97 : decode m_MO_brokenIn.2.1 97 = .ok (.getfield 53, 3) := by decide +kernel
theorem d_MO_brokenIn_100 : decode m_MO_brokenIn.2.1 100 = .ok (.iload 5, 2) := by decide +kernel
theorem d_MO_brokenIn_102 : decode m_MO_brokenIn.2.1 102 = .ok (.iaload, 1) := by decide +kernel
theorem d_MO_brokenIn_103 : decode m_MO_brokenIn.2.1 103 = .ok (.iload_n 1, 1) := by decide +kernel
theorem d_MO_brokenIn_104 : decode m_MO_brokenIn.2.1 104 = .ok (.if_icmp .ne 36, 3) := by decide +kernel
theorem d_MO_brokenIn_107 : decode m_MO_brokenIn.2.1 107 = .ok (.aload_n 0, 1) := by decide +kernel
theorem d_MO_brokenIn_108 : decode m_MO_brokenIn.2.1 108 = .ok (.iload 5, 2) := by decide +kernel
theorem d_MO_brokenIn_110 : decode m_MO_brokenIn.2.1 110 = .ok (.iload_n 2, 1) := by decide +kernel
theorem d_MO_brokenIn_111 : decode m_MO_brokenIn.2.1 111 = .ok (.invokevirtual 268, 3) := by decide +kernel
theorem d_MO_brokenIn_114 : decode m_MO_brokenIn.2.1 114 = .ok (.ifCond .ne 26, 3) := by decide +kernel
theorem d_MO_brokenIn_117 : decode m_MO_brokenIn.2.1 117 = .ok (.iinc 4 1, 3) := by decide +kernel
theorem d_MO_brokenIn_120 : decode m_MO_brokenIn.2.1 120 = .ok (.iload_n 3, 1) := by decide +kernel
theorem d_MO_brokenIn_121 : decode m_MO_brokenIn.2.1 121 = .ok (.ifCond .eq 19, 3) := by decide +kernel
theorem d_MO_brokenIn_124 : decode m_MO_brokenIn.2.1 124 = .ok (.iload 4, 2) := by decide +kernel
theorem d_MO_brokenIn_126 : decode m_MO_brokenIn.2.1 126 = .ok (.iconst 1, 1) := by decide +kernel
theorem d_MO_brokenIn_127 : decode m_MO_brokenIn.2.1 127 = .ok (.if_icmp .ne 13, 3) := by decide +kernel
theorem d_MO_brokenIn_130 : decode m_MO_brokenIn.2.1 130 = .ok (.aload_n 0, 1) := by decide +kernel
theorem d_MO_brokenIn_131 : decode m_MO_brokenIn.2.1 131 = .ok (.iconst 5, 1) := by decide +kernel
theorem d_MO_brokenIn_132 : decode m_MO_brokenIn.2.1 132 = .ok (.iload_n 1, 1) := by decide +kernel
theorem d_MO_brokenIn_133 : decode m_MO_brokenIn.2.1 133 = .ok (.iload_n 2, 1) := by decide +kernel
theorem d_MO_brokenIn_134 : decode m_MO_brokenIn.2.1 134 = .ok (.iload 5, 2) := by decide +kernel
theorem d_MO_brokenIn_136 : decode m_MO_brokenIn.2.1 136 = .ok (.invokevirtual 261, 3) := by decide +kernel
theorem d_MO_brokenIn_139 : decode m_MO_brokenIn.2.1 139 = .ok (.pop, 1) := by decide +kernel
theorem d_MO_brokenIn_140 : decode m_MO_brokenIn.2.1 140 = .ok (.iinc 5 1, 3) := by decide +kernel
theorem d_MO_brokenIn_143 : decode m_MO_brokenIn.2.1 143 = .ok (.goto (-66), 3) := by decide +kernel
theorem d_MO_brokenIn_146 : decode m_MO_brokenIn.2.1 146 = .ok (.iload 4, 2) := by decide +kernel
theorem d_MO_brokenIn_148 : decode m_MO_brokenIn.2.1 148 = .ok (.ireturn, 1) := by decide +kernel
theorem d_MO_cell_0 : decode m_MO_cell.2.1 0 = .ok (.aload_n 0, 1) := by decide +kernel
theorem d_MO_cell_1 : decode m_MO_cell.2.1 1 = .ok (.aload_n 0, 1) := by decide +kernel
theorem d_MO_cell_2 : decode m_MO_cell.2.1 2 = .ok (.iload_n 1, 1) := by decide +kernel
theorem d_MO_cell_3 : decode m_MO_cell.2.1 3 = .ok (.iload_n 2, 1) := by decide +kernel
theorem d_MO_cell_4 : decode m_MO_cell.2.1 4 = .ok (.invokevirtual 233, 3) := by decide +kernel
theorem d_MO_cell_7 : decode m_MO_cell.2.1 7 = .ok (.ifCond .eq 16, 3) := by decide +kernel
theorem d_MO_cell_10 : decode m_MO_cell.2.1 10 = .ok (.aload_n 0, 1) := by decide +kernel
theorem d_MO_cell_11 : decode m_MO_cell.2.1 11 = .ok (.iload_n 1, 1) := by decide +kernel
theorem d_MO_cell_12 : decode m_MO_cell.2.1 12 = .ok (.iload_n 3, 1) := by decide +kernel
theorem d_MO_cell_13 : decode m_MO_cell.2.1 13 = .ok (.invokevirtual 305, 3) := by decide +kernel
theorem d_MO_cell_16 : decode m_MO_cell.2.1 16 = .ok (.ifCond .eq 7, 3) := by decide +kernel
theorem d_MO_cell_19 : decode m_MO_cell.2.1 19 = .ok (.iconst 0, 1) := by decide +kernel
theorem d_MO_cell_20 : decode m_MO_cell.2.1 20 = .ok (.goto 4, 3) := by decide +kernel
theorem d_MO_cell_23 : decode m_MO_cell.2.1 23 = .ok (.iconst 1, 1) := by decide +kernel
theorem d_MO_cell_24 : decode m_MO_cell.2.1 24 = .ok (.invokevirtual 292, 3) := by decide +kernel
theorem d_MO_cell_27 : decode m_MO_cell.2.1 27 = .ok (.ifCond .eq 17, 3) := by decide +kernel
theorem d_MO_cell_30 : decode m_MO_cell.2.1 30 = .ok (.aload_n 0, 1) := by decide +kernel
theorem d_MO_cell_31 : decode m_MO_cell.2.1 31 = .ok (.getfield 77, 3) := by decide +kernel
theorem d_MO_cell_34 : decode m_MO_cell.2.1 34 = .ok (.iload_n 1, 1) := by decide +kernel
theorem d_MO_cell_35 : decode m_MO_cell.2.1 35 = .ok (.iload_n 2, 1) := by decide +kernel
theorem d_MO_cell_36 : decode m_MO_cell.2.1 36 = .ok (.iload_n 3, 1) := by decide +kernel
theorem d_MO_cell_37 : decode m_MO_cell.2.1 37 = .ok (.invokestatic 225, 3) := by decide +kernel
theorem d_MO_cell_40 : decode m_MO_cell.2.1 40 = .ok (.iaload, 1) := by decide +kernel
theorem d_MO_cell_41 : decode m_MO_cell.2.1 41 = .ok (.goto 4, 3) := by decide +kernel
theorem d_MO_cell_44 : decode m_MO_cell.2.1 44 = .ok (.iconst 0, 1) := by decide +kernel
theorem d_MO_cell_45 : decode m_MO_cell.2.1 45 = .ok (.ireturn, 1) := by decide +kernel
theorem d_MO_choice_0 : decode m_MO_choice.2.1 0 = .ok (.aload_n 0, 1) := by decide +kernel
theorem d_MO_choice_1 : decode m_MO_choice.2.1 1 = .ok (.iload_n 1, 1) := by decide +kernel
theorem d_MO_choice_2 : decode m_MO_choice.2.1 2 = .ok (.iload_n 2, 1) := by decide +kernel
theorem d_MO_choice_3 : decode m_MO_choice.2.1 3 = .ok (.invokevirtual 233, 3) := by decide +kernel
theorem d_MO_choice_6 : decode m_MO_choice.2.1 6 = .ok (.ifCond .eq 16, 3) := by decide +kernel
theorem d_MO_choice_9 : decode m_MO_choice.2.1 9 = .ok (.aload_n 0, 1) := by decide +kernel
theorem d_MO_choice_10 : decode m_MO_choice.2.1 10 = .ok (.iload_n 1, 1) := by decide +kernel
theorem d_MO_choice_11 : decode m_MO_choice.2.1 11 = .ok (.iload_n 3, 1) := by decide +kernel
theorem d_MO_choice_12 : decode m_MO_choice.2.1 12 = .ok (.invokevirtual 305, 3) := by decide +kernel
theorem d_MO_choice_15 : decode m_MO_choice.2.1 15 = .ok (.ifCond .eq 7, 3) := by decide +kernel
theorem d_MO_choice_18 : decode m_MO_choice.2.1 18 = .ok (.iconst 1, 1) := by decide +kernel
theorem d_MO_choice_19 : decode m_MO_choice.2.1 19 = .ok (.goto 4, 3) := by decide +kernel
theorem d_MO_choice_22 : decode m_MO_choice.2.1 22 = .ok (.iconst 0, 1) := by decide +kernel
theorem d_MO_choice_23 : decode m_MO_choice.2.1 23 = .ok (.istore 5, 2) := by decide +kernel
theorem d_MO_choice_25 : decode m_MO_choice.2.1 25 = .ok (.aload_n 0, 1) := by decide +kernel
theorem d_MO_choice_26 : decode m_MO_choice.2.1 26 = .ok (.iload 5, 2) := by decide +kernel
theorem d_MO_choice_28 : decode m_MO_choice.2.1 28 = .ok (.ifCond .ne 7, 3) := by decide +kernel
theorem d_MO_choice_31 : decode m_MO_choice.2.1 31 = .ok (.iconst 1, 1) := by decide +kernel
theorem d_MO_choice_32 : decode m_MO_choice.2.1 32 = .ok (.goto 23, 3) := by decide +kernel
theorem d_MO_choice_35 : decode m_MO_choice.2.1 35 = .ok (.aload_n 0, 1) := by decide +kernel
theorem d_MO_choice_36 : decode m_MO_choice.2.1 36 = .ok (.iload_n 1, 1) := by decide +kernel
theorem d_MO_choice_37 : decode m_MO_choice.2.1 37 = .ok (.iload_n 3, 1) := by decide +kernel
theorem d_MO_choice_38 : decode m_MO_choice.2.1 38 = .ok (.invokevirtual 308, 3) := by decide +kernel
theorem d_MO_choice_41 : decode m_MO_choice.2.1 41 = .ok (.iconst 1, 1) := by decide +kernel
theorem d_MO_choice_42 : decode m_MO_choice.2.1 42 = .ok (.if_icmp .ne 12, 3) := by decide +kernel
theorem d_MO_choice_45 : decode m_MO_choice.2.1 45 = .ok (.iload 4, 2) := by decide +kernel
theorem d_MO_choice_47 : decode m_MO_choice.2.1 47 = .ok (.ifCond .lt 7, 3) := by decide +kernel
theorem d_MO_choice_50 : decode m_MO_choice.2.1 50 = .ok (.iconst 0, 1) := by decide +kernel
theorem d_MO_choice_51 : decode m_MO_choice.2.1 51 = .ok (.goto 4, 3) := by decide +kernel
theorem d_MO_choice_54 : decode m_MO_choice.2.1 54 = .ok (.iconst 2, 1) := by decide +kernel
theorem d_MO_choice_55 : decode m_MO_choice.2.1 55 = .ok (.invokevirtual 292, 3) := by decide +kernel
theorem d_MO_choice_58 : decode m_MO_choice.2.1 58 = .ok (.ifCond .ne 5, 3) := by decide +kernel
theorem d_MO_choice_61 : decode m_MO_choice.2.1 61 = .ok (.iconst 0, 1) := by decide +kernel
theorem d_MO_choice_62 : decode m_MO_choice.2.1 62 = .ok (.ireturn, 1) := by decide +kernel
theorem d_MO_choice_63 : decode m_MO_choice.2.1 63 = .ok (.aload_n 0, 1) := by decide +kernel
theorem d_MO_choice_64 : decode m_MO_choice.2.1 64 = .ok (.getfield 205, 3) := by decide +kernel
theorem d_MO_choice_67 : decode m_MO_choice.2.1 67 = .ok (.istore 6, 2) := by decide +kernel
theorem d_MO_choice_69 : decode m_MO_choice.2.1 69 = .ok (.aload_n 0, 1) := by decide +kernel
theorem d_MO_choice_70 : decode m_MO_choice.2.1 70 = .ok (.getfield 90, 3) := by decide +kernel
theorem d_MO_choice_73 : decode m_MO_choice.2.1 73 = .ok (.istore 7, 2) := by decide +kernel
theorem d_MO_choice_75 : decode m_MO_choice.2.1 75 = .ok (.aload_n 0, 1) := by decide +kernel
theorem d_MO_choice_76 : decode m_MO_choice.2.1 76 = .ok (.getfield 93, 3) := by decide +kernel
theorem d_MO_choice_79 : decode m_MO_choice.2.1 79 = .ok (.istore 8, 2) := by decide +kernel
theorem d_MO_choice_81 : decode m_MO_choice.2.1 81 = .ok (.aload_n 0, 1) := by decide +kernel
theorem d_MO_choice_82 : decode m_MO_choice.2.1 82 = .ok (.getfield 96, 3) := by decide +kernel
theorem d_MO_choice_85 : decode m_MO_choice.2.1 85 = .ok (.istore 9, 2) := by decide +kernel
theorem d_MO_choice_87 : decode m_MO_choice.2.1 87 = .ok (.aload_n 0, 1) := by decide +kernel
theorem d_MO_choice_88 : decode m_MO_choice.2.1 88 = .ok (.getfield 22, 3) := by decide +kernel
theorem d_MO_choice_91 : decode m_MO_choice.2.1 91 = .ok (.bipush 6, 2) := by decide +kernel
theorem d_MO_choice_93 : decode m_MO_choice.2.1 93 = .ok (.iload_n 1, 1) := by decide +kernel
theorem d_MO_choice_94 : decode m_MO_choice.2.1 94 = .ok (.imul, 1) := by decide +kernel
theorem d_MO_choice_95 : decode m_MO_choice.2.1 95 = .ok (.iload_n 3, 1) := by decide +kernel
theorem d_MO_choice_96 : decode m_MO_choice.2.1 96 = .ok (.iadd, 1) := by decide +kernel
theorem d_MO_choice_97 : decode m_MO_choice.2.1 97 = .ok (.iaload, 1) := by decide +kernel
theorem d_MO_choice_98 : decode m_MO_choice.2.1 98 = .ok (.istore 10, 2) := by decide +kernel
theorem d_MO_choice_100 : decode m_MO_choice.2.1 100 = .ok (.iload 4, 2) := by decide +kernel
theorem d_MO_choice_102 : decode m_MO_choice.2.1 102 = .ok (.istore 11, 2) := by decide +kernel
theorem d_MO_choice_104 : decode m_MO_choice.2.1 104 = .ok (.iload 11, 2) := by decide +kernel
theorem d_MO_choice_106 : decode m_MO_choice.2.1 106 = .ok (.aload_n 0, 1) := by decide +kernel
theorem d_MO_choice_107 : decode m_MO_choice.2.1 107 = .ok (.getfield 71, 3) := by decide +kernel
theorem d_MO_choice_110 : decode m_MO_choice.2.1 110 = .ok (.iload 10, 2) := by decide +kernel
theorem d_MO_choice_112 : decode m_MO_choice.2.1 112 = .ok (.iaload, 1) := by decide +kernel
theorem d_MO_choice_113 : decode m_MO_choice.2.1 113 = .ok (.if_icmp .ge 32, 3) := by decide +kernel
theorem d_MO_choice_116 : decode m_MO_choice.2.1 116 = .ok (.aload_n 0, 1) := by decide +kernel
theorem d_MO_choice_117 : decode m_MO_choice.2.1 117 = .ok (.iload 10, 2) := by decide +kernel
theorem d_MO_choice_119 : decode m_MO_choice.2.1 119 = .ok (.iload 11, 2) := by decide +kernel
theorem d_MO_choice_121 : decode m_MO_choice.2.1 121 = .ok (.invokevirtual 233, 3) := by decide +kernel
theorem d_MO_choice_124 : decode m_MO_choice.2.1 124 = .ok (.ifCond .eq 15, 3) := by decide +kernel
theorem d_MO_choice_127 : decode m_MO_choice.2.1 127 = .ok (.aload_n 0, 1) := by decide +kernel
theorem d_MO_choice_128 : decode m_MO_choice.2.1 128 = .ok (.iload_n 1, 1) := by decide +kernel
theorem d_MO_choice_129 : decode m_MO_choice.2.1 129 = .ok (.iload_n 2, 1) := by decide +kernel
theorem d_MO_choice_130 : decode m_MO_choice.2.1 130 = .ok (.iload_n 3, 1) := by decide +kernel
theorem d_MO_choice_131 : decode m_MO_choice.2.1 131 = .ok (.iload 11, 2) := by decide +kernel
theorem d_MO_choice_133 : decode m_MO_choice.2.1 133 = .ok (.invokevirtual 385, 3) := by decide +kernel
theorem d_MO_choice_136 : decode m_MO_choice.2.1 136 = .ok (.ifCond .ne 9, 3) := by decide +kernel
theorem d_MO_choice_139 : decode m_MO_choice.2.1 139 = .ok (.iinc 11 1, 3) := by decide +kernel
theorem d_MO_choice_142 : decode m_MO_choice.2.1 142 = .ok (.goto (-38), 3) := by decide +kernel
theorem d_MO_choice_145 : decode m_MO_choice.2.1 145 = .ok (.aload_n 0, 1) := by decide +kernel
theorem d_MO_choice_146 : decode m_MO_choice.2.1 146 = .ok (.iload 6, 2) := by decide +kernel
theorem d_MO_choice_148 : decode m_MO_choice.2.1 148 = .ok (.iload 7, 2) := by decide +kernel
theorem d_MO_choice_150 : decode m_MO_choice.2.1 150 = .ok (.iload 8, 2) := by decide +kernel
theorem d_MO_choice_152 : decode m_MO_choice.2.1 152 = .ok (.iload 9, 2) := by decide +kernel
theorem d_MO_choice_154 : decode m_MO_choice.2.1 154 = .ok (.invokevirtual 261, 3) := by decide +kernel
theorem d_MO_choice_157 : decode m_MO_choice.2.1 157 = .ok (.pop, 1) := by decide +kernel
theorem d_MO_choice_158 : decode m_MO_choice.2.1 158 = .ok (.iload 11, 2) := by decide +kernel
theorem d_MO_choice_160 : decode m_MO_choice.2.1 160 = .ok (.aload_n 0, 1) := by decide +kernel
theorem d_MO_choice_161 : decode m_MO_choice.2.1 161 = .ok (.getfield 71, 3) := by decide +kernel
theorem d_MO_choice_164 : decode m_MO_choice.2.1 164 = .ok (.iload 10, 2) := by decide +kernel
theorem d_MO_choice_166 : decode m_MO_choice.2.1 166 = .ok (.iaload, 1) := by decide +kernel
theorem d_MO_choice_167 : decode m_MO_choice.2.1 167 = .ok (.if_icmp .ge 8, 3) := by decide +kernel
theorem d_MO_choice_170 : decode m_MO_choice.2.1 170 = .ok (.iload 11, 2) := by decide +kernel
theorem d_MO_choice_172 : decode m_MO_choice.2.1 172 = .ok (.goto 4, 3) := by decide +kernel
theorem d_MO_choice_175 : decode m_MO_choice.2.1 175 = .ok (.iconst (-1), 1) := by decide +kernel
theorem d_MO_choice_176 : decode m_MO_choice.2.1 176 = .ok (.ireturn, 1) := by decide +kernel
theorem d_MO_clearDraft_0 : decode m_MO_clearDraft.2.1 0 = .ok (.aload_n 0, 1) := by decide +kernel
theorem d_MO_clearDraft_1 : decode m_MO_clearDraft.2.1 1 = .ok (.iconst 0, 1) := by decide +kernel
theorem d_MO_clearDraft_2 : decode m_MO_clearDraft.2.1 2 = .ok (.putfield 187, 3) := by decide +kernel
theorem d_MO_clearDraft_5 : decode m_MO_clearDraft.2.1 5 = .ok (.aload_n 0, 1) := by decide +kernel
theorem d_MO_clearDraft_6 : decode m_MO_clearDraft.2.1 6 = .ok (.invokevirtual 357, 3) := by decide +kernel
theorem d_MO_clearDraft_9 : decode m_MO_clearDraft.2.1 9 = .ok (.ireturn, 1) := by decide +kernel
theorem d_MO_columns_0 : decode m_MO_columns.2.1 0 = .ok (.aload_n 0, 1) := by decide +kernel
theorem d_MO_columns_1 : decode m_MO_columns.2.1 1 = .ok (.aload_n 0, 1) := by decide +kernel
theorem d_MO_columns_2 : decode m_MO_columns.2.1 2 = .ok (.iload_n 1, 1) := by decide +kernel
theorem d_MO_columns_3 : decode m_MO_columns.2.1 3 = .ok (.invokevirtual 426, 3) := by decide +kernel
theorem d_MO_columns_6 : decode m_MO_columns.2.1 6 = .ok (.ifCond .eq 7, 3) := by decide +kernel
theorem d_MO_columns_9 : decode m_MO_columns.2.1 9 = .ok (.iconst 0, 1) := by decide +kernel
theorem d_MO_columns_10 : decode m_MO_columns.2.1 10 = .ok (.goto 4, 3) := by decide +kernel
theorem d_MO_columns_13 : decode m_MO_columns.2.1 13 = .ok (.iconst 1, 1) := by decide +kernel
theorem d_MO_columns_14 : decode m_MO_columns.2.1 14 = .ok (.invokevirtual 292, 3) := by decide +kernel
theorem d_MO_columns_17 : decode m_MO_columns.2.1 17 = .ok (.ifCond .ne 5, 3) := by decide +kernel
theorem d_MO_columns_20 : decode m_MO_columns.2.1 20 = .ok (.iconst 0, 1) := by decide +kernel
theorem d_MO_columns_21 : decode m_MO_columns.2.1 21 = .ok (.ireturn, 1) := by decide +kernel
theorem d_MO_columns_22 : decode m_MO_columns.2.1 22 = .ok (.aload_n 0, 1) := by decide +kernel
theorem d_MO_columns_23 : decode m_MO_columns.2.1 23 = .ok (.iload_n 1, 1) := by decide +kernel
theorem d_MO_columns_24 : decode m_MO_columns.2.1 24 = .ok (.invokevirtual 429, 3) := by decide +kernel
theorem d_MO_columns_27 : decode m_MO_columns.2.1 27 = .ok (.aload_n 0, 1) := by decide +kernel
theorem d_MO_columns_28 : decode m_MO_columns.2.1 28 = .ok (.getfield 147, 3) := by decide +kernel
theorem d_MO_columns_31 : decode m_MO_columns.2.1 31 = .ok (.iload_n 1, 1) := by decide +kernel
theorem d_MO_columns_32 : decode m_MO_columns.2.1 32 = .ok (.iaload, 1) := by decide +kernel
theorem d_MO_columns_33 : decode m_MO_columns.2.1 33 = .ok (.ireturn, 1) := by decide +kernel
theorem d_MO_condition_0 : decode m_MO_condition.2.1 0 = .ok (.aload_n 0, 1) := by decide +kernel
theorem d_MO_condition_1 : decode m_MO_condition.2.1 1 = .ok (.iload_n 1, 1) := by decide +kernel
theorem d_MO_condition_2 : decode m_MO_condition.2.1 2 = .ok (.iload_n 3, 1) := by decide +kernel
theorem d_MO_condition_3 : decode m_MO_condition.2.1 3 = .ok (.invokevirtual 450, 3) := by decide +kernel
theorem d_MO_condition_6 : decode m_MO_condition.2.1 6 = .ok (.istore 6, 2) := by decide +kernel
theorem d_MO_condition_8 : decode m_MO_condition.2.1 8 = .ok (.iload_n 2, 1) := by decide +kernel
theorem d_MO_condition_9 : decode m_MO_condition.2.1 9 = .ok (.iconst 0, 1) := by decide +kernel
theorem d_MO_condition_10 : decode m_MO_condition.2.1 10 = .ok (.iconst 2, 1) := by decide +kernel
theorem d_MO_condition_11 : decode m_MO_condition.2.1 11 = .ok (.invokestatic 190, 3) := by decide +kernel
theorem d_MO_condition_14 : decode m_MO_condition.2.1 14 = .ok (.ifCond .eq 31, 3) := by decide +kernel
theorem d_MO_condition_17 : decode m_MO_condition.2.1 17 = .ok (.iload 4, 2) := by decide +kernel
theorem d_MO_condition_19 : decode m_MO_condition.2.1 19 = .ok (.iconst 0, 1) := by decide +kernel
theorem d_MO_condition_20 : decode m_MO_condition.2.1 20 = .ok (.iconst 3, 1) := by decide +kernel
theorem d_MO_condition_21 : decode m_MO_condition.2.1 21 = .ok (.invokestatic 190, 3) := by decide +kernel
theorem d_MO_condition_24 : decode m_MO_condition.2.1 24 = .ok (.ifCond .eq 21, 3) := by decide +kernel
theorem d_MO_condition_27 : decode m_MO_condition.2.1 27 = .ok (.iload 5, 2) := by decide +kernel
theorem d_MO_condition_29 : decode m_MO_condition.2.1 29 = .ok (.ldc_w 453, 3) := by decide +kernel
theorem d_MO_condition_32 : decode m_MO_condition.2.1 32 = .ok (.ldc_w 454, 3) := by decide +kernel
theorem d_MO_condition_35 : decode m_MO_condition.2.1 35 = .ok (.invokestatic 190, 3) := by decide +kernel
theorem d_MO_condition_38 : decode m_MO_condition.2.1 38 = .ok (.ifCond .eq 7, 3) := by decide +kernel
theorem d_MO_condition_41 : decode m_MO_condition.2.1 41 = .ok (.iconst 1, 1) := by decide +kernel
theorem d_MO_condition_42 : decode m_MO_condition.2.1 42 = .ok (.goto 4, 3) := by decide +kernel
theorem d_MO_condition_45 : decode m_MO_condition.2.1 45 = .ok (.iconst 0, 1) := by decide +kernel
theorem d_MO_condition_46 : decode m_MO_condition.2.1 46 = .ok (.istore 7, 2) := by decide +kernel
theorem d_MO_condition_48 : decode m_MO_condition.2.1 48 = .ok (.aload_n 0, 1) := by decide +kernel
theorem d_MO_condition_49 : decode m_MO_condition.2.1 49 = .ok (.iload 6, 2) := by decide +kernel
theorem d_MO_condition_51 : decode m_MO_condition.2.1 51 = .ok (.ifCond .eq 8, 3) := by decide +kernel
theorem d_MO_condition_54 : decode m_MO_condition.2.1 54 = .ok (.iload 6, 2) := by decide +kernel
theorem d_MO_condition_56 : decode m_MO_condition.2.1 56 = .ok (.goto 28, 3) := by decide +kernel
theorem d_MO_condition_59 : decode m_MO_condition.2.1 59 = .ok (.iload 7, 2) := by decide +kernel
theorem d_MO_condition_61 : decode m_MO_condition.2.1 61 = .ok (.ifCond .ne 7, 3) := by decide +kernel
theorem d_MO_condition_64 : decode m_MO_condition.2.1 64 = .ok (.iconst 2, 1) := by decide +kernel
theorem d_MO_condition_65 : decode m_MO_condition.2.1 65 = .ok (.goto 19, 3) := by decide +kernel
theorem d_MO_condition_68 : decode m_MO_condition.2.1 68 = .ok (.aload_n 0, 1) := by decide +kernel
theorem d_MO_condition_69 : decode m_MO_condition.2.1 69 = .ok (.getfield 129, 3) := by decide +kernel
theorem d_MO_condition_72 : decode m_MO_condition.2.1 72 = .ok (.iload_n 1, 1) := by decide +kernel
theorem d_MO_condition_73 : decode m_MO_condition.2.1 73 = .ok (.iaload, 1) := by decide +kernel
theorem d_MO_condition_74 : decode m_MO_condition.2.1 74 = .ok (.bipush 6, 2) := by decide +kernel
theorem d_MO_condition_76 : decode m_MO_condition.2.1 76 = .ok (.if_icmp .ne 7, 3) := by decide +kernel
theorem d_MO_condition_79 : decode m_MO_condition.2.1 79 = .ok (.iconst 3, 1) := by decide +kernel
theorem d_MO_condition_80 : decode m_MO_condition.2.1 80 = .ok (.goto 4, 3) := by decide +kernel
theorem d_MO_condition_83 : decode m_MO_condition.2.1 83 = .ok (.iconst 0, 1) := by decide +kernel
theorem d_MO_condition_84 : decode m_MO_condition.2.1 84 = .ok (.invokevirtual 292, 3) := by decide +kernel
theorem d_MO_condition_87 : decode m_MO_condition.2.1 87 = .ok (.ifCond .ne 5, 3) := by decide +kernel
theorem d_MO_condition_90 : decode m_MO_condition.2.1 90 = .ok (.iconst 0, 1) := by decide +kernel
theorem d_MO_condition_91 : decode m_MO_condition.2.1 91 = .ok (.ireturn, 1) := by decide +kernel
theorem d_MO_condition_92 : decode m_MO_condition.2.1 92 = .ok (.bipush 6, 2) := by decide +kernel
theorem d_MO_condition_94 : decode m_MO_condition.2.1 94 = .ok (.iload_n 1, 1) := by decide +kernel
theorem d_MO_condition_95 : decode m_MO_condition.2.1 95 = .ok (.imul, 1) := by decide +kernel
theorem d_MO_condition_96 : decode m_MO_condition.2.1 96 = .ok (.aload_n 0, 1) := by decide +kernel
theorem d_MO_condition_97 : decode m_MO_condition.2.1 97 = .ok (.getfield 129, 3) := by decide +kernel
theorem d_MO_condition_100 : decode m_MO_condition.2.1 100 = .ok (.iload_n 1, 1) := by decide +kernel
theorem d_MO_condition_101 : decode m_MO_condition.2.1 101 = .ok (.iaload, 1) := by decide +kernel
theorem d_MO_condition_102 : decode m_MO_condition.2.1 102 = .ok (.iadd, 1) := by decide +kernel
theorem d_MO_condition_103 : decode m_MO_condition.2.1 103 = .ok (.istore 8, 2) := by decide +kernel
theorem d_MO_condition_105 : decode m_MO_condition.2.1 105 = .ok (.aload_n 0, 1) := by decide +kernel
theorem d_MO_condition_106 : decode m_MO_condition.2.1 106 = .ok (.getfield 132, 3) := by decide +kernel
theorem d_MO_condition_109 : decode m_MO_condition.2.1 109 = .ok (.iload 8, 2) := by decide +kernel
theorem d_MO_condition_111 : decode m_MO_condition.2.1 111 = .ok (.iload_n 2, 1) := by decide +kernel
theorem d_MO_condition_112 : decode m_MO_condition.2.1 112 = .ok (.iastore, 1) := by decide +kernel
theorem d_MO_condition_113 : decode m_MO_condition.2.1 113 = .ok (.aload_n 0, 1) := by decide +kernel
theorem d_MO_condition_114 : decode m_MO_condition.2.1 114 = .ok (.getfield 135, 3) := by decide +kernel
theorem d_MO_condition_117 : decode m_MO_condition.2.1 117 = .ok (.iload 8, 2) := by decide +kernel
theorem d_MO_condition_119 : decode m_MO_condition.2.1 119 = .ok (.iload_n 3, 1) := by decide +kernel
theorem d_MO_condition_120 : decode m_MO_condition.2.1 120 = .ok (.iastore, 1) := by decide +kernel
theorem d_MO_condition_121 : decode m_MO_condition.2.1 121 = .ok (.aload_n 0, 1) := by decide +kernel
theorem d_MO_condition_122 : decode m_MO_condition.2.1 122 = .ok (.getfield 138, 3) := by decide +kernel
theorem d_MO_condition_125 : decode m_MO_condition.2.1 125 = .ok (.iload 8, 2) := by decide +kernel
theorem d_MO_condition_127 : decode m_MO_condition.2.1 127 = .ok (.iload 4, 2) := by decide +kernel
theorem d_MO_condition_129 : decode m_MO_condition.2.1 129 = .ok (.iastore, 1) := by decide +kernel
theorem d_MO_condition_130 : decode m_MO_condition.2.1 130 = .ok (.aload_n 0, 1) := by decide +kernel
theorem d_MO_condition_131 : decode m_MO_condition.2.1 131 = .ok (.getfield 141, 3) := by decide +kernel
theorem d_MO_condition_134 : decode m_MO_condition.2.1 134 = .ok (.iload 8, 2) := by decide +kernel
theorem d_MO_condition_136 : decode m_MO_condition.2.1 136 = .ok (.iload 5, 2) := by decide +kernel
theorem d_MO_condition_138 : decode m_MO_condition.2.1 138 = .ok (.iastore, 1) := by decide +kernel
theorem d_MO_condition_139 : decode m_MO_condition.2.1 139 = .ok (.aload_n 0, 1) := by decide +kernel
theorem d_MO_condition_140 : decode m_MO_condition.2.1 140 = .ok (.getfield 129, 3) := by decide +kernel
theorem d_MO_condition_143 : decode m_MO_condition.2.1 143 = .ok (.iload_n 1, 1) := by decide +kernel
theorem d_MO_condition_144 : decode m_MO_condition.2.1 144 = .ok (.dup2, 1) := by decide +kernel
theorem d_MO_condition_145 : decode m_MO_condition.2.1 145 = .ok (.iaload, 1) := by decide +kernel
theorem d_MO_condition_146 : decode m_MO_condition.2.1 146 = .ok (.iconst 1, 1) := by decide +kernel
theorem d_MO_condition_147 : decode m_MO_condition.2.1 147 = .ok (.iadd, 1) := by decide +kernel
theorem d_MO_condition_148 : decode m_MO_condition.2.1 148 = .ok (.iastore, 1) := by decide +kernel
theorem d_MO_condition_149 : decode m_MO_condition.2.1 149 = .ok (.aload_n 0, 1) := by decide +kernel
theorem d_MO_condition_150 : decode m_MO_condition.2.1 150 = .ok (.getfield 129, 3) := by decide +kernel
theorem d_MO_condition_153 : decode m_MO_condition.2.1 153 = .ok (.iload_n 1, 1) := by decide +kernel
theorem d_MO_condition_154 : decode m_MO_condition.2.1 154 = .ok (.iaload, 1) := by decide +kernel
theorem d_MO_condition_155 : decode m_MO_condition.2.1 155 = .ok (.ireturn, 1) := by decide +kernel
theorem d_MO_couldPut_0 : decode m_MO_couldPut.2.1 0 = .ok (.aload_n 0, 1) := by decide +kernel
theorem d_MO_couldPut_1 : decode m_MO_couldPut.2.1 1 = .ok (.bipush 6, 2) := by decide +kernel
theorem d_MO_couldPut_3 : decode m_MO_couldPut.2.1 3 = .ok (.invokevirtual 322, 3) := by decide +kernel
theorem d_MO_couldPut_6 : decode m_MO_couldPut.2.1 6 = .ok (.aload_n 0, 1) := by decide +kernel
theorem d_MO_couldPut_7 : decode m_MO_couldPut.2.1 7 = .ok (.getfield 77, 3) := by decide +kernel
theorem d_MO_couldPut_10 : decode m_MO_couldPut.2.1 10 = .ok (.iload_n 1, 1) := by decide +kernel
theorem d_MO_couldPut_11 : decode m_MO_couldPut.2.1 11 = .ok (.iload_n 2, 1) := by decide +kernel
theorem d_MO_couldPut_12 : decode m_MO_couldPut.2.1 12 = .ok (.iload_n 3, 1) := by decide +kernel
theorem d_MO_couldPut_13 : decode m_MO_couldPut.2.1 13 = .ok (.invokestatic 225, 3) := by decide +kernel
theorem d_MO_couldPut_16 : decode m_MO_couldPut.2.1 16 = .ok (.iload 4, 2) := by decide +kernel
theorem d_MO_couldPut_18 : decode m_MO_couldPut.2.1 18 = .ok (.iastore, 1) := by decide +kernel
theorem d_MO_couldPut_19 : decode m_MO_couldPut.2.1 19 = .ok (.aload_n 0, 1) := by decide +kernel
theorem d_MO_couldPut_20 : decode m_MO_couldPut.2.1 20 = .ok (.invokevirtual 282, 3) := by decide +kernel
theorem d_MO_couldPut_23 : decode m_MO_couldPut.2.1 23 = .ok (.istore 5, 2) := by decide +kernel
theorem d_MO_couldPut_25 : decode m_MO_couldPut.2.1 25 = .ok (.aload_n 0, 1) := by decide +kernel
theorem d_MO_couldPut_26 : decode m_MO_couldPut.2.1 26 = .ok (.bipush 6, 2) := by decide +kernel
theorem d_MO_couldPut_28 : decode m_MO_couldPut.2.1 28 = .ok (.invokevirtual 285, 3) := by decide +kernel
theorem d_MO_couldPut_31 : decode m_MO_couldPut.2.1 31 = .ok (.iload 5, 2) := by decide +kernel
theorem d_MO_couldPut_33 : decode m_MO_couldPut.2.1 33 = .ok (.ireturn, 1) := by decide +kernel
theorem d_MO_doesAdd_0 : decode m_MO_doesAdd.2.1 0 = .ok (.aload_n 0, 1) := by decide +kernel
theorem d_MO_doesAdd_1 : decode m_MO_doesAdd.2.1 1 = .ok (.getfield 171, 3) := by decide +kernel
theorem d_MO_doesAdd_4 : decode m_MO_doesAdd.2.1 4 = .ok (.iload_n 1, 1) := by decide +kernel
theorem d_MO_doesAdd_5 : decode m_MO_doesAdd.2.1 5 = .ok (.iaload, 1) := by decide +kernel
theorem d_MO_doesAdd_6 : decode m_MO_doesAdd.2.1 6 = .ok (.istore_n 2, 1) := by decide +kernel
theorem d_MO_doesAdd_7 : decode m_MO_doesAdd.2.1 7 = .ok (.aload_n 0, 1) := by decide +kernel
theorem d_MO_doesAdd_8 : decode m_MO_doesAdd.2.1 8 = .ok (.getfield 71, 3) := by decide +kernel
theorem d_MO_doesAdd_11 : decode m_MO_doesAdd.2.1 11 = .ok (.iload_n 2, 1) := by decide +kernel
theorem d_MO_doesAdd_12 : decode m_MO_doesAdd.2.1 12 = .ok (.iaload, 1) := by decide +kernel
theorem d_MO_doesAdd_13 : decode m_MO_doesAdd.2.1 13 = .ok (.bipush 30, 2) := by decide +kernel
theorem d_MO_doesAdd_15 : decode m_MO_doesAdd.2.1 15 = .ok (.if_icmp .ne 15, 3) := by decide +kernel
theorem d_MO_doesAdd_18 : decode m_MO_doesAdd.2.1 18 = .ok (.aload_n 0, 1) := by decide +kernel
theorem d_MO_doesAdd_19 : decode m_MO_doesAdd.2.1 19 = .ok (.bipush 10, 2) := by decide +kernel
theorem d_MO_doesAdd_21 : decode m_MO_doesAdd.2.1 21 = .ok (.iload_n 2, 1) := by decide +kernel
theorem d_MO_doesAdd_22 : decode m_MO_doesAdd.2.1 22 = .ok (.iconst (-1), 1) := by decide +kernel
theorem d_MO_doesAdd_23 : decode m_MO_doesAdd.2.1 23 = .ok (.iconst (-1), 1) := by decide +kernel
theorem d_MO_doesAdd_24 : decode m_MO_doesAdd.2.1 24 = .ok (.invokevirtual 261, 3) := by decide +kernel
theorem d_MO_doesAdd_27 : decode m_MO_doesAdd.2.1 27 = .ok (.pop, 1) := by decide +kernel
theorem d_MO_doesAdd_28 : decode m_MO_doesAdd.2.1 28 = .ok (.iconst 0, 1) := by decide +kernel
theorem d_MO_doesAdd_29 : decode m_MO_doesAdd.2.1 29 = .ok (.ireturn, 1) := by decide +kernel
theorem d_MO_doesAdd_30 : decode m_MO_doesAdd.2.1 30 = .ok (.aload_n 0, 1) := by decide +kernel
theorem d_MO_doesAdd_31 : decode m_MO_doesAdd.2.1 31 = .ok (.iload_n 2, 1) := by decide +kernel
theorem d_MO_doesAdd_32 : decode m_MO_doesAdd.2.1 32 = .ok (.aload_n 0, 1) := by decide +kernel
theorem d_MO_doesAdd_33 : decode m_MO_doesAdd.2.1 33 = .ok (.getfield 180, 3) := by decide +kernel
theorem d_MO_doesAdd_36 : decode m_MO_doesAdd.2.1 36 = .ok (.bipush 6, 2) := by decide +kernel
theorem d_MO_doesAdd_38 : decode m_MO_doesAdd.2.1 38 = .ok (.iload_n 1, 1) := by decide +kernel
theorem d_MO_doesAdd_39 : decode m_MO_doesAdd.2.1 39 = .ok (.imul, 1) := by decide +kernel
theorem d_MO_doesAdd_40 : decode m_MO_doesAdd.2.1 40 = .ok (.iconst (-1), 1) := by decide +kernel
theorem d_MO_doesAdd_41 : decode m_MO_doesAdd.2.1 41 = .ok (.invokevirtual 363, 3) := by decide +kernel
theorem d_MO_doesAdd_44 : decode m_MO_doesAdd.2.1 44 = .ok (.iconst (-1), 1) := by decide +kernel
theorem d_MO_doesAdd_45 : decode m_MO_doesAdd.2.1 45 = .ok (.if_icmp .eq 7, 3) := by decide +kernel
theorem d_MO_doesAdd_48 : decode m_MO_doesAdd.2.1 48 = .ok (.iconst 1, 1) := by decide +kernel
theorem d_MO_doesAdd_49 : decode m_MO_doesAdd.2.1 49 = .ok (.goto 4, 3) := by decide +kernel
theorem d_MO_doesAdd_52 : decode m_MO_doesAdd.2.1 52 = .ok (.iconst 0, 1) := by decide +kernel
theorem d_MO_doesAdd_53 : decode m_MO_doesAdd.2.1 53 = .ok (.ireturn, 1) := by decide +kernel
theorem d_MO_doesAll_0 : decode m_MO_doesAll.2.1 0 = .ok (.iconst 0, 1) := by decide +kernel
theorem d_MO_doesAll_1 : decode m_MO_doesAll.2.1 1 = .ok (.istore_n 2, 1) := by decide +kernel
theorem d_MO_doesAll_2 : decode m_MO_doesAll.2.1 2 = .ok (.iload_n 2, 1) := by decide +kernel
theorem d_MO_doesAll_3 : decode m_MO_doesAll.2.1 3 = .ok (.aload_n 0, 1) := by decide +kernel
theorem d_MO_doesAll_4 : decode m_MO_doesAll.2.1 4 = .ok (.getfield 165, 3) := by decide +kernel
theorem d_MO_doesAll_7 : decode m_MO_doesAll.2.1 7 = .ok (.iload_n 1, 1) := by decide +kernel
theorem d_MO_doesAll_8 : decode m_MO_doesAll.2.1 8 = .ok (.iaload, 1) := by decide +kernel
theorem d_MO_doesAll_9 : decode m_MO_doesAll.2.1 9 = .ok (.if_icmp .ge 36, 3) := by decide +kernel
theorem d_MO_doesAll_12 : decode m_MO_doesAll.2.1 12 = .ok (.aload_n 0, 1) := by decide +kernel
theorem d_MO_doesAll_13 : decode m_MO_doesAll.2.1 13 = .ok (.bipush 6, 2) := by decide +kernel
theorem d_MO_doesAll_15 : decode m_MO_doesAll.2.1 15 = .ok (.iload_n 1, 1) := by decide +kernel
theorem d_MO_doesAll_16 : decode m_MO_doesAll.2.1 16 = .ok (.imul, 1) := by decide +kernel
theorem d_MO_doesAll_17 : decode m_MO_doesAll.2.1 17 = .ok (.iload_n 2, 1) := by decide +kernel
theorem d_MO_doesAll_18 : decode m_MO_doesAll.2.1 18 = .ok (.iadd, 1) := by decide +kernel
theorem d_MO_doesAll_19 : decode m_MO_doesAll.2.1 19 = .ok (.invokevirtual 494, 3) := by decide +kernel
theorem d_MO_doesAll_22 : decode m_MO_doesAll.2.1 22 = .ok (.ifCond .ne 5, 3) := by decide +kernel
theorem d_MO_doesAll_25 : decode m_MO_doesAll.2.1 25 = .ok (.iconst 0, 1) := by decide +kernel
theorem d_MO_doesAll_26 : decode m_MO_doesAll.2.1 26 = .ok (.ireturn, 1) := by decide +kernel
theorem d_MO_doesAll_27 : decode m_MO_doesAll.2.1 27 = .ok (.iload_n 2, 1) := by decide +kernel
theorem d_MO_doesAll_28 : decode m_MO_doesAll.2.1 28 = .ok (.iconst 1, 1) := by decide +kernel
theorem d_MO_doesAll_29 : decode m_MO_doesAll.2.1 29 = .ok (.aload_n 0, 1) := by decide +kernel
theorem d_MO_doesAll_30 : decode m_MO_doesAll.2.1 30 = .ok (.bipush 6, 2) := by decide +kernel
theorem d_MO_doesAll_32 : decode m_MO_doesAll.2.1 32 = .ok (.iload_n 1, 1) := by decide +kernel
theorem d_MO_doesAll_33 : decode m_MO_doesAll.2.1 33 = .ok (.imul, 1) := by decide +kernel
theorem d_MO_doesAll_34 : decode m_MO_doesAll.2.1 34 = .ok (.iload_n 2, 1) := by decide +kernel
theorem d_MO_doesAll_35 : decode m_MO_doesAll.2.1 35 = .ok (.iadd, 1) := by decide +kernel
theorem d_MO_doesAll_36 : decode m_MO_doesAll.2.1 36 = .ok (.invokevirtual 497, 3) := by decide +kernel
theorem d_MO_doesAll_39 : decode m_MO_doesAll.2.1 39 = .ok (.iadd, 1) := by decide +kernel
theorem d_MO_doesAll_40 : decode m_MO_doesAll.2.1 40 = .ok (.iadd, 1) := by decide +kernel
theorem d_MO_doesAll_41 : decode m_MO_doesAll.2.1 41 = .ok (.istore_n 2, 1) := by decide +kernel
theorem d_MO_doesAll_42 : decode m_MO_doesAll.2.1 42 = .ok (.goto (-40), 3) := by decide +kernel
theorem d_MO_doesAll_45 : decode m_MO_doesAll.2.1 45 = .ok (.iconst 1, 1) := by decide +kernel
theorem d_MO_doesAll_46 : decode m_MO_doesAll.2.1 46 = .ok (.ireturn, 1) := by decide +kernel
theorem d_MO_doesCount_0 : decode m_MO_doesCount.2.1 0 = .ok (.aload_n 0, 1) := by decide +kernel
theorem d_MO_doesCount_1 : decode m_MO_doesCount.2.1 1 = .ok (.getfield 129, 3) := by decide +kernel
theorem d_MO_doesCount_4 : decode m_MO_doesCount.2.1 4 = .ok (.iload_n 1, 1) := by decide +kernel
theorem d_MO_doesCount_5 : decode m_MO_doesCount.2.1 5 = .ok (.iaload, 1) := by decide +kernel
theorem d_MO_doesCount_6 : decode m_MO_doesCount.2.1 6 = .ok (.ifCond .ne 7, 3) := by decide +kernel
theorem d_MO_doesCount_9 : decode m_MO_doesCount.2.1 9 = .ok (.iconst 1, 1) := by decide +kernel
theorem d_MO_doesCount_10 : decode m_MO_doesCount.2.1 10 = .ok (.goto 4, 3) := by decide +kernel
theorem d_MO_doesCount_13 : decode m_MO_doesCount.2.1 13 = .ok (.iconst 0, 1) := by decide +kernel
theorem d_MO_doesCount_14 : decode m_MO_doesCount.2.1 14 = .ok (.istore_n 3, 1) := by decide +kernel
theorem d_MO_doesCount_15 : decode m_MO_doesCount.2.1 15 = .ok (.iconst 0, 1) := by decide +kernel
theorem d_MO_doesCount_16 : decode m_MO_doesCount.2.1 16 = .ok (.istore 4, 2) := by decide +kernel
theorem d_MO_doesCount_18 : decode m_MO_doesCount.2.1 18 = .ok (.iload 4, 2) := by decide +kernel
theorem d_MO_doesCount_20 : decode m_MO_doesCount.2.1 20 = .ok (.iconst 3, 1) := by decide +kernel
theorem d_MO_doesCount_21 : decode m_MO_doesCount.2.1 21 = .ok (.if_icmp .ge 134, 3) := by decide +kernel
theorem d_MO_doesCount_24 : decode m_MO_doesCount.2.1 24 = .ok (.iconst 0, 1) := by decide +kernel
theorem d_MO_doesCount_25 : decode m_MO_doesCount.2.1 25 = .ok (.istore 5, 2) := by decide +kernel
theorem d_MO_doesCount_27 : decode m_MO_doesCount.2.1 27 = .ok (.iconst 1, 1) := by decide +kernel
theorem d_MO_doesCount_28 : decode m_MO_doesCount.2.1 28 = .ok (.istore 6, 2) := by decide +kernel
theorem d_MO_doesCount_30 : decode m_MO_doesCount.2.1 30 = .ok (.bipush 6, 2) := by decide +kernel
theorem d_MO_doesCount_32 : decode m_MO_doesCount.2.1 32 = .ok (.iload_n 1, 1) := by decide +kernel
theorem d_MO_doesCount_33 : decode m_MO_doesCount.2.1 33 = .ok (.imul, 1) := by decide +kernel
theorem d_MO_doesCount_34 : decode m_MO_doesCount.2.1 34 = .ok (.istore 7, 2) := by decide +kernel
theorem d_MO_doesCount_36 : decode m_MO_doesCount.2.1 36 = .ok (.iload 7, 2) := by decide +kernel
theorem d_MO_doesCount_38 : decode m_MO_doesCount.2.1 38 = .ok (.bipush 6, 2) := by decide +kernel
theorem d_MO_doesCount_40 : decode m_MO_doesCount.2.1 40 = .ok (.iload_n 1, 1) := by decide +kernel
theorem d_MO_doesCount_41 : decode m_MO_doesCount.2.1 41 = .ok (.imul, 1) := by decide +kernel
theorem d_MO_doesCount_42 : decode m_MO_doesCount.2.1 42 = .ok (.aload_n 0, 1) := by decide +kernel
theorem d_MO_doesCount_43 : decode m_MO_doesCount.2.1 43 = .ok (.getfield 129, 3) := by decide +kernel
theorem d_MO_doesCount_46 : decode m_MO_doesCount.2.1 46 = .ok (.iload_n 1, 1) := by decide +kernel
theorem d_MO_doesCount_47 : decode m_MO_doesCount.2.1 47 = .ok (.iaload, 1) := by decide +kernel
theorem d_MO_doesCount_48 : decode m_MO_doesCount.2.1 48 = .ok (.iadd, 1) := by decide +kernel
theorem d_MO_doesCount_49 : decode m_MO_doesCount.2.1 49 = .ok (.if_icmp .ge 80, 3) := by decide +kernel
theorem d_MO_doesCount_52 : decode m_MO_doesCount.2.1 52 = .ok (.iload 5, 2) := by decide +kernel
theorem d_MO_doesCount_54 : decode m_MO_doesCount.2.1 54 = .ok (.ifCond .ne 15, 3) := by decide +kernel
theorem d_MO_doesCount_57 : decode m_MO_doesCount.2.1 57 = .ok (.aload_n 0, 1) := by decide +kernel
theorem d_MO_doesCount_58 : decode m_MO_doesCount.2.1 58 = .ok (.getfield 132, 3) := by decide +kernel
theorem d_MO_doesCount_61 : decode m_MO_doesCount.2.1 61 = .ok (.iload 7, 2) := by decide +kernel
theorem d_MO_doesCount_63 : decode m_MO_doesCount.2.1 63 = .ok (.iaload, 1) := by decide +kernel
theorem d_MO_doesCount_64 : decode m_MO_doesCount.2.1 64 = .ok (.iload 4, 2) := by decide +kernel
theorem d_MO_doesCount_66 : decode m_MO_doesCount.2.1 66 = .ok (.if_icmp .ne 7, 3) := by decide +kernel
theorem d_MO_doesCount_69 : decode m_MO_doesCount.2.1 69 = .ok (.iconst 1, 1) := by decide +kernel
theorem d_MO_doesCount_70 : decode m_MO_doesCount.2.1 70 = .ok (.goto 4, 3) := by decide +kernel
theorem d_MO_doesCount_73 : decode m_MO_doesCount.2.1 73 = .ok (.iconst 0, 1) := by decide +kernel
theorem d_MO_doesCount_74 : decode m_MO_doesCount.2.1 74 = .ok (.istore 5, 2) := by decide +kernel
theorem d_MO_doesCount_76 : decode m_MO_doesCount.2.1 76 = .ok (.iload 6, 2) := by decide +kernel
theorem d_MO_doesCount_78 : decode m_MO_doesCount.2.1 78 = .ok (.ifCond .eq 42, 3) := by decide +kernel
theorem d_MO_doesCount_81 : decode m_MO_doesCount.2.1 81 = .ok (.aload_n 0, 1) := by decide +kernel
theorem d_MO_doesCount_82 : decode m_MO_doesCount.2.1 82 = .ok (.getfield 132, 3) := by decide +kernel
theorem d_MO_doesCount_85 : decode m_MO_doesCount.2.1 85 = .ok (.iload 7, 2) := by decide +kernel
theorem d_MO_doesCount_87 : decode m_MO_doesCount.2.1 87 = .ok (.iaload, 1) := by decide +kernel
theorem d_MO_doesCount_88 : decode m_MO_doesCount.2.1 88 = .ok (.iload 4, 2) := by decide +kernel
theorem d_MO_doesCount_90 : decode m_MO_doesCount.2.1 90 = .ok (.if_icmp .ne 26, 3) := by decide +kernel
theorem d_MO_doesCount_93 : decode m_MO_doesCount.2.1 93 = .ok (.aload_n 0, 1) := by decide +kernel
theorem d_MO_doesCount_94 : decode m_MO_doesCount.2.1 94 = .ok (.iload 7, 2) := by decide +kernel
theorem d_MO_doesCount_96 : decode m_MO_doesCount.2.1 96 = .ok (.aload_n 0, 1) := by decide +kernel
theorem d_MO_doesCount_97 : decode m_MO_doesCount.2.1 97 = .ok (.getfield 150, 3) := by decide +kernel
theorem d_MO_doesCount_100 : decode m_MO_doesCount.2.1 100 = .ok (.iload_n 2, 1) := by decide +kernel
theorem d_MO_doesCount_101 : decode m_MO_doesCount.2.1 101 = .ok (.aload_n 0, 1) := by decide +kernel
theorem d_MO_doesCount_102 : decode m_MO_doesCount.2.1 102 = .ok (.getfield 135, 3) := by decide +kernel
theorem d_MO_doesCount_105 : decode m_MO_doesCount.2.1 105 = .ok (.iload 7, 2) := by decide +kernel
theorem d_MO_doesCount_107 : decode m_MO_doesCount.2.1 107 = .ok (.iaload, 1) := by decide +kernel
theorem d_MO_doesCount_108 : decode m_MO_doesCount.2.1 108 = .ok (.iadd, 1) := by decide +kernel
theorem d_MO_doesCount_109 : decode m_MO_doesCount.2.1 109 = .ok (.iaload, 1) := by decide +kernel
theorem d_MO_doesCount_110 : decode m_MO_doesCount.2.1 110 = .ok (.invokevirtual 388, 3) := by decide +kernel
theorem d_MO_doesCount_113 : decode m_MO_doesCount.2.1 113 = .ok (.ifCond .eq 7, 3) := by decide +kernel
theorem d_MO_doesCount_116 : decode m_MO_doesCount.2.1 116 = .ok (.iconst 1, 1) := by decide +kernel
theorem d_MO_doesCount_117 : decode m_MO_doesCount.2.1 117 = .ok (.goto 4, 3) := by decide +kernel
theorem d_MO_doesCount_120 : decode m_MO_doesCount.2.1 120 = .ok (.iconst 0, 1) := by decide +kernel
theorem d_MO_doesCount_121 : decode m_MO_doesCount.2.1 121 = .ok (.istore 6, 2) := by decide +kernel
theorem d_MO_doesCount_123 : decode m_MO_doesCount.2.1 123 = .ok (.iinc 7 1, 3) := by decide +kernel
theorem d_MO_doesCount_126 : decode m_MO_doesCount.2.1 126 = .ok (.goto (-90), 3) := by decide +kernel
theorem d_MO_doesCount_129 : decode m_MO_doesCount.2.1 129 = .ok (.iload_n 3, 1) := by decide +kernel
theorem d_MO_doesCount_130 : decode m_MO_doesCount.2.1 130 = .ok (.ifCond .ne 13, 3) := by decide +kernel
theorem d_MO_doesCount_133 : decode m_MO_doesCount.2.1 133 = .ok (.iload 5, 2) := by decide +kernel
theorem d_MO_doesCount_135 : decode m_MO_doesCount.2.1 135 = .ok (.ifCond .eq 12, 3) := by decide +kernel
theorem d_MO_doesCount_138 : decode m_MO_doesCount.2.1 138 = .ok (.iload 6, 2) := by decide +kernel
theorem d_MO_doesCount_140 : decode m_MO_doesCount.2.1 140 = .ok (.ifCond .eq 7, 3) := by decide +kernel
theorem d_MO_doesCount_143 : decode m_MO_doesCount.2.1 143 = .ok (.iconst 1, 1) := by decide +kernel
theorem d_MO_doesCount_144 : decode m_MO_doesCount.2.1 144 = .ok (.goto 4, 3) := by decide +kernel
theorem d_MO_doesCount_147 : decode m_MO_doesCount.2.1 147 = .ok (.iconst 0, 1) := by decide +kernel
theorem d_MO_doesCount_148 : decode m_MO_doesCount.2.1 148 = .ok (.istore_n 3, 1) := by decide +kernel
theorem d_MO_doesCount_149 : decode m_MO_doesCount.2.1 149 = .ok (.iinc 4 1, 3) := by decide +kernel
theorem d_MO_doesCount_152 : decode m_MO_doesCount.2.1 152 = .ok (.goto (-134), 3) := by decide +kernel
theorem d_MO_doesCount_155 : decode m_MO_doesCount.2.1 155 = .ok (.iload_n 3, 1) := by decide +kernel
theorem d_MO_doesCount_156 : decode m_MO_doesCount.2.1 156 = .ok (.ireturn, 1) := by decide +kernel
theorem d_MO_doesHold_0 : decode m_MO_doesHold.2.1 0 = .ok (.aload_n 0, 1) := by decide +kernel
theorem d_MO_doesHold_1 : decode m_MO_doesHold.2.1 1 = .ok (.getfield 77, 3) := by decide +kernel
theorem d_MO_doesHold_4 : decode m_MO_doesHold.2.1 4 = .ok (.aload_n 0, 1) := by decide +kernel
theorem d_MO_doesHold_5 : decode m_MO_doesHold.2.1 5 = .ok (.getfield 53, 3) := by decide +kernel
theorem d_MO_doesHold_8 : decode m_MO_doesHold.2.1 8 = .ok (.iload_n 1, 1) := by decide +kernel
theorem d_MO_doesHold_9 : decode m_MO_doesHold.2.1 9 = .ok (.iaload, 1) := by decide +kernel
theorem d_MO_doesHold_10 : decode m_MO_doesHold.2.1 10 = .ok (.iload_n 2, 1) := by decide +kernel
theorem d_MO_doesHold_11 : decode m_MO_doesHold.2.1 11 = .ok (.aload_n 0, 1) := by decide +kernel
theorem d_MO_doesHold_12 : decode m_MO_doesHold.2.1 12 = .ok (.getfield 56, 3) := by decide +kernel
theorem d_MO_doesHold_15 : decode m_MO_doesHold.2.1 15 = .ok (.iload_n 1, 1) := by decide +kernel
theorem d_MO_doesHold_16 : decode m_MO_doesHold.2.1 16 = .ok (.iaload, 1) := by decide +kernel
theorem d_MO_doesHold_17 : decode m_MO_doesHold.2.1 17 = .ok (.invokestatic 225, 3) := by decide +kernel
theorem d_MO_doesHold_20 : decode m_MO_doesHold.2.1 20 = .ok (.iaload, 1) := by decide +kernel
theorem d_MO_doesHold_21 : decode m_MO_doesHold.2.1 21 = .ok (.istore_n 3, 1) := by decide +kernel
theorem d_MO_doesHold_22 : decode m_MO_doesHold.2.1 22 = .ok (.aload_n 0, 1) := by decide +kernel
theorem d_MO_doesHold_23 : decode m_MO_doesHold.2.1 23 = .ok (.getfield 77, 3) := by decide +kernel
theorem d_MO_doesHold_26 : decode m_MO_doesHold.2.1 26 = .ok (.aload_n 0, 1) := by decide +kernel
theorem d_MO_doesHold_27 : decode m_MO_doesHold.2.1 27 = .ok (.getfield 53, 3) := by decide +kernel
theorem d_MO_doesHold_30 : decode m_MO_doesHold.2.1 30 = .ok (.iload_n 1, 1) := by decide +kernel
theorem d_MO_doesHold_31 : decode m_MO_doesHold.2.1 31 = .ok (.iaload, 1) := by decide +kernel
theorem d_MO_doesHold_32 : decode m_MO_doesHold.2.1 32 = .ok (.iload_n 2, 1) := by decide +kernel
theorem d_MO_doesHold_33 : decode m_MO_doesHold.2.1 33 = .ok (.aload_n 0, 1) := by decide +kernel
theorem d_MO_doesHold_34 : decode m_MO_doesHold.2.1 34 = .ok (.getfield 62, 3) := by decide +kernel
theorem d_MO_doesHold_37 : decode m_MO_doesHold.2.1 37 = .ok (.iload_n 1, 1) := by decide +kernel
theorem d_MO_doesHold_38 : decode m_MO_doesHold.2.1 38 = .ok (.iaload, 1) := by decide +kernel
theorem d_MO_doesHold_39 : decode m_MO_doesHold.2.1 39 = .ok (.invokestatic 225, 3) := by decide +kernel
theorem d_MO_doesHold_42 : decode m_MO_doesHold.2.1 42 = .ok (.iaload, 1) := by decide +kernel
theorem d_MO_doesHold_43 : decode m_MO_doesHold.2.1 43 = .ok (.istore 4, 2) := by decide +kernel
theorem d_MO_doesHold_45 : decode m_MO_doesHold.2.1 45 = .ok (.aload_n 0, 1) := by decide +kernel
theorem d_MO_doesHold_46 : decode m_MO_doesHold.2.1 46 = .ok (.getfield 59, 3) := by decide +kernel
theorem d_MO_doesHold_49 : decode m_MO_doesHold.2.1 49 = .ok (.iload_n 1, 1) := by decide +kernel
theorem d_MO_doesHold_50 : decode m_MO_doesHold.2.1 50 = .ok (.iaload, 1) := by decide +kernel
theorem d_MO_doesHold_51 : decode m_MO_doesHold.2.1 51 = .ok (.iconst 3, 1) := by decide +kernel
theorem d_MO_doesHold_52 : decode m_MO_doesHold.2.1 52 = .ok (.if_icmp .ne 35, 3) := by decide +kernel
theorem d_MO_doesHold_55 : decode m_MO_doesHold.2.1 55 = .ok (.iload_n 3, 1) := by decide +kernel
theorem d_MO_doesHold_56 : decode m_MO_doesHold.2.1 56 = .ok (.ldc 186, 2) := by decide +kernel
theorem d_MO_doesHold_58 : decode m_MO_doesHold.2.1 58 = .ok (.if_icmp .ne 7, 3) := by decide +kernel
theorem d_MO_doesHold_61 : decode m_MO_doesHold.2.1 61 = .ok (.iconst 1, 1) := by decide +kernel
theorem d_MO_doesHold_62 : decode m_MO_doesHold.2.1 62 = .ok (.goto 4, 3) := by decide +kernel
theorem d_MO_doesHold_65 : decode m_MO_doesHold.2.1 65 = .ok (.iconst 0, 1) := by decide +kernel
theorem d_MO_doesHold_66 : decode m_MO_doesHold.2.1 66 = .ok (.iload 4, 2) := by decide +kernel
theorem d_MO_doesHold_68 : decode m_MO_doesHold.2.1 68 = .ok (.ldc 186, 2) := by decide +kernel
theorem d_MO_doesHold_70 : decode m_MO_doesHold.2.1 70 = .ok (.if_icmp .ne 7, 3) := by decide +kernel
theorem d_MO_doesHold_73 : decode m_MO_doesHold.2.1 73 = .ok (.iconst 1, 1) := by decide +kernel
theorem d_MO_doesHold_74 : decode m_MO_doesHold.2.1 74 = .ok (.goto 4, 3) := by decide +kernel
theorem d_MO_doesHold_77 : decode m_MO_doesHold.2.1 77 = .ok (.iconst 0, 1) := by decide +kernel
theorem d_MO_doesHold_78 : decode m_MO_doesHold.2.1 78 = .ok (.if_icmp .ne 7, 3) := by decide +kernel
theorem d_MO_doesHold_81 : decode m_MO_doesHold.2.1 81 = .ok (.iconst 1, 1) := by decide +kernel
theorem d_MO_doesHold_82 : decode m_MO_doesHold.2.1 82 = .ok (.goto 4, 3) := by decide +kernel
theorem d_MO_doesHold_85 : decode m_MO_doesHold.2.1 85 = .ok (.iconst 0, 1) := by decide +kernel
theorem d_MO_doesHold_86 : decode m_MO_doesHold.2.1 86 = .ok (.ireturn, 1) := by decide +kernel
theorem d_MO_doesHold_87 : decode m_MO_doesHold.2.1 87 = .ok (.iload_n 3, 1) := by decide +kernel
theorem d_MO_doesHold_88 : decode m_MO_doesHold.2.1 88 = .ok (.ldc 186, 2) := by decide +kernel
theorem d_MO_doesHold_90 : decode m_MO_doesHold.2.1 90 = .ok (.if_icmp .eq 10, 3) := by decide +kernel
theorem d_MO_doesHold_93 : decode m_MO_doesHold.2.1 93 = .ok (.iload 4, 2) := by decide +kernel
theorem d_MO_doesHold_95 : decode m_MO_doesHold.2.1 95 = .ok (.ldc 186, 2) := by decide +kernel
theorem d_MO_doesHold_97 : decode m_MO_doesHold.2.1 97 = .ok (.if_icmp .ne 5, 3) := by decide +kernel
theorem d_MO_doesHold_100 : decode m_MO_doesHold.2.1 100 = .ok (.iconst 1, 1) := by decide +kernel
theorem d_MO_doesHold_101 : decode m_MO_doesHold.2.1 101 = .ok (.ireturn, 1) := by decide +kernel
theorem d_MO_doesHold_102 : decode m_MO_doesHold.2.1 102 = .ok (.iload_n 3, 1) := by decide +kernel
theorem d_MO_doesHold_103 : decode m_MO_doesHold.2.1 103 = .ok (.iload 4, 2) := by decide +kernel
theorem d_MO_doesHold_105 : decode m_MO_doesHold.2.1 105 = .ok (.isub, 1) := by decide +kernel
theorem d_MO_doesHold_106 : decode m_MO_doesHold.2.1 106 = .ok (.aload_n 0, 1) := by decide +kernel
theorem d_MO_doesHold_107 : decode m_MO_doesHold.2.1 107 = .ok (.getfield 65, 3) := by decide +kernel
theorem d_MO_doesHold_110 : decode m_MO_doesHold.2.1 110 = .ok (.iload_n 1, 1) := by decide +kernel
theorem d_MO_doesHold_111 : decode m_MO_doesHold.2.1 111 = .ok (.iaload, 1) := by decide +kernel
theorem d_MO_doesHold_112 : decode m_MO_doesHold.2.1 112 = .ok (.isub, 1) := by decide +kernel
theorem d_MO_doesHold_113 : decode m_MO_doesHold.2.1 113 = .ok (.istore 5, 2) := by decide +kernel
theorem d_MO_doesHold_115 : decode m_MO_doesHold.2.1 115 = .ok (.aload_n 0, 1) := by decide +kernel
theorem d_MO_doesHold_116 : decode m_MO_doesHold.2.1 116 = .ok (.getfield 59, 3) := by decide +kernel
theorem d_MO_doesHold_119 : decode m_MO_doesHold.2.1 119 = .ok (.iload_n 1, 1) := by decide +kernel
theorem d_MO_doesHold_120 : decode m_MO_doesHold.2.1 120 = .ok (.iaload, 1) := by decide +kernel
theorem d_MO_doesHold_121 : decode m_MO_doesHold.2.1 121 = .ok (.ifCond .ne 16, 3) := by decide +kernel
theorem d_MO_doesHold_124 : decode m_MO_doesHold.2.1 124 = .ok (.iload 5, 2) := by decide +kernel
theorem d_MO_doesHold_126 : decode m_MO_doesHold.2.1 126 = .ok (.ifCond .gt 7, 3) := by decide +kernel
theorem d_MO_doesHold_129 : decode m_MO_doesHold.2.1 129 = .ok (.iconst 1, 1) := by decide +kernel
theorem d_MO_doesHold_130 : decode m_MO_doesHold.2.1 130 = .ok (.goto 40, 3) := by decide +kernel
theorem d_MO_doesHold_133 : decode m_MO_doesHold.2.1 133 = .ok (.iconst 0, 1) := by decide +kernel
theorem d_MO_doesHold_134 : decode m_MO_doesHold.2.1 134 = .ok (.goto 36, 3) := by decide +kernel
theorem d_MO_doesHold_137 : decode m_MO_doesHold.2.1 137 = .ok (.aload_n 0, 1) := by decide +kernel
theorem d_MO_doesHold_138 : decode m_MO_doesHold.2.1 138 = .ok (.getfield 59, 3) := by decide +kernel
theorem d_MO_doesHold_141 : decode m_MO_doesHold.2.1 141 = .ok (.iload_n 1, 1) := by decide +kernel
theorem d_MO_doesHold_142 : decode m_MO_doesHold.2.1 142 = .ok (.iaload, 1) := by decide +kernel
theorem d_MO_doesHold_143 : decode m_MO_doesHold.2.1 143 = .ok (.iconst 1, 1) := by decide +kernel
theorem d_MO_doesHold_144 : decode m_MO_doesHold.2.1 144 = .ok (.if_icmp .ne 16, 3) := by decide +kernel
theorem d_MO_doesHold_147 : decode m_MO_doesHold.2.1 147 = .ok (.iload 5, 2) := by decide +kernel
theorem d_MO_doesHold_149 : decode m_MO_doesHold.2.1 149 = .ok (.ifCond .ne 7, 3) := by decide +kernel
theorem d_MO_doesHold_152 : decode m_MO_doesHold.2.1 152 = .ok (.iconst 1, 1) := by decide +kernel
theorem d_MO_doesHold_153 : decode m_MO_doesHold.2.1 153 = .ok (.goto 17, 3) := by decide +kernel
theorem d_MO_doesHold_156 : decode m_MO_doesHold.2.1 156 = .ok (.iconst 0, 1) := by decide +kernel
theorem d_MO_doesHold_157 : decode m_MO_doesHold.2.1 157 = .ok (.goto 13, 3) := by decide +kernel
theorem d_MO_doesHold_160 : decode m_MO_doesHold.2.1 160 = .ok (.iload 5, 2) := by decide +kernel
theorem d_MO_doesHold_162 : decode m_MO_doesHold.2.1 162 = .ok (.ifCond .eq 7, 3) := by decide +kernel
theorem d_MO_doesHold_165 : decode m_MO_doesHold.2.1 165 = .ok (.iconst 1, 1) := by decide +kernel
theorem d_MO_doesHold_166 : decode m_MO_doesHold.2.1 166 = .ok (.goto 4, 3) := by decide +kernel
theorem d_MO_doesHold_169 : decode m_MO_doesHold.2.1 169 = .ok (.iconst 0, 1) := by decide +kernel
theorem d_MO_doesHold_170 : decode m_MO_doesHold.2.1 170 = .ok (.ireturn, 1) := by decide +kernel
theorem d_MO_doesLead_0 : decode m_MO_doesLead.2.1 0 = .ok (.bipush 6, 2) := by decide +kernel
theorem d_MO_doesLead_2 : decode m_MO_doesLead.2.1 2 = .ok (.iload_n 1, 1) := by decide +kernel
theorem d_MO_doesLead_3 : decode m_MO_doesLead.2.1 3 = .ok (.bipush 30, 2) := by decide +kernel
theorem d_MO_doesLead_5 : decode m_MO_doesLead.2.1 5 = .ok (.idiv, 1) := by decide +kernel
theorem d_MO_doesLead_6 : decode m_MO_doesLead.2.1 6 = .ok (.imul, 1) := by decide +kernel
theorem d_MO_doesLead_7 : decode m_MO_doesLead.2.1 7 = .ok (.iload_n 2, 1) := by decide +kernel
theorem d_MO_doesLead_8 : decode m_MO_doesLead.2.1 8 = .ok (.iadd, 1) := by decide +kernel
theorem d_MO_doesLead_9 : decode m_MO_doesLead.2.1 9 = .ok (.istore 4, 2) := by decide +kernel
theorem d_MO_doesLead_11 : decode m_MO_doesLead.2.1 11 = .ok (.aload_n 0, 1) := by decide +kernel
theorem d_MO_doesLead_12 : decode m_MO_doesLead.2.1 12 = .ok (.getfield 77, 3) := by decide +kernel
theorem d_MO_doesLead_15 : decode m_MO_doesLead.2.1 15 = .ok (.bipush 6, 2) := by decide +kernel
theorem d_MO_doesLead_17 : decode m_MO_doesLead.2.1 17 = .ok (.iload_n 1, 1) := by decide +kernel
theorem d_MO_doesLead_18 : decode m_MO_doesLead.2.1 18 = .ok (.imul, 1) := by decide +kernel
theorem d_MO_doesLead_19 : decode m_MO_doesLead.2.1 19 = .ok (.iload_n 2, 1) := by decide +kernel
theorem d_MO_doesLead_20 : decode m_MO_doesLead.2.1 20 = .ok (.iadd, 1) := by decide +kernel
theorem d_MO_doesLead_21 : decode m_MO_doesLead.2.1 21 = .ok (.iaload, 1) := by decide +kernel
theorem d_MO_doesLead_22 : decode m_MO_doesLead.2.1 22 = .ok (.istore 5, 2) := by decide +kernel
theorem d_MO_doesLead_24 : decode m_MO_doesLead.2.1 24 = .ok (.aload_n 0, 1) := by decide +kernel
theorem d_MO_doesLead_25 : decode m_MO_doesLead.2.1 25 = .ok (.getfield 74, 3) := by decide +kernel
theorem d_MO_doesLead_28 : decode m_MO_doesLead.2.1 28 = .ok (.iload_n 1, 1) := by decide +kernel
theorem d_MO_doesLead_29 : decode m_MO_doesLead.2.1 29 = .ok (.baload, 1) := by decide +kernel
theorem d_MO_doesLead_30 : decode m_MO_doesLead.2.1 30 = .ok (.ifCond .eq 57, 3) := by decide +kernel
theorem d_MO_doesLead_33 : decode m_MO_doesLead.2.1 33 = .ok (.aload_n 0, 1) := by decide +kernel
theorem d_MO_doesLead_34 : decode m_MO_doesLead.2.1 34 = .ok (.getfield 13, 3) := by decide +kernel
theorem d_MO_doesLead_37 : decode m_MO_doesLead.2.1 37 = .ok (.iload 4, 2) := by decide +kernel
theorem d_MO_doesLead_39 : decode m_MO_doesLead.2.1 39 = .ok (.iaload, 1) := by decide +kernel
theorem d_MO_doesLead_40 : decode m_MO_doesLead.2.1 40 = .ok (.iconst 1, 1) := by decide +kernel
theorem d_MO_doesLead_41 : decode m_MO_doesLead.2.1 41 = .ok (.if_icmp .ne 46, 3) := by decide +kernel
theorem d_MO_doesLead_44 : decode m_MO_doesLead.2.1 44 = .ok (.aload_n 0, 1) := by decide +kernel
theorem d_MO_doesLead_45 : decode m_MO_doesLead.2.1 45 = .ok (.getfield 25, 3) := by decide +kernel
theorem d_MO_doesLead_48 : decode m_MO_doesLead.2.1 48 = .ok (.iload 4, 2) := by decide +kernel
theorem d_MO_doesLead_50 : decode m_MO_doesLead.2.1 50 = .ok (.iaload, 1) := by decide +kernel
theorem d_MO_doesLead_51 : decode m_MO_doesLead.2.1 51 = .ok (.iload_n 3, 1) := by decide +kernel
theorem d_MO_doesLead_52 : decode m_MO_doesLead.2.1 52 = .ok (.if_icmp .ne 35, 3) := by decide +kernel
theorem d_MO_doesLead_55 : decode m_MO_doesLead.2.1 55 = .ok (.iload 5, 2) := by decide +kernel
theorem d_MO_doesLead_57 : decode m_MO_doesLead.2.1 57 = .ok (.ldc 186, 2) := by decide +kernel
theorem d_MO_doesLead_59 : decode m_MO_doesLead.2.1 59 = .ok (.if_icmp .eq 28, 3) := by decide +kernel
theorem d_MO_doesLead_62 : decode m_MO_doesLead.2.1 62 = .ok (.aload_n 0, 1) := by decide +kernel
theorem d_MO_doesLead_63 : decode m_MO_doesLead.2.1 63 = .ok (.getfield 87, 3) := by decide +kernel
theorem d_MO_doesLead_66 : decode m_MO_doesLead.2.1 66 = .ok (.bipush 30, 2) := by decide +kernel
theorem d_MO_doesLead_68 : decode m_MO_doesLead.2.1 68 = .ok (.aload_n 0, 1) := by decide +kernel
theorem d_MO_doesLead_69 : decode m_MO_doesLead.2.1 69 = .ok (.getfield 22, 3) := by decide +kernel
theorem d_MO_doesLead_72 : decode m_MO_doesLead.2.1 72 = .ok (.iload 4, 2) := by decide +kernel
theorem d_MO_doesLead_74 : decode m_MO_doesLead.2.1 74 = .ok (.iaload, 1) := by decide +kernel
theorem d_MO_doesLead_75 : decode m_MO_doesLead.2.1 75 = .ok (.imul, 1) := by decide +kernel
theorem d_MO_doesLead_76 : decode m_MO_doesLead.2.1 76 = .ok (.iload 5, 2) := by decide +kernel
theorem d_MO_doesLead_78 : decode m_MO_doesLead.2.1 78 = .ok (.iadd, 1) := by decide +kernel
theorem d_MO_doesLead_79 : decode m_MO_doesLead.2.1 79 = .ok (.baload, 1) := by decide +kernel
theorem d_MO_doesLead_80 : decode m_MO_doesLead.2.1 80 = .ok (.ifCond .eq 7, 3) := by decide +kernel
theorem d_MO_doesLead_83 : decode m_MO_doesLead.2.1 83 = .ok (.iconst 1, 1) := by decide +kernel
theorem d_MO_doesLead_84 : decode m_MO_doesLead.2.1 84 = .ok (.goto 4, 3) := by decide +kernel
theorem d_MO_doesLead_87 : decode m_MO_doesLead.2.1 87 = .ok (.iconst 0, 1) := by decide +kernel
theorem d_MO_doesLead_88 : decode m_MO_doesLead.2.1 88 = .ok (.ireturn, 1) := by decide +kernel
theorem d_MO_doesMeet_0 : decode m_MO_doesMeet.2.1 0 = .ok (.aload_n 0, 1) := by decide +kernel
theorem d_MO_doesMeet_1 : decode m_MO_doesMeet.2.1 1 = .ok (.getfield 141, 3) := by decide +kernel
theorem d_MO_doesMeet_4 : decode m_MO_doesMeet.2.1 4 = .ok (.iload_n 1, 1) := by decide +kernel
theorem d_MO_doesMeet_5 : decode m_MO_doesMeet.2.1 5 = .ok (.iaload, 1) := by decide +kernel
theorem d_MO_doesMeet_6 : decode m_MO_doesMeet.2.1 6 = .ok (.istore_n 3, 1) := by decide +kernel
theorem d_MO_doesMeet_7 : decode m_MO_doesMeet.2.1 7 = .ok (.aload_n 0, 1) := by decide +kernel
theorem d_MO_doesMeet_8 : decode m_MO_doesMeet.2.1 8 = .ok (.getfield 138, 3) := by decide +kernel
theorem d_MO_doesMeet_11 : decode m_MO_doesMeet.2.1 11 = .ok (.iload_n 1, 1) := by decide +kernel
theorem d_MO_doesMeet_12 : decode m_MO_doesMeet.2.1 12 = .ok (.iaload, 1) := by decide +kernel
theorem d_MO_doesMeet_13 : decode m_MO_doesMeet.2.1 13 = .ok (.iconst 3, 1) := by decide +kernel
theorem d_MO_doesMeet_14 : decode m_MO_doesMeet.2.1 14 = .ok (.if_icmp .eq 9, 3) := by decide +kernel
theorem d_MO_doesMeet_17 : decode m_MO_doesMeet.2.1 17 = .ok (.iload_n 2, 1) := by decide +kernel
theorem d_MO_doesMeet_18 : decode m_MO_doesMeet.2.1 18 = .ok (.ldc 186, 2) := by decide +kernel
theorem d_MO_doesMeet_20 : decode m_MO_doesMeet.2.1 20 = .ok (.if_icmp .ne 25, 3) := by decide +kernel
theorem d_MO_doesMeet_23 : decode m_MO_doesMeet.2.1 23 = .ok (.aload_n 0, 1) := by decide +kernel
theorem d_MO_doesMeet_24 : decode m_MO_doesMeet.2.1 24 = .ok (.getfield 138, 3) := by decide +kernel
theorem d_MO_doesMeet_27 : decode m_MO_doesMeet.2.1 27 = .ok (.iload_n 1, 1) := by decide +kernel
theorem d_MO_doesMeet_28 : decode m_MO_doesMeet.2.1 28 = .ok (.iaload, 1) := by decide +kernel
theorem d_MO_doesMeet_29 : decode m_MO_doesMeet.2.1 29 = .ok (.iconst 3, 1) := by decide +kernel
theorem d_MO_doesMeet_30 : decode m_MO_doesMeet.2.1 30 = .ok (.if_icmp .ne 13, 3) := by decide +kernel
theorem d_MO_doesMeet_33 : decode m_MO_doesMeet.2.1 33 = .ok (.iload_n 2, 1) := by decide +kernel
theorem d_MO_doesMeet_34 : decode m_MO_doesMeet.2.1 34 = .ok (.ldc 186, 2) := by decide +kernel
theorem d_MO_doesMeet_36 : decode m_MO_doesMeet.2.1 36 = .ok (.if_icmp .ne 7, 3) := by decide +kernel
theorem d_MO_doesMeet_39 : decode m_MO_doesMeet.2.1 39 = .ok (.iconst 1, 1) := by decide +kernel
theorem d_MO_doesMeet_40 : decode m_MO_doesMeet.2.1 40 = .ok (.goto 4, 3) := by decide +kernel
theorem d_MO_doesMeet_43 : decode m_MO_doesMeet.2.1 43 = .ok (.iconst 0, 1) := by decide +kernel
theorem d_MO_doesMeet_44 : decode m_MO_doesMeet.2.1 44 = .ok (.ireturn, 1) := by decide +kernel
theorem d_MO_doesMeet_45 : decode m_MO_doesMeet.2.1 45 = .ok (.aload_n 0, 1) := by decide +kernel
theorem d_MO_doesMeet_46 : decode m_MO_doesMeet.2.1 46 = .ok (.getfield 138, 3) := by decide +kernel
theorem d_MO_doesMeet_49 : decode m_MO_doesMeet.2.1 49 = .ok (.iload_n 1, 1) := by decide +kernel
theorem d_MO_doesMeet_50 : decode m_MO_doesMeet.2.1 50 = .ok (.iaload, 1) := by decide +kernel
theorem d_MO_doesMeet_51 : decode m_MO_doesMeet.2.1 51 = .ok (.ifCond .ne 16, 3) := by decide +kernel
theorem d_MO_doesMeet_54 : decode m_MO_doesMeet.2.1 54 = .ok (.iload_n 2, 1) := by decide +kernel
theorem d_MO_doesMeet_55 : decode m_MO_doesMeet.2.1 55 = .ok (.iload_n 3, 1) := by decide +kernel
theorem d_MO_doesMeet_56 : decode m_MO_doesMeet.2.1 56 = .ok (.if_icmp .ne 7, 3) := by decide +kernel
theorem d_MO_doesMeet_59 : decode m_MO_doesMeet.2.1 59 = .ok (.iconst 1, 1) := by decide +kernel
theorem d_MO_doesMeet_60 : decode m_MO_doesMeet.2.1 60 = .ok (.goto 40, 3) := by decide +kernel
theorem d_MO_doesMeet_63 : decode m_MO_doesMeet.2.1 63 = .ok (.iconst 0, 1) := by decide +kernel
theorem d_MO_doesMeet_64 : decode m_MO_doesMeet.2.1 64 = .ok (.goto 36, 3) := by decide +kernel
theorem d_MO_doesMeet_67 : decode m_MO_doesMeet.2.1 67 = .ok (.aload_n 0, 1) := by decide +kernel
theorem d_MO_doesMeet_68 : decode m_MO_doesMeet.2.1 68 = .ok (.getfield 138, 3) := by decide +kernel
theorem d_MO_doesMeet_71 : decode m_MO_doesMeet.2.1 71 = .ok (.iload_n 1, 1) := by decide +kernel
theorem d_MO_doesMeet_72 : decode m_MO_doesMeet.2.1 72 = .ok (.iaload, 1) := by decide +kernel
theorem d_MO_doesMeet_73 : decode m_MO_doesMeet.2.1 73 = .ok (.iconst 1, 1) := by decide +kernel
theorem d_MO_doesMeet_74 : decode m_MO_doesMeet.2.1 74 = .ok (.if_icmp .ne 16, 3) := by decide +kernel
theorem d_MO_doesMeet_77 : decode m_MO_doesMeet.2.1 77 = .ok (.iload_n 2, 1) := by decide +kernel
theorem d_MO_doesMeet_78 : decode m_MO_doesMeet.2.1 78 = .ok (.iload_n 3, 1) := by decide +kernel
theorem d_MO_doesMeet_79 : decode m_MO_doesMeet.2.1 79 = .ok (.if_icmp .lt 7, 3) := by decide +kernel
theorem d_MO_doesMeet_82 : decode m_MO_doesMeet.2.1 82 = .ok (.iconst 1, 1) := by decide +kernel
theorem d_MO_doesMeet_83 : decode m_MO_doesMeet.2.1 83 = .ok (.goto 17, 3) := by decide +kernel
theorem d_MO_doesMeet_86 : decode m_MO_doesMeet.2.1 86 = .ok (.iconst 0, 1) := by decide +kernel
theorem d_MO_doesMeet_87 : decode m_MO_doesMeet.2.1 87 = .ok (.goto 13, 3) := by decide +kernel
theorem d_MO_doesMeet_90 : decode m_MO_doesMeet.2.1 90 = .ok (.iload_n 2, 1) := by decide +kernel
theorem d_MO_doesMeet_91 : decode m_MO_doesMeet.2.1 91 = .ok (.iload_n 3, 1) := by decide +kernel
theorem d_MO_doesMeet_92 : decode m_MO_doesMeet.2.1 92 = .ok (.if_icmp .gt 7, 3) := by decide +kernel
theorem d_MO_doesMeet_95 : decode m_MO_doesMeet.2.1 95 = .ok (.iconst 1, 1) := by decide +kernel
theorem d_MO_doesMeet_96 : decode m_MO_doesMeet.2.1 96 = .ok (.goto 4, 3) := by decide +kernel
theorem d_MO_doesMeet_99 : decode m_MO_doesMeet.2.1 99 = .ok (.iconst 0, 1) := by decide +kernel
theorem d_MO_doesMeet_100 : decode m_MO_doesMeet.2.1 100 = .ok (.ireturn, 1) := by decide +kernel
theorem d_MO_doesPut_0 : decode m_MO_doesPut.2.1 0 = .ok (.aload_n 0, 1) := by decide +kernel
theorem d_MO_doesPut_1 : decode m_MO_doesPut.2.1 1 = .ok (.aload_n 0, 1) := by decide +kernel
theorem d_MO_doesPut_2 : decode m_MO_doesPut.2.1 2 = .ok (.getfield 171, 3) := by decide +kernel
theorem d_MO_doesPut_5 : decode m_MO_doesPut.2.1 5 = .ok (.iload_n 1, 1) := by decide +kernel
theorem d_MO_doesPut_6 : decode m_MO_doesPut.2.1 6 = .ok (.iaload, 1) := by decide +kernel
theorem d_MO_doesPut_7 : decode m_MO_doesPut.2.1 7 = .ok (.aload_n 0, 1) := by decide +kernel
theorem d_MO_doesPut_8 : decode m_MO_doesPut.2.1 8 = .ok (.getfield 174, 3) := by decide +kernel
theorem d_MO_doesPut_11 : decode m_MO_doesPut.2.1 11 = .ok (.iload_n 1, 1) := by decide +kernel
theorem d_MO_doesPut_12 : decode m_MO_doesPut.2.1 12 = .ok (.iaload, 1) := by decide +kernel
theorem d_MO_doesPut_13 : decode m_MO_doesPut.2.1 13 = .ok (.invokevirtual 479, 3) := by decide +kernel
theorem d_MO_doesPut_16 : decode m_MO_doesPut.2.1 16 = .ok (.istore_n 2, 1) := by decide +kernel
theorem d_MO_doesPut_17 : decode m_MO_doesPut.2.1 17 = .ok (.aload_n 0, 1) := by decide +kernel
theorem d_MO_doesPut_18 : decode m_MO_doesPut.2.1 18 = .ok (.aload_n 0, 1) := by decide +kernel
theorem d_MO_doesPut_19 : decode m_MO_doesPut.2.1 19 = .ok (.getfield 171, 3) := by decide +kernel
theorem d_MO_doesPut_22 : decode m_MO_doesPut.2.1 22 = .ok (.iload_n 1, 1) := by decide +kernel
theorem d_MO_doesPut_23 : decode m_MO_doesPut.2.1 23 = .ok (.iaload, 1) := by decide +kernel
theorem d_MO_doesPut_24 : decode m_MO_doesPut.2.1 24 = .ok (.aload_n 0, 1) := by decide +kernel
theorem d_MO_doesPut_25 : decode m_MO_doesPut.2.1 25 = .ok (.getfield 174, 3) := by decide +kernel
theorem d_MO_doesPut_28 : decode m_MO_doesPut.2.1 28 = .ok (.iload_n 1, 1) := by decide +kernel
theorem d_MO_doesPut_29 : decode m_MO_doesPut.2.1 29 = .ok (.iaload, 1) := by decide +kernel
theorem d_MO_doesPut_30 : decode m_MO_doesPut.2.1 30 = .ok (.invokevirtual 464, 3) := by decide +kernel
theorem d_MO_doesPut_33 : decode m_MO_doesPut.2.1 33 = .ok (.istore_n 3, 1) := by decide +kernel
theorem d_MO_doesPut_34 : decode m_MO_doesPut.2.1 34 = .ok (.iload_n 2, 1) := by decide +kernel
theorem d_MO_doesPut_35 : decode m_MO_doesPut.2.1 35 = .ok (.ifCond .le 13, 3) := by decide +kernel
theorem d_MO_doesPut_38 : decode m_MO_doesPut.2.1 38 = .ok (.iload_n 3, 1) := by decide +kernel
theorem d_MO_doesPut_39 : decode m_MO_doesPut.2.1 39 = .ok (.iconst (-1), 1) := by decide +kernel
theorem d_MO_doesPut_40 : decode m_MO_doesPut.2.1 40 = .ok (.if_icmp .ne 8, 3) := by decide +kernel
theorem d_MO_doesPut_43 : decode m_MO_doesPut.2.1 43 = .ok (.aload_n 0, 1) := by decide +kernel
theorem d_MO_doesPut_44 : decode m_MO_doesPut.2.1 44 = .ok (.invokevirtual 482, 3) := by decide +kernel
theorem d_MO_doesPut_47 : decode m_MO_doesPut.2.1 47 = .ok (.ireturn, 1) := by decide +kernel
theorem d_MO_doesPut_48 : decode m_MO_doesPut.2.1 48 = .ok (.iconst 1, 1) := by decide +kernel
theorem d_MO_doesPut_49 : decode m_MO_doesPut.2.1 49 = .ok (.istore 4, 2) := by decide +kernel
theorem d_MO_doesPut_51 : decode m_MO_doesPut.2.1 51 = .ok (.iconst 0, 1) := by decide +kernel
theorem d_MO_doesPut_52 : decode m_MO_doesPut.2.1 52 = .ok (.istore 5, 2) := by decide +kernel
theorem d_MO_doesPut_54 : decode m_MO_doesPut.2.1 54 = .ok (.iload 5, 2) := by decide +kernel
theorem d_MO_doesPut_56 : decode m_MO_doesPut.2.1 56 = .ok (.iload_n 2, 1) := by decide +kernel
theorem d_MO_doesPut_57 : decode m_MO_doesPut.2.1 57 = .ok (.if_icmp .ge 41, 3) := by decide +kernel
theorem d_MO_doesPut_60 : decode m_MO_doesPut.2.1 60 = .ok (.iload 4, 2) := by decide +kernel
theorem d_MO_doesPut_62 : decode m_MO_doesPut.2.1 62 = .ok (.ifCond .eq 36, 3) := by decide +kernel
theorem d_MO_doesPut_65 : decode m_MO_doesPut.2.1 65 = .ok (.aload_n 0, 1) := by decide +kernel
theorem d_MO_doesPut_66 : decode m_MO_doesPut.2.1 66 = .ok (.iload_n 3, 1) := by decide +kernel
theorem d_MO_doesPut_67 : decode m_MO_doesPut.2.1 67 = .ok (.bipush 6, 2) := by decide +kernel
theorem d_MO_doesPut_69 : decode m_MO_doesPut.2.1 69 = .ok (.idiv, 1) := by decide +kernel
theorem d_MO_doesPut_70 : decode m_MO_doesPut.2.1 70 = .ok (.aload_n 0, 1) := by decide +kernel
theorem d_MO_doesPut_71 : decode m_MO_doesPut.2.1 71 = .ok (.getfield 183, 3) := by decide +kernel
theorem d_MO_doesPut_74 : decode m_MO_doesPut.2.1 74 = .ok (.iload 5, 2) := by decide +kernel
theorem d_MO_doesPut_76 : decode m_MO_doesPut.2.1 76 = .ok (.iaload, 1) := by decide +kernel
theorem d_MO_doesPut_77 : decode m_MO_doesPut.2.1 77 = .ok (.iload_n 3, 1) := by decide +kernel
theorem d_MO_doesPut_78 : decode m_MO_doesPut.2.1 78 = .ok (.bipush 6, 2) := by decide +kernel
theorem d_MO_doesPut_80 : decode m_MO_doesPut.2.1 80 = .ok (.irem, 1) := by decide +kernel
theorem d_MO_doesPut_81 : decode m_MO_doesPut.2.1 81 = .ok (.aload_n 0, 1) := by decide +kernel
theorem d_MO_doesPut_82 : decode m_MO_doesPut.2.1 82 = .ok (.getfield 177, 3) := by decide +kernel
theorem d_MO_doesPut_85 : decode m_MO_doesPut.2.1 85 = .ok (.iload_n 1, 1) := by decide +kernel
theorem d_MO_doesPut_86 : decode m_MO_doesPut.2.1 86 = .ok (.iaload, 1) := by decide +kernel
theorem d_MO_doesPut_87 : decode m_MO_doesPut.2.1 87 = .ok (.invokevirtual 370, 3) := by decide +kernel
theorem d_MO_doesPut_90 : decode m_MO_doesPut.2.1 90 = .ok (.istore 4, 2) := by decide +kernel
theorem d_MO_doesPut_92 : decode m_MO_doesPut.2.1 92 = .ok (.iinc 5 1, 3) := by decide +kernel
theorem d_MO_doesPut_95 : decode m_MO_doesPut.2.1 95 = .ok (.goto (-41), 3) := by decide +kernel
theorem d_MO_doesPut_98 : decode m_MO_doesPut.2.1 98 = .ok (.iload 4, 2) := by decide +kernel
theorem d_MO_doesPut_100 : decode m_MO_doesPut.2.1 100 = .ok (.ireturn, 1) := by decide +kernel
theorem d_MO_doesRemove_0 : decode m_MO_doesRemove.2.1 0 = .ok (.aload_n 0, 1) := by decide +kernel
theorem d_MO_doesRemove_1 : decode m_MO_doesRemove.2.1 1 = .ok (.aload_n 0, 1) := by decide +kernel
theorem d_MO_doesRemove_2 : decode m_MO_doesRemove.2.1 2 = .ok (.getfield 171, 3) := by decide +kernel
theorem d_MO_doesRemove_5 : decode m_MO_doesRemove.2.1 5 = .ok (.iload_n 1, 1) := by decide +kernel
theorem d_MO_doesRemove_6 : decode m_MO_doesRemove.2.1 6 = .ok (.iaload, 1) := by decide +kernel
theorem d_MO_doesRemove_7 : decode m_MO_doesRemove.2.1 7 = .ok (.aload_n 0, 1) := by decide +kernel
theorem d_MO_doesRemove_8 : decode m_MO_doesRemove.2.1 8 = .ok (.getfield 174, 3) := by decide +kernel
theorem d_MO_doesRemove_11 : decode m_MO_doesRemove.2.1 11 = .ok (.iload_n 1, 1) := by decide +kernel
theorem d_MO_doesRemove_12 : decode m_MO_doesRemove.2.1 12 = .ok (.iaload, 1) := by decide +kernel
theorem d_MO_doesRemove_13 : decode m_MO_doesRemove.2.1 13 = .ok (.invokevirtual 479, 3) := by decide +kernel
theorem d_MO_doesRemove_16 : decode m_MO_doesRemove.2.1 16 = .ok (.istore_n 2, 1) := by decide +kernel
theorem d_MO_doesRemove_17 : decode m_MO_doesRemove.2.1 17 = .ok (.aload_n 0, 1) := by decide +kernel
theorem d_MO_doesRemove_18 : decode m_MO_doesRemove.2.1 18 = .ok (.getfield 156, 3) := by decide +kernel
theorem d_MO_doesRemove_21 : decode m_MO_doesRemove.2.1 21 = .ok (.bipush 54, 2) := by decide +kernel
theorem d_MO_doesRemove_23 : decode m_MO_doesRemove.2.1 23 = .ok (.aload_n 0, 1) := by decide +kernel
theorem d_MO_doesRemove_24 : decode m_MO_doesRemove.2.1 24 = .ok (.getfield 171, 3) := by decide +kernel
theorem d_MO_doesRemove_27 : decode m_MO_doesRemove.2.1 27 = .ok (.iload_n 1, 1) := by decide +kernel
theorem d_MO_doesRemove_28 : decode m_MO_doesRemove.2.1 28 = .ok (.iaload, 1) := by decide +kernel
theorem d_MO_doesRemove_29 : decode m_MO_doesRemove.2.1 29 = .ok (.imul, 1) := by decide +kernel
theorem d_MO_doesRemove_30 : decode m_MO_doesRemove.2.1 30 = .ok (.aload_n 0, 1) := by decide +kernel
theorem d_MO_doesRemove_31 : decode m_MO_doesRemove.2.1 31 = .ok (.getfield 174, 3) := by decide +kernel
theorem d_MO_doesRemove_34 : decode m_MO_doesRemove.2.1 34 = .ok (.iload_n 1, 1) := by decide +kernel
theorem d_MO_doesRemove_35 : decode m_MO_doesRemove.2.1 35 = .ok (.iaload, 1) := by decide +kernel
theorem d_MO_doesRemove_36 : decode m_MO_doesRemove.2.1 36 = .ok (.iadd, 1) := by decide +kernel
theorem d_MO_doesRemove_37 : decode m_MO_doesRemove.2.1 37 = .ok (.iaload, 1) := by decide +kernel
theorem d_MO_doesRemove_38 : decode m_MO_doesRemove.2.1 38 = .ok (.istore_n 3, 1) := by decide +kernel
theorem d_MO_doesRemove_39 : decode m_MO_doesRemove.2.1 39 = .ok (.iload_n 2, 1) := by decide +kernel
theorem d_MO_doesRemove_40 : decode m_MO_doesRemove.2.1 40 = .ok (.ifCond .le 13, 3) := by decide +kernel
theorem d_MO_doesRemove_43 : decode m_MO_doesRemove.2.1 43 = .ok (.iload_n 3, 1) := by decide +kernel
theorem d_MO_doesRemove_44 : decode m_MO_doesRemove.2.1 44 = .ok (.iconst (-1), 1) := by decide +kernel
theorem d_MO_doesRemove_45 : decode m_MO_doesRemove.2.1 45 = .ok (.if_icmp .ne 8, 3) := by decide +kernel
theorem d_MO_doesRemove_48 : decode m_MO_doesRemove.2.1 48 = .ok (.aload_n 0, 1) := by decide +kernel
theorem d_MO_doesRemove_49 : decode m_MO_doesRemove.2.1 49 = .ok (.invokevirtual 482, 3) := by decide +kernel
theorem d_MO_doesRemove_52 : decode m_MO_doesRemove.2.1 52 = .ok (.ireturn, 1) := by decide +kernel
theorem d_MO_doesRemove_53 : decode m_MO_doesRemove.2.1 53 = .ok (.iconst 1, 1) := by decide +kernel
theorem d_MO_doesRemove_54 : decode m_MO_doesRemove.2.1 54 = .ok (.istore 4, 2) := by decide +kernel
theorem d_MO_doesRemove_56 : decode m_MO_doesRemove.2.1 56 = .ok (.iconst 0, 1) := by decide +kernel
theorem d_MO_doesRemove_57 : decode m_MO_doesRemove.2.1 57 = .ok (.istore 5, 2) := by decide +kernel
theorem d_MO_doesRemove_59 : decode m_MO_doesRemove.2.1 59 = .ok (.iload 5, 2) := by decide +kernel
theorem d_MO_doesRemove_61 : decode m_MO_doesRemove.2.1 61 = .ok (.iload_n 2, 1) := by decide +kernel
theorem d_MO_doesRemove_62 : decode m_MO_doesRemove.2.1 62 = .ok (.if_icmp .ge 57, 3) := by decide +kernel
theorem d_MO_doesRemove_65 : decode m_MO_doesRemove.2.1 65 = .ok (.iload 4, 2) := by decide +kernel
theorem d_MO_doesRemove_67 : decode m_MO_doesRemove.2.1 67 = .ok (.ifCond .eq 52, 3) := by decide +kernel
theorem d_MO_doesRemove_70 : decode m_MO_doesRemove.2.1 70 = .ok (.aload_n 0, 1) := by decide +kernel
theorem d_MO_doesRemove_71 : decode m_MO_doesRemove.2.1 71 = .ok (.iload_n 3, 1) := by decide +kernel
theorem d_MO_doesRemove_72 : decode m_MO_doesRemove.2.1 72 = .ok (.bipush 6, 2) := by decide +kernel
theorem d_MO_doesRemove_74 : decode m_MO_doesRemove.2.1 74 = .ok (.idiv, 1) := by decide +kernel
theorem d_MO_doesRemove_75 : decode m_MO_doesRemove.2.1 75 = .ok (.aload_n 0, 1) := by decide +kernel
theorem d_MO_doesRemove_76 : decode m_MO_doesRemove.2.1 76 = .ok (.getfield 183, 3) := by decide +kernel
theorem d_MO_doesRemove_79 : decode m_MO_doesRemove.2.1 79 = .ok (.iload 5, 2) := by decide +kernel
theorem d_MO_doesRemove_81 : decode m_MO_doesRemove.2.1 81 = .ok (.iaload, 1) := by decide +kernel
theorem d_MO_doesRemove_82 : decode m_MO_doesRemove.2.1 82 = .ok (.invokevirtual 233, 3) := by decide +kernel
theorem d_MO_doesRemove_85 : decode m_MO_doesRemove.2.1 85 = .ok (.ifCond .eq 21, 3) := by decide +kernel
theorem d_MO_doesRemove_88 : decode m_MO_doesRemove.2.1 88 = .ok (.aload_n 0, 1) := by decide +kernel
theorem d_MO_doesRemove_89 : decode m_MO_doesRemove.2.1 89 = .ok (.iload_n 3, 1) := by decide +kernel
theorem d_MO_doesRemove_90 : decode m_MO_doesRemove.2.1 90 = .ok (.bipush 6, 2) := by decide +kernel
theorem d_MO_doesRemove_92 : decode m_MO_doesRemove.2.1 92 = .ok (.idiv, 1) := by decide +kernel
theorem d_MO_doesRemove_93 : decode m_MO_doesRemove.2.1 93 = .ok (.aload_n 0, 1) := by decide +kernel
theorem d_MO_doesRemove_94 : decode m_MO_doesRemove.2.1 94 = .ok (.getfield 183, 3) := by decide +kernel
theorem d_MO_doesRemove_97 : decode m_MO_doesRemove.2.1 97 = .ok (.iload 5, 2) := by decide +kernel
theorem d_MO_doesRemove_99 : decode m_MO_doesRemove.2.1 99 = .ok (.iaload, 1) := by decide +kernel
theorem d_MO_doesRemove_100 : decode m_MO_doesRemove.2.1 100 = .ok (.invokevirtual 382, 3) := by decide +kernel
theorem d_MO_doesRemove_103 : decode m_MO_doesRemove.2.1 103 = .ok (.ifCond .eq 7, 3) := by decide +kernel
theorem d_MO_doesRemove_106 : decode m_MO_doesRemove.2.1 106 = .ok (.iconst 1, 1) := by decide +kernel
theorem d_MO_doesRemove_107 : decode m_MO_doesRemove.2.1 107 = .ok (.goto 4, 3) := by decide +kernel
theorem d_MO_doesRemove_110 : decode m_MO_doesRemove.2.1 110 = .ok (.iconst 0, 1) := by decide +kernel
theorem d_MO_doesRemove_111 : decode m_MO_doesRemove.2.1 111 = .ok (.istore 4, 2) := by decide +kernel
theorem d_MO_doesRemove_113 : decode m_MO_doesRemove.2.1 113 = .ok (.iinc 5 1, 3) := by decide +kernel
theorem d_MO_doesRemove_116 : decode m_MO_doesRemove.2.1 116 = .ok (.goto (-57), 3) := by decide +kernel
theorem d_MO_doesRemove_119 : decode m_MO_doesRemove.2.1 119 = .ok (.iload 4, 2) := by decide +kernel
theorem d_MO_doesRemove_121 : decode m_MO_doesRemove.2.1 121 = .ok (.ireturn, 1) := by decide +kernel
theorem d_MO_doesStep_0 : decode m_MO_doesStep.2.1 0 = .ok (.aload_n 0, 1) := by decide +kernel
theorem d_MO_doesStep_1 : decode m_MO_doesStep.2.1 1 = .ok (.getfield 168, 3) := by decide +kernel
theorem d_MO_doesStep_4 : decode m_MO_doesStep.2.1 4 = .ok (.iload_n 1, 1) := by decide +kernel
theorem d_MO_doesStep_5 : decode m_MO_doesStep.2.1 5 = .ok (.iaload, 1) := by decide +kernel
theorem d_MO_doesStep_6 : decode m_MO_doesStep.2.1 6 = .ok (.ifCond .ne 11, 3) := by decide +kernel
theorem d_MO_doesStep_9 : decode m_MO_doesStep.2.1 9 = .ok (.aload_n 0, 1) := by decide +kernel
theorem d_MO_doesStep_10 : decode m_MO_doesStep.2.1 10 = .ok (.iload_n 1, 1) := by decide +kernel
theorem d_MO_doesStep_11 : decode m_MO_doesStep.2.1 11 = .ok (.invokevirtual 485, 3) := by decide +kernel
theorem d_MO_doesStep_14 : decode m_MO_doesStep.2.1 14 = .ok (.goto 44, 3) := by decide +kernel
theorem d_MO_doesStep_17 : decode m_MO_doesStep.2.1 17 = .ok (.aload_n 0, 1) := by decide +kernel
theorem d_MO_doesStep_18 : decode m_MO_doesStep.2.1 18 = .ok (.getfield 168, 3) := by decide +kernel
theorem d_MO_doesStep_21 : decode m_MO_doesStep.2.1 21 = .ok (.iload_n 1, 1) := by decide +kernel
theorem d_MO_doesStep_22 : decode m_MO_doesStep.2.1 22 = .ok (.iaload, 1) := by decide +kernel
theorem d_MO_doesStep_23 : decode m_MO_doesStep.2.1 23 = .ok (.iconst 1, 1) := by decide +kernel
theorem d_MO_doesStep_24 : decode m_MO_doesStep.2.1 24 = .ok (.if_icmp .ne 11, 3) := by decide +kernel
theorem d_MO_doesStep_27 : decode m_MO_doesStep.2.1 27 = .ok (.aload_n 0, 1) := by decide +kernel
theorem d_MO_doesStep_28 : decode m_MO_doesStep.2.1 28 = .ok (.iload_n 1, 1) := by decide +kernel
theorem d_MO_doesStep_29 : decode m_MO_doesStep.2.1 29 = .ok (.invokevirtual 488, 3) := by decide +kernel
theorem d_MO_doesStep_32 : decode m_MO_doesStep.2.1 32 = .ok (.goto 26, 3) := by decide +kernel
theorem d_MO_doesStep_35 : decode m_MO_doesStep.2.1 35 = .ok (.aload_n 0, 1) := by decide +kernel
theorem d_MO_doesStep_36 : decode m_MO_doesStep.2.1 36 = .ok (.getfield 168, 3) := by decide +kernel
theorem d_MO_doesStep_39 : decode m_MO_doesStep.2.1 39 = .ok (.iload_n 1, 1) := by decide +kernel
theorem d_MO_doesStep_40 : decode m_MO_doesStep.2.1 40 = .ok (.iaload, 1) := by decide +kernel
theorem d_MO_doesStep_41 : decode m_MO_doesStep.2.1 41 = .ok (.iconst 2, 1) := by decide +kernel
theorem d_MO_doesStep_42 : decode m_MO_doesStep.2.1 42 = .ok (.if_icmp .ne 11, 3) := by decide +kernel
theorem d_MO_doesStep_45 : decode m_MO_doesStep.2.1 45 = .ok (.aload_n 0, 1) := by decide +kernel
theorem d_MO_doesStep_46 : decode m_MO_doesStep.2.1 46 = .ok (.iload_n 1, 1) := by decide +kernel
theorem d_MO_doesStep_47 : decode m_MO_doesStep.2.1 47 = .ok (.invokevirtual 491, 3) := by decide +kernel
theorem d_MO_doesStep_50 : decode m_MO_doesStep.2.1 50 = .ok (.ifCond .eq 7, 3) := by decide +kernel
theorem d_MO_doesStep_53 : decode m_MO_doesStep.2.1 53 = .ok (.iconst 1, 1) := by decide +kernel
theorem d_MO_doesStep_54 : decode m_MO_doesStep.2.1 54 = .ok (.goto 4, 3) := by decide +kernel
theorem d_MO_doesStep_57 : decode m_MO_doesStep.2.1 57 = .ok (.iconst 0, 1) := by decide +kernel
theorem d_MO_doesStep_58 : decode m_MO_doesStep.2.1 58 = .ok (.ireturn, 1) := by decide +kernel

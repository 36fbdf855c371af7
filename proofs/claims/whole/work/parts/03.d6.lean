theorem d_MO_drop_0 : decode m_MO_drop.2.1 0 = .ok (.aload_n 0, 1) := by decide +kernel
theorem d_MO_drop_1 : decode m_MO_drop.2.1 1 = .ok (.aload_n 0, 1) := by decide +kernel
theorem d_MO_drop_2 : decode m_MO_drop.2.1 2 = .ok (.iload_n 1, 1) := by decide +kernel
theorem d_MO_drop_3 : decode m_MO_drop.2.1 3 = .ok (.iload_n 2, 1) := by decide +kernel
theorem d_MO_drop_4 : decode m_MO_drop.2.1 4 = .ok (.invokevirtual 305, 3) := by decide +kernel
theorem d_MO_drop_7 : decode m_MO_drop.2.1 7 = .ok (.ifCond .ne 7, 3) := by decide +kernel
theorem d_MO_drop_10 : decode m_MO_drop.2.1 10 = .ok (.iconst 1, 1) := by decide +kernel
theorem d_MO_drop_11 : decode m_MO_drop.2.1 11 = .ok (.goto 18, 3) := by decide +kernel
theorem d_MO_drop_14 : decode m_MO_drop.2.1 14 = .ok (.aload_n 0, 1) := by decide +kernel
theorem d_MO_drop_15 : decode m_MO_drop.2.1 15 = .ok (.iload_n 1, 1) := by decide +kernel
theorem d_MO_drop_16 : decode m_MO_drop.2.1 16 = .ok (.iload_n 2, 1) := by decide +kernel
theorem d_MO_drop_17 : decode m_MO_drop.2.1 17 = .ok (.invokevirtual 308, 3) := by decide +kernel
theorem d_MO_drop_20 : decode m_MO_drop.2.1 20 = .ok (.iconst 3, 1) := by decide +kernel
theorem d_MO_drop_21 : decode m_MO_drop.2.1 21 = .ok (.if_icmp .ne 7, 3) := by decide +kernel
theorem d_MO_drop_24 : decode m_MO_drop.2.1 24 = .ok (.iconst 2, 1) := by decide +kernel
theorem d_MO_drop_25 : decode m_MO_drop.2.1 25 = .ok (.goto 4, 3) := by decide +kernel
theorem d_MO_drop_28 : decode m_MO_drop.2.1 28 = .ok (.iconst 0, 1) := by decide +kernel
theorem d_MO_drop_29 : decode m_MO_drop.2.1 29 = .ok (.invokevirtual 292, 3) := by decide +kernel
theorem d_MO_drop_32 : decode m_MO_drop.2.1 32 = .ok (.ifCond .ne 5, 3) := by decide +kernel
theorem d_MO_drop_35 : decode m_MO_drop.2.1 35 = .ok (.iconst 0, 1) := by decide +kernel
theorem d_MO_drop_36 : decode m_MO_drop.2.1 36 = .ok (.ireturn, 1) := by decide +kernel
theorem d_MO_drop_37 : decode m_MO_drop.2.1 37 = .ok (.aload_n 0, 1) := by decide +kernel
theorem d_MO_drop_38 : decode m_MO_drop.2.1 38 = .ok (.iload_n 1, 1) := by decide +kernel
theorem d_MO_drop_39 : decode m_MO_drop.2.1 39 = .ok (.iload_n 2, 1) := by decide +kernel
theorem d_MO_drop_40 : decode m_MO_drop.2.1 40 = .ok (.invokevirtual 351, 3) := by decide +kernel
theorem d_MO_drop_43 : decode m_MO_drop.2.1 43 = .ok (.ifCond .eq 15, 3) := by decide +kernel
theorem d_MO_drop_46 : decode m_MO_drop.2.1 46 = .ok (.aload_n 0, 1) := by decide +kernel
theorem d_MO_drop_47 : decode m_MO_drop.2.1 47 = .ok (.bipush 8, 2) := by decide +kernel
theorem d_MO_drop_49 : decode m_MO_drop.2.1 49 = .ok (.iload_n 1, 1) := by decide +kernel
theorem d_MO_drop_50 : decode m_MO_drop.2.1 50 = .ok (.iconst (-1), 1) := by decide +kernel
theorem d_MO_drop_51 : decode m_MO_drop.2.1 51 = .ok (.iload_n 2, 1) := by decide +kernel
theorem d_MO_drop_52 : decode m_MO_drop.2.1 52 = .ok (.invokevirtual 261, 3) := by decide +kernel
theorem d_MO_drop_55 : decode m_MO_drop.2.1 55 = .ok (.pop, 1) := by decide +kernel
theorem d_MO_drop_56 : decode m_MO_drop.2.1 56 = .ok (.iconst 0, 1) := by decide +kernel
theorem d_MO_drop_57 : decode m_MO_drop.2.1 57 = .ok (.ireturn, 1) := by decide +kernel
theorem d_MO_drop_58 : decode m_MO_drop.2.1 58 = .ok (.bipush 6, 2) := by decide +kernel
theorem d_MO_drop_60 : decode m_MO_drop.2.1 60 = .ok (.iload_n 1, 1) := by decide +kernel
theorem d_MO_drop_61 : decode m_MO_drop.2.1 61 = .ok (.imul, 1) := by decide +kernel
theorem d_MO_drop_62 : decode m_MO_drop.2.1 62 = .ok (.iload_n 2, 1) := by decide +kernel
theorem d_MO_drop_63 : decode m_MO_drop.2.1 63 = .ok (.iadd, 1) := by decide +kernel
theorem d_MO_drop_64 : decode m_MO_drop.2.1 64 = .ok (.istore_n 3, 1) := by decide +kernel
theorem d_MO_drop_65 : decode m_MO_drop.2.1 65 = .ok (.aload_n 0, 1) := by decide +kernel
theorem d_MO_drop_66 : decode m_MO_drop.2.1 66 = .ok (.getfield 13, 3) := by decide +kernel
theorem d_MO_drop_69 : decode m_MO_drop.2.1 69 = .ok (.iload_n 3, 1) := by decide +kernel
theorem d_MO_drop_70 : decode m_MO_drop.2.1 70 = .ok (.iconst 3, 1) := by decide +kernel
theorem d_MO_drop_71 : decode m_MO_drop.2.1 71 = .ok (.iastore, 1) := by decide +kernel
theorem d_MO_drop_72 : decode m_MO_drop.2.1 72 = .ok (.aload_n 0, 1) := by decide +kernel
theorem d_MO_drop_73 : decode m_MO_drop.2.1 73 = .ok (.getfield 40, 3) := by decide +kernel
theorem d_MO_drop_76 : decode m_MO_drop.2.1 76 = .ok (.iload_n 3, 1) := by decide +kernel
theorem d_MO_drop_77 : decode m_MO_drop.2.1 77 = .ok (.iconst 0, 1) := by decide +kernel
theorem d_MO_drop_78 : decode m_MO_drop.2.1 78 = .ok (.bastore, 1) := by decide +kernel
theorem d_MO_drop_79 : decode m_MO_drop.2.1 79 = .ok (.aload_n 0, 1) := by decide +kernel
theorem d_MO_drop_80 : decode m_MO_drop.2.1 80 = .ok (.getfield 44, 3) := by decide +kernel
theorem d_MO_drop_83 : decode m_MO_drop.2.1 83 = .ok (.iload_n 3, 1) := by decide +kernel
theorem d_MO_drop_84 : decode m_MO_drop.2.1 84 = .ok (.iconst 0, 1) := by decide +kernel
theorem d_MO_drop_85 : decode m_MO_drop.2.1 85 = .ok (.bastore, 1) := by decide +kernel
theorem d_MO_drop_86 : decode m_MO_drop.2.1 86 = .ok (.iconst 0, 1) := by decide +kernel
theorem d_MO_drop_87 : decode m_MO_drop.2.1 87 = .ok (.istore 4, 2) := by decide +kernel
theorem d_MO_drop_89 : decode m_MO_drop.2.1 89 = .ok (.iload 4, 2) := by decide +kernel
theorem d_MO_drop_91 : decode m_MO_drop.2.1 91 = .ok (.bipush 30, 2) := by decide +kernel
theorem d_MO_drop_93 : decode m_MO_drop.2.1 93 = .ok (.if_icmp .ge 23, 3) := by decide +kernel
theorem d_MO_drop_96 : decode m_MO_drop.2.1 96 = .ok (.aload_n 0, 1) := by decide +kernel
theorem d_MO_drop_97 : decode m_MO_drop.2.1 97 = .ok (.getfield 77, 3) := by decide +kernel
theorem d_MO_drop_100 : decode m_MO_drop.2.1 100 = .ok (.iload_n 1, 1) := by decide +kernel
theorem d_MO_drop_101 : decode m_MO_drop.2.1 101 = .ok (.iload 4, 2) := by decide +kernel
theorem d_MO_drop_103 : decode m_MO_drop.2.1 103 = .ok (.iload_n 2, 1) := by decide +kernel
theorem d_MO_drop_104 : decode m_MO_drop.2.1 104 = .ok (.invokestatic 225, 3) := by decide +kernel
theorem d_MO_drop_107 : decode m_MO_drop.2.1 107 = .ok (.ldc 186, 2) := by decide +kernel
theorem d_MO_drop_109 : decode m_MO_drop.2.1 109 = .ok (.iastore, 1) := by decide +kernel
theorem d_MO_drop_110 : decode m_MO_drop.2.1 110 = .ok (.iinc 4 1, 3) := by decide +kernel
theorem d_MO_drop_113 : decode m_MO_drop.2.1 113 = .ok (.goto (-24), 3) := by decide +kernel
theorem d_MO_drop_116 : decode m_MO_drop.2.1 116 = .ok (.aload_n 0, 1) := by decide +kernel
theorem d_MO_drop_117 : decode m_MO_drop.2.1 117 = .ok (.iconst 0, 1) := by decide +kernel
theorem d_MO_drop_118 : decode m_MO_drop.2.1 118 = .ok (.iconst (-1), 1) := by decide +kernel
theorem d_MO_drop_119 : decode m_MO_drop.2.1 119 = .ok (.iconst (-1), 1) := by decide +kernel
theorem d_MO_drop_120 : decode m_MO_drop.2.1 120 = .ok (.iconst (-1), 1) := by decide +kernel
theorem d_MO_drop_121 : decode m_MO_drop.2.1 121 = .ok (.invokevirtual 261, 3) := by decide +kernel
theorem d_MO_drop_124 : decode m_MO_drop.2.1 124 = .ok (.pop, 1) := by decide +kernel
theorem d_MO_drop_125 : decode m_MO_drop.2.1 125 = .ok (.aload_n 0, 1) := by decide +kernel
theorem d_MO_drop_126 : decode m_MO_drop.2.1 126 = .ok (.iconst 1, 1) := by decide +kernel
theorem d_MO_drop_127 : decode m_MO_drop.2.1 127 = .ok (.invokevirtual 328, 3) := by decide +kernel
theorem d_MO_drop_130 : decode m_MO_drop.2.1 130 = .ok (.ireturn, 1) := by decide +kernel
theorem d_MO_dropRule_0 : decode m_MO_dropRule.2.1 0 = .ok (.aload_n 0, 1) := by decide +kernel
theorem d_MO_dropRule_1 : decode m_MO_dropRule.2.1 1 = .ok (.iload_n 1, 1) := by decide +kernel
theorem d_MO_dropRule_2 : decode m_MO_dropRule.2.1 2 = .ok (.iconst 0, 1) := by decide +kernel
theorem d_MO_dropRule_3 : decode m_MO_dropRule.2.1 3 = .ok (.aload_n 0, 1) := by decide +kernel
theorem d_MO_dropRule_4 : decode m_MO_dropRule.2.1 4 = .ok (.getfield 265, 3) := by decide +kernel
theorem d_MO_dropRule_7 : decode m_MO_dropRule.2.1 7 = .ok (.iconst 1, 1) := by decide +kernel
theorem d_MO_dropRule_8 : decode m_MO_dropRule.2.1 8 = .ok (.isub, 1) := by decide +kernel
theorem d_MO_dropRule_9 : decode m_MO_dropRule.2.1 9 = .ok (.invokestatic 190, 3) := by decide +kernel
theorem d_MO_dropRule_12 : decode m_MO_dropRule.2.1 12 = .ok (.ifCond .eq 16, 3) := by decide +kernel
theorem d_MO_dropRule_15 : decode m_MO_dropRule.2.1 15 = .ok (.aload_n 0, 1) := by decide +kernel
theorem d_MO_dropRule_16 : decode m_MO_dropRule.2.1 16 = .ok (.getfield 68, 3) := by decide +kernel
theorem d_MO_dropRule_19 : decode m_MO_dropRule.2.1 19 = .ok (.iload_n 1, 1) := by decide +kernel
theorem d_MO_dropRule_20 : decode m_MO_dropRule.2.1 20 = .ok (.baload, 1) := by decide +kernel
theorem d_MO_dropRule_21 : decode m_MO_dropRule.2.1 21 = .ok (.ifCond .ne 7, 3) := by decide +kernel
theorem d_MO_dropRule_24 : decode m_MO_dropRule.2.1 24 = .ok (.iconst 0, 1) := by decide +kernel
theorem d_MO_dropRule_25 : decode m_MO_dropRule.2.1 25 = .ok (.goto 4, 3) := by decide +kernel
theorem d_MO_dropRule_28 : decode m_MO_dropRule.2.1 28 = .ok (.iconst 1, 1) := by decide +kernel
theorem d_MO_dropRule_29 : decode m_MO_dropRule.2.1 29 = .ok (.invokevirtual 292, 3) := by decide +kernel
theorem d_MO_dropRule_32 : decode m_MO_dropRule.2.1 32 = .ok (.ifCond .eq 15, 3) := by decide +kernel
theorem d_MO_dropRule_35 : decode m_MO_dropRule.2.1 35 = .ok (.aload_n 0, 1) := by decide +kernel
theorem d_MO_dropRule_36 : decode m_MO_dropRule.2.1 36 = .ok (.getfield 68, 3) := by decide +kernel
theorem d_MO_dropRule_39 : decode m_MO_dropRule.2.1 39 = .ok (.iload_n 1, 1) := by decide +kernel
theorem d_MO_dropRule_40 : decode m_MO_dropRule.2.1 40 = .ok (.iconst 1, 1) := by decide +kernel
theorem d_MO_dropRule_41 : decode m_MO_dropRule.2.1 41 = .ok (.bastore, 1) := by decide +kernel
theorem d_MO_dropRule_42 : decode m_MO_dropRule.2.1 42 = .ok (.aload_n 0, 1) := by decide +kernel
theorem d_MO_dropRule_43 : decode m_MO_dropRule.2.1 43 = .ok (.iconst 0, 1) := by decide +kernel
theorem d_MO_dropRule_44 : decode m_MO_dropRule.2.1 44 = .ok (.putfield 289, 3) := by decide +kernel
theorem d_MO_dropRule_47 : decode m_MO_dropRule.2.1 47 = .ok (.return_, 1) := by decide +kernel
theorem d_MO_empties_0 : decode m_MO_empties.2.1 0 = .ok (.iconst 0, 1) := by decide +kernel
theorem d_MO_empties_1 : decode m_MO_empties.2.1 1 = .ok (.istore_n 1, 1) := by decide +kernel
theorem d_MO_empties_2 : decode m_MO_empties.2.1 2 = .ok (.iconst 0, 1) := by decide +kernel
theorem d_MO_empties_3 : decode m_MO_empties.2.1 3 = .ok (.istore_n 2, 1) := by decide +kernel
theorem d_MO_empties_4 : decode m_MO_empties.2.1 4 = .ok (.iload_n 2, 1) := by decide +kernel
theorem d_MO_empties_5 : decode m_MO_empties.2.1 5 = .ok (.bipush 6, 2) := by decide +kernel
theorem d_MO_empties_7 : decode m_MO_empties.2.1 7 = .ok (.if_icmp .ge 36, 3) := by decide +kernel
theorem d_MO_empties_10 : decode m_MO_empties.2.1 10 = .ok (.iload_n 1, 1) := by decide +kernel
theorem d_MO_empties_11 : decode m_MO_empties.2.1 11 = .ok (.aload_n 0, 1) := by decide +kernel
theorem d_MO_empties_12 : decode m_MO_empties.2.1 12 = .ok (.getfield 80, 3) := by decide +kernel
theorem d_MO_empties_15 : decode m_MO_empties.2.1 15 = .ok (.iload_n 2, 1) := by decide +kernel
theorem d_MO_empties_16 : decode m_MO_empties.2.1 16 = .ok (.iaload, 1) := by decide +kernel
theorem d_MO_empties_17 : decode m_MO_empties.2.1 17 = .ok (.ldc 186, 2) := by decide +kernel
theorem d_MO_empties_19 : decode m_MO_empties.2.1 19 = .ok (.if_icmp .ne 7, 3) := by decide +kernel
theorem d_MO_empties_22 : decode m_MO_empties.2.1 22 = .ok (.iconst 0, 1) := by decide +kernel
theorem d_MO_empties_23 : decode m_MO_empties.2.1 23 = .ok (.goto 4, 3) := by decide +kernel
theorem d_MO_empties_26 : decode m_MO_empties.2.1 26 = .ok (.iconst 1, 1) := by decide +kernel
theorem d_MO_empties_27 : decode m_MO_empties.2.1 27 = .ok (.iadd, 1) := by decide +kernel
theorem d_MO_empties_28 : decode m_MO_empties.2.1 28 = .ok (.istore_n 1, 1) := by decide +kernel
theorem d_MO_empties_29 : decode m_MO_empties.2.1 29 = .ok (.aload_n 0, 1) := by decide +kernel
theorem d_MO_empties_30 : decode m_MO_empties.2.1 30 = .ok (.getfield 80, 3) := by decide +kernel
theorem d_MO_empties_33 : decode m_MO_empties.2.1 33 = .ok (.iload_n 2, 1) := by decide +kernel
theorem d_MO_empties_34 : decode m_MO_empties.2.1 34 = .ok (.ldc 186, 2) := by decide +kernel
theorem d_MO_empties_36 : decode m_MO_empties.2.1 36 = .ok (.iastore, 1) := by decide +kernel
theorem d_MO_empties_37 : decode m_MO_empties.2.1 37 = .ok (.iinc 2 1, 3) := by decide +kernel
theorem d_MO_empties_40 : decode m_MO_empties.2.1 40 = .ok (.goto (-36), 3) := by decide +kernel
theorem d_MO_empties_43 : decode m_MO_empties.2.1 43 = .ok (.iload_n 1, 1) := by decide +kernel
theorem d_MO_empties_44 : decode m_MO_empties.2.1 44 = .ok (.ireturn, 1) := by decide +kernel
theorem d_MO_enter_0 : decode m_MO_enter.2.1 0 = .ok (.aload_n 0, 1) := by decide +kernel
theorem d_MO_enter_1 : decode m_MO_enter.2.1 1 = .ok (.aload_n 0, 1) := by decide +kernel
theorem d_MO_enter_2 : decode m_MO_enter.2.1 2 = .ok (.iload_n 1, 1) := by decide +kernel
theorem d_MO_enter_3 : decode m_MO_enter.2.1 3 = .ok (.invokevirtual 201, 3) := by decide +kernel
theorem d_MO_enter_6 : decode m_MO_enter.2.1 6 = .ok (.ifCond .ne 7, 3) := by decide +kernel
theorem d_MO_enter_9 : decode m_MO_enter.2.1 9 = .ok (.iconst 1, 1) := by decide +kernel
theorem d_MO_enter_10 : decode m_MO_enter.2.1 10 = .ok (.goto 19, 3) := by decide +kernel
theorem d_MO_enter_13 : decode m_MO_enter.2.1 13 = .ok (.aload_n 0, 1) := by decide +kernel
theorem d_MO_enter_14 : decode m_MO_enter.2.1 14 = .ok (.getfield 71, 3) := by decide +kernel
theorem d_MO_enter_17 : decode m_MO_enter.2.1 17 = .ok (.iload_n 1, 1) := by decide +kernel
theorem d_MO_enter_18 : decode m_MO_enter.2.1 18 = .ok (.iaload, 1) := by decide +kernel
theorem d_MO_enter_19 : decode m_MO_enter.2.1 19 = .ok (.bipush 30, 2) := by decide +kernel
theorem d_MO_enter_21 : decode m_MO_enter.2.1 21 = .ok (.if_icmp .ne 7, 3) := by decide +kernel
theorem d_MO_enter_24 : decode m_MO_enter.2.1 24 = .ok (.iconst 2, 1) := by decide +kernel
theorem d_MO_enter_25 : decode m_MO_enter.2.1 25 = .ok (.goto 4, 3) := by decide +kernel
theorem d_MO_enter_28 : decode m_MO_enter.2.1 28 = .ok (.iconst 0, 1) := by decide +kernel
theorem d_MO_enter_29 : decode m_MO_enter.2.1 29 = .ok (.invokevirtual 292, 3) := by decide +kernel
theorem d_MO_enter_32 : decode m_MO_enter.2.1 32 = .ok (.ifCond .eq 12, 3) := by decide +kernel
theorem d_MO_enter_35 : decode m_MO_enter.2.1 35 = .ok (.aload_n 0, 1) := by decide +kernel
theorem d_MO_enter_36 : decode m_MO_enter.2.1 36 = .ok (.iload_n 1, 1) := by decide +kernel
theorem d_MO_enter_37 : decode m_MO_enter.2.1 37 = .ok (.iconst (-1), 1) := by decide +kernel
theorem d_MO_enter_38 : decode m_MO_enter.2.1 38 = .ok (.invokevirtual 367, 3) := by decide +kernel
theorem d_MO_enter_41 : decode m_MO_enter.2.1 41 = .ok (.goto 4, 3) := by decide +kernel
theorem d_MO_enter_44 : decode m_MO_enter.2.1 44 = .ok (.iconst 0, 1) := by decide +kernel
theorem d_MO_enter_45 : decode m_MO_enter.2.1 45 = .ok (.ireturn, 1) := by decide +kernel
theorem d_MO_enterInside_0 : decode m_MO_enterInside.2.1 0 = .ok (.aload_n 0, 1) := by decide +kernel
theorem d_MO_enterInside_1 : decode m_MO_enterInside.2.1 1 = .ok (.iload_n 1, 1) := by decide +kernel
theorem d_MO_enterInside_2 : decode m_MO_enterInside.2.1 2 = .ok (.iload_n 2, 1) := by decide +kernel
theorem d_MO_enterInside_3 : decode m_MO_enterInside.2.1 3 = .ok (.invokevirtual 305, 3) := by decide +kernel
theorem d_MO_enterInside_6 : decode m_MO_enterInside.2.1 6 = .ok (.istore_n 3, 1) := by decide +kernel
theorem d_MO_enterInside_7 : decode m_MO_enterInside.2.1 7 = .ok (.aload_n 0, 1) := by decide +kernel
theorem d_MO_enterInside_8 : decode m_MO_enterInside.2.1 8 = .ok (.getfield 83, 3) := by decide +kernel
theorem d_MO_enterInside_11 : decode m_MO_enterInside.2.1 11 = .ok (.iconst (-1), 1) := by decide +kernel
theorem d_MO_enterInside_12 : decode m_MO_enterInside.2.1 12 = .ok (.if_icmp .eq 33, 3) := by decide +kernel
theorem d_MO_enterInside_15 : decode m_MO_enterInside.2.1 15 = .ok (.aload_n 0, 1) := by decide +kernel
theorem d_MO_enterInside_16 : decode m_MO_enterInside.2.1 16 = .ok (.aload_n 0, 1) := by decide +kernel
theorem d_MO_enterInside_17 : decode m_MO_enterInside.2.1 17 = .ok (.getfield 83, 3) := by decide +kernel
theorem d_MO_enterInside_20 : decode m_MO_enterInside.2.1 20 = .ok (.aload_n 0, 1) := by decide +kernel
theorem d_MO_enterInside_21 : decode m_MO_enterInside.2.1 21 = .ok (.getfield 360, 3) := by decide +kernel
theorem d_MO_enterInside_24 : decode m_MO_enterInside.2.1 24 = .ok (.invokevirtual 233, 3) := by decide +kernel
theorem d_MO_enterInside_27 : decode m_MO_enterInside.2.1 27 = .ok (.ifCond .eq 18, 3) := by decide +kernel
theorem d_MO_enterInside_30 : decode m_MO_enterInside.2.1 30 = .ok (.iload_n 3, 1) := by decide +kernel
theorem d_MO_enterInside_31 : decode m_MO_enterInside.2.1 31 = .ok (.ifCond .eq 18, 3) := by decide +kernel
theorem d_MO_enterInside_34 : decode m_MO_enterInside.2.1 34 = .ok (.aload_n 0, 1) := by decide +kernel
theorem d_MO_enterInside_35 : decode m_MO_enterInside.2.1 35 = .ok (.getfield 71, 3) := by decide +kernel
theorem d_MO_enterInside_38 : decode m_MO_enterInside.2.1 38 = .ok (.iload_n 1, 1) := by decide +kernel
theorem d_MO_enterInside_39 : decode m_MO_enterInside.2.1 39 = .ok (.iaload, 1) := by decide +kernel
theorem d_MO_enterInside_40 : decode m_MO_enterInside.2.1 40 = .ok (.bipush 30, 2) := by decide +kernel
theorem d_MO_enterInside_42 : decode m_MO_enterInside.2.1 42 = .ok (.if_icmp .ne 7, 3) := by decide +kernel
theorem d_MO_enterInside_45 : decode m_MO_enterInside.2.1 45 = .ok (.iconst 1, 1) := by decide +kernel
theorem d_MO_enterInside_46 : decode m_MO_enterInside.2.1 46 = .ok (.goto 4, 3) := by decide +kernel
theorem d_MO_enterInside_49 : decode m_MO_enterInside.2.1 49 = .ok (.iconst 0, 1) := by decide +kernel
theorem d_MO_enterInside_50 : decode m_MO_enterInside.2.1 50 = .ok (.istore 4, 2) := by decide +kernel
theorem d_MO_enterInside_52 : decode m_MO_enterInside.2.1 52 = .ok (.iload_n 3, 1) := by decide +kernel
theorem d_MO_enterInside_53 : decode m_MO_enterInside.2.1 53 = .ok (.ifCond .eq 35, 3) := by decide +kernel
theorem d_MO_enterInside_56 : decode m_MO_enterInside.2.1 56 = .ok (.aload_n 0, 1) := by decide +kernel
theorem d_MO_enterInside_57 : decode m_MO_enterInside.2.1 57 = .ok (.iload_n 1, 1) := by decide +kernel
theorem d_MO_enterInside_58 : decode m_MO_enterInside.2.1 58 = .ok (.iload_n 2, 1) := by decide +kernel
theorem d_MO_enterInside_59 : decode m_MO_enterInside.2.1 59 = .ok (.invokevirtual 308, 3) := by decide +kernel
theorem d_MO_enterInside_62 : decode m_MO_enterInside.2.1 62 = .ok (.iconst 1, 1) := by decide +kernel
theorem d_MO_enterInside_63 : decode m_MO_enterInside.2.1 63 = .ok (.if_icmp .ne 25, 3) := by decide +kernel
theorem d_MO_enterInside_66 : decode m_MO_enterInside.2.1 66 = .ok (.aload_n 0, 1) := by decide +kernel
theorem d_MO_enterInside_67 : decode m_MO_enterInside.2.1 67 = .ok (.getfield 22, 3) := by decide +kernel
theorem d_MO_enterInside_70 : decode m_MO_enterInside.2.1 70 = .ok (.bipush 6, 2) := by decide +kernel
theorem d_MO_enterInside_72 : decode m_MO_enterInside.2.1 72 = .ok (.iload_n 1, 1) := by decide +kernel
theorem d_MO_enterInside_73 : decode m_MO_enterInside.2.1 73 = .ok (.imul, 1) := by decide +kernel
theorem d_MO_enterInside_74 : decode m_MO_enterInside.2.1 74 = .ok (.iload_n 2, 1) := by decide +kernel
theorem d_MO_enterInside_75 : decode m_MO_enterInside.2.1 75 = .ok (.iadd, 1) := by decide +kernel
theorem d_MO_enterInside_76 : decode m_MO_enterInside.2.1 76 = .ok (.iaload, 1) := by decide +kernel
theorem d_MO_enterInside_77 : decode m_MO_enterInside.2.1 77 = .ok (.aload_n 0, 1) := by decide +kernel
theorem d_MO_enterInside_78 : decode m_MO_enterInside.2.1 78 = .ok (.getfield 83, 3) := by decide +kernel
theorem d_MO_enterInside_81 : decode m_MO_enterInside.2.1 81 = .ok (.if_icmp .ne 7, 3) := by decide +kernel
theorem d_MO_enterInside_84 : decode m_MO_enterInside.2.1 84 = .ok (.iconst 1, 1) := by decide +kernel
theorem d_MO_enterInside_85 : decode m_MO_enterInside.2.1 85 = .ok (.goto 4, 3) := by decide +kernel
theorem d_MO_enterInside_88 : decode m_MO_enterInside.2.1 88 = .ok (.iconst 0, 1) := by decide +kernel
theorem d_MO_enterInside_89 : decode m_MO_enterInside.2.1 89 = .ok (.istore 5, 2) := by decide +kernel
theorem d_MO_enterInside_91 : decode m_MO_enterInside.2.1 91 = .ok (.aload_n 0, 1) := by decide +kernel
theorem d_MO_enterInside_92 : decode m_MO_enterInside.2.1 92 = .ok (.iload_n 3, 1) := by decide +kernel
theorem d_MO_enterInside_93 : decode m_MO_enterInside.2.1 93 = .ok (.ifCond .ne 7, 3) := by decide +kernel
theorem d_MO_enterInside_96 : decode m_MO_enterInside.2.1 96 = .ok (.iconst 1, 1) := by decide +kernel
theorem d_MO_enterInside_97 : decode m_MO_enterInside.2.1 97 = .ok (.goto 22, 3) := by decide +kernel
theorem d_MO_enterInside_100 : decode m_MO_enterInside.2.1 100 = .ok (.iload 4, 2) := by decide +kernel
theorem d_MO_enterInside_102 : decode m_MO_enterInside.2.1 102 = .ok (.ifCond .eq 7, 3) := by decide +kernel
theorem d_MO_enterInside_105 : decode m_MO_enterInside.2.1 105 = .ok (.iconst 2, 1) := by decide +kernel
theorem d_MO_enterInside_106 : decode m_MO_enterInside.2.1 106 = .ok (.goto 13, 3) := by decide +kernel
theorem d_MO_enterInside_109 : decode m_MO_enterInside.2.1 109 = .ok (.iload 5, 2) := by decide +kernel
theorem d_MO_enterInside_111 : decode m_MO_enterInside.2.1 111 = .ok (.ifCond .eq 7, 3) := by decide +kernel
theorem d_MO_enterInside_114 : decode m_MO_enterInside.2.1 114 = .ok (.iconst 0, 1) := by decide +kernel
theorem d_MO_enterInside_115 : decode m_MO_enterInside.2.1 115 = .ok (.goto 4, 3) := by decide +kernel
theorem d_MO_enterInside_118 : decode m_MO_enterInside.2.1 118 = .ok (.iconst 3, 1) := by decide +kernel
theorem d_MO_enterInside_119 : decode m_MO_enterInside.2.1 119 = .ok (.invokevirtual 292, 3) := by decide +kernel
theorem d_MO_enterInside_122 : decode m_MO_enterInside.2.1 122 = .ok (.ifCond .eq 12, 3) := by decide +kernel
theorem d_MO_enterInside_125 : decode m_MO_enterInside.2.1 125 = .ok (.aload_n 0, 1) := by decide +kernel
theorem d_MO_enterInside_126 : decode m_MO_enterInside.2.1 126 = .ok (.iload_n 1, 1) := by decide +kernel
theorem d_MO_enterInside_127 : decode m_MO_enterInside.2.1 127 = .ok (.iload_n 2, 1) := by decide +kernel
theorem d_MO_enterInside_128 : decode m_MO_enterInside.2.1 128 = .ok (.invokevirtual 367, 3) := by decide +kernel
theorem d_MO_enterInside_131 : decode m_MO_enterInside.2.1 131 = .ok (.goto 4, 3) := by decide +kernel
theorem d_MO_enterInside_134 : decode m_MO_enterInside.2.1 134 = .ok (.iconst 0, 1) := by decide +kernel
theorem d_MO_enterInside_135 : decode m_MO_enterInside.2.1 135 = .ok (.ireturn, 1) := by decide +kernel
theorem d_MO_entersDraft_0 : decode m_MO_entersDraft.2.1 0 = .ok (.aload_n 0, 1) := by decide +kernel
theorem d_MO_entersDraft_1 : decode m_MO_entersDraft.2.1 1 = .ok (.iload_n 1, 1) := by decide +kernel
theorem d_MO_entersDraft_2 : decode m_MO_entersDraft.2.1 2 = .ok (.aload_n 0, 1) := by decide +kernel
theorem d_MO_entersDraft_3 : decode m_MO_entersDraft.2.1 3 = .ok (.getfield 80, 3) := by decide +kernel
theorem d_MO_entersDraft_6 : decode m_MO_entersDraft.2.1 6 = .ok (.iconst 0, 1) := by decide +kernel
theorem d_MO_entersDraft_7 : decode m_MO_entersDraft.2.1 7 = .ok (.iload_n 2, 1) := by decide +kernel
theorem d_MO_entersDraft_8 : decode m_MO_entersDraft.2.1 8 = .ok (.invokevirtual 363, 3) := by decide +kernel
theorem d_MO_entersDraft_11 : decode m_MO_entersDraft.2.1 11 = .ok (.istore_n 3, 1) := by decide +kernel
theorem d_MO_entersDraft_12 : decode m_MO_entersDraft.2.1 12 = .ok (.aload_n 0, 1) := by decide +kernel
theorem d_MO_entersDraft_13 : decode m_MO_entersDraft.2.1 13 = .ok (.iload_n 3, 1) := by decide +kernel
theorem d_MO_entersDraft_14 : decode m_MO_entersDraft.2.1 14 = .ok (.iconst (-1), 1) := by decide +kernel
theorem d_MO_entersDraft_15 : decode m_MO_entersDraft.2.1 15 = .ok (.if_icmp .eq 7, 3) := by decide +kernel
theorem d_MO_entersDraft_18 : decode m_MO_entersDraft.2.1 18 = .ok (.iconst 1, 1) := by decide +kernel
theorem d_MO_entersDraft_19 : decode m_MO_entersDraft.2.1 19 = .ok (.goto 4, 3) := by decide +kernel
theorem d_MO_entersDraft_22 : decode m_MO_entersDraft.2.1 22 = .ok (.iconst 0, 1) := by decide +kernel
theorem d_MO_entersDraft_23 : decode m_MO_entersDraft.2.1 23 = .ok (.invokevirtual 328, 3) := by decide +kernel
theorem d_MO_entersDraft_26 : decode m_MO_entersDraft.2.1 26 = .ok (.ifCond .eq 8, 3) := by decide +kernel
theorem d_MO_entersDraft_29 : decode m_MO_entersDraft.2.1 29 = .ok (.aload_n 0, 1) := by decide +kernel
theorem d_MO_entersDraft_30 : decode m_MO_entersDraft.2.1 30 = .ok (.invokevirtual 357, 3) := by decide +kernel
theorem d_MO_entersDraft_33 : decode m_MO_entersDraft.2.1 33 = .ok (.pop, 1) := by decide +kernel
theorem d_MO_entersDraft_34 : decode m_MO_entersDraft.2.1 34 = .ok (.iload_n 3, 1) := by decide +kernel
theorem d_MO_entersDraft_35 : decode m_MO_entersDraft.2.1 35 = .ok (.ireturn, 1) := by decide +kernel
theorem d_MO_entersRow_0 : decode m_MO_entersRow.2.1 0 = .ok (.aload_n 0, 1) := by decide +kernel
theorem d_MO_entersRow_1 : decode m_MO_entersRow.2.1 1 = .ok (.getfield 71, 3) := by decide +kernel
theorem d_MO_entersRow_4 : decode m_MO_entersRow.2.1 4 = .ok (.iload_n 1, 1) := by decide +kernel
theorem d_MO_entersRow_5 : decode m_MO_entersRow.2.1 5 = .ok (.iaload, 1) := by decide +kernel
theorem d_MO_entersRow_6 : decode m_MO_entersRow.2.1 6 = .ok (.istore 5, 2) := by decide +kernel
theorem d_MO_entersRow_8 : decode m_MO_entersRow.2.1 8 = .ok (.aload_n 0, 1) := by decide +kernel
theorem d_MO_entersRow_9 : decode m_MO_entersRow.2.1 9 = .ok (.bipush 6, 2) := by decide +kernel
theorem d_MO_entersRow_11 : decode m_MO_entersRow.2.1 11 = .ok (.invokevirtual 322, 3) := by decide +kernel
theorem d_MO_entersRow_14 : decode m_MO_entersRow.2.1 14 = .ok (.aload_n 0, 1) := by decide +kernel
theorem d_MO_entersRow_15 : decode m_MO_entersRow.2.1 15 = .ok (.getfield 71, 3) := by decide +kernel
theorem d_MO_entersRow_18 : decode m_MO_entersRow.2.1 18 = .ok (.iload_n 1, 1) := by decide +kernel
theorem d_MO_entersRow_19 : decode m_MO_entersRow.2.1 19 = .ok (.dup2, 1) := by decide +kernel
theorem d_MO_entersRow_20 : decode m_MO_entersRow.2.1 20 = .ok (.iaload, 1) := by decide +kernel
theorem d_MO_entersRow_21 : decode m_MO_entersRow.2.1 21 = .ok (.iconst 1, 1) := by decide +kernel
theorem d_MO_entersRow_22 : decode m_MO_entersRow.2.1 22 = .ok (.iadd, 1) := by decide +kernel
theorem d_MO_entersRow_23 : decode m_MO_entersRow.2.1 23 = .ok (.iastore, 1) := by decide +kernel
theorem d_MO_entersRow_24 : decode m_MO_entersRow.2.1 24 = .ok (.aload_n 0, 1) := by decide +kernel
theorem d_MO_entersRow_25 : decode m_MO_entersRow.2.1 25 = .ok (.getfield 74, 3) := by decide +kernel
theorem d_MO_entersRow_28 : decode m_MO_entersRow.2.1 28 = .ok (.bipush 30, 2) := by decide +kernel
theorem d_MO_entersRow_30 : decode m_MO_entersRow.2.1 30 = .ok (.iload_n 1, 1) := by decide +kernel
theorem d_MO_entersRow_31 : decode m_MO_entersRow.2.1 31 = .ok (.imul, 1) := by decide +kernel
theorem d_MO_entersRow_32 : decode m_MO_entersRow.2.1 32 = .ok (.iload 5, 2) := by decide +kernel
theorem d_MO_entersRow_34 : decode m_MO_entersRow.2.1 34 = .ok (.iadd, 1) := by decide +kernel
theorem d_MO_entersRow_35 : decode m_MO_entersRow.2.1 35 = .ok (.iconst 1, 1) := by decide +kernel
theorem d_MO_entersRow_36 : decode m_MO_entersRow.2.1 36 = .ok (.bastore, 1) := by decide +kernel
theorem d_MO_entersRow_37 : decode m_MO_entersRow.2.1 37 = .ok (.iconst 0, 1) := by decide +kernel
theorem d_MO_entersRow_38 : decode m_MO_entersRow.2.1 38 = .ok (.istore 6, 2) := by decide +kernel
theorem d_MO_entersRow_40 : decode m_MO_entersRow.2.1 40 = .ok (.iload 6, 2) := by decide +kernel
theorem d_MO_entersRow_42 : decode m_MO_entersRow.2.1 42 = .ok (.bipush 6, 2) := by decide +kernel
theorem d_MO_entersRow_44 : decode m_MO_entersRow.2.1 44 = .ok (.if_icmp .ge 84, 3) := by decide +kernel
theorem d_MO_entersRow_47 : decode m_MO_entersRow.2.1 47 = .ok (.iload 6, 2) := by decide +kernel
theorem d_MO_entersRow_49 : decode m_MO_entersRow.2.1 49 = .ok (.aload_n 0, 1) := by decide +kernel
theorem d_MO_entersRow_50 : decode m_MO_entersRow.2.1 50 = .ok (.getfield 7, 3) := by decide +kernel
theorem d_MO_entersRow_53 : decode m_MO_entersRow.2.1 53 = .ok (.iload_n 1, 1) := by decide +kernel
theorem d_MO_entersRow_54 : decode m_MO_entersRow.2.1 54 = .ok (.iaload, 1) := by decide +kernel
theorem d_MO_entersRow_55 : decode m_MO_entersRow.2.1 55 = .ok (.if_icmp .ge 21, 3) := by decide +kernel
theorem d_MO_entersRow_58 : decode m_MO_entersRow.2.1 58 = .ok (.aload_n 0, 1) := by decide +kernel
theorem d_MO_entersRow_59 : decode m_MO_entersRow.2.1 59 = .ok (.bipush 6, 2) := by decide +kernel
theorem d_MO_entersRow_61 : decode m_MO_entersRow.2.1 61 = .ok (.iload_n 1, 1) := by decide +kernel
theorem d_MO_entersRow_62 : decode m_MO_entersRow.2.1 62 = .ok (.imul, 1) := by decide +kernel
theorem d_MO_entersRow_63 : decode m_MO_entersRow.2.1 63 = .ok (.iload 6, 2) := by decide +kernel
theorem d_MO_entersRow_65 : decode m_MO_entersRow.2.1 65 = .ok (.iadd, 1) := by decide +kernel
theorem d_MO_entersRow_66 : decode m_MO_entersRow.2.1 66 = .ok (.invokevirtual 251, 3) := by decide +kernel
theorem d_MO_entersRow_69 : decode m_MO_entersRow.2.1 69 = .ok (.ifCond .eq 7, 3) := by decide +kernel
theorem d_MO_entersRow_72 : decode m_MO_entersRow.2.1 72 = .ok (.iconst 1, 1) := by decide +kernel
theorem d_MO_entersRow_73 : decode m_MO_entersRow.2.1 73 = .ok (.goto 4, 3) := by decide +kernel
theorem d_MO_entersRow_76 : decode m_MO_entersRow.2.1 76 = .ok (.iconst 0, 1) := by decide +kernel
theorem d_MO_entersRow_77 : decode m_MO_entersRow.2.1 77 = .ok (.istore 7, 2) := by decide +kernel
theorem d_MO_entersRow_79 : decode m_MO_entersRow.2.1 79 = .ok (.aload_n 0, 1) := by decide +kernel
theorem d_MO_entersRow_80 : decode m_MO_entersRow.2.1 80 = .ok (.getfield 77, 3) := by decide +kernel
theorem d_MO_entersRow_83 : decode m_MO_entersRow.2.1 83 = .ok (.iload_n 1, 1) := by decide +kernel
theorem d_MO_entersRow_84 : decode m_MO_entersRow.2.1 84 = .ok (.iload 5, 2) := by decide +kernel
theorem d_MO_entersRow_86 : decode m_MO_entersRow.2.1 86 = .ok (.iload 6, 2) := by decide +kernel
theorem d_MO_entersRow_88 : decode m_MO_entersRow.2.1 88 = .ok (.invokestatic 225, 3) := by decide +kernel
theorem d_MO_entersRow_91 : decode m_MO_entersRow.2.1 91 = .ok (.iload 7, 2) := by decide +kernel
theorem d_MO_entersRow_93 : decode m_MO_entersRow.2.1 93 = .ok (.ifCond .ne 8, 3) := by decide +kernel
theorem d_MO_entersRow_96 : decode m_MO_entersRow.2.1 96 = .ok (.ldc 186, 2) := by decide +kernel
theorem d_MO_entersRow_98 : decode m_MO_entersRow.2.1 98 = .ok (.goto 23, 3) := by decide +kernel
theorem d_MO_entersRow_101 : decode m_MO_entersRow.2.1 101 = .ok (.iload 6, 2) := by decide +kernel
theorem d_MO_entersRow_103 : decode m_MO_entersRow.2.1 103 = .ok (.iload 4, 2) := by decide +kernel
theorem d_MO_entersRow_105 : decode m_MO_entersRow.2.1 105 = .ok (.if_icmp .ne 10, 3) := by decide +kernel
theorem d_MO_entersRow_108 : decode m_MO_entersRow.2.1 108 = .ok (.aload_n 0, 1) := by decide +kernel
theorem d_MO_entersRow_109 : decode m_MO_entersRow.2.1 109 = .ok (.getfield 360, 3) := by decide +kernel
theorem d_MO_entersRow_112 : decode m_MO_entersRow.2.1 112 = .ok (.goto 9, 3) := by decide +kernel
theorem d_MO_entersRow_115 : decode m_MO_entersRow.2.1 115 = .ok (.aload_n 2, 1) := by decide +kernel
theorem d_MO_entersRow_116 : decode m_MO_entersRow.2.1 116 = .ok (.iload_n 3, 1) := by decide +kernel
theorem d_MO_entersRow_117 : decode m_MO_entersRow.2.1 117 = .ok (.iload 6, 2) := by decide +kernel
theorem d_MO_entersRow_119 : decode m_MO_entersRow.2.1 119 = .ok (.iadd, 1) := by decide +kernel
theorem d_MO_entersRow_120 : decode m_MO_entersRow.2.1 120 = .ok (.iaload, 1) := by decide +kernel
theorem d_MO_entersRow_121 : decode m_MO_entersRow.2.1 121 = .ok (.iastore, 1) := by decide +kernel
theorem d_MO_entersRow_122 : decode m_MO_entersRow.2.1 122 = .ok (.iinc 6 1, 3) := by decide +kernel
theorem d_MO_entersRow_125 : decode m_MO_entersRow.2.1 125 = .ok (.goto (-85), 3) := by decide +kernel
theorem d_MO_entersRow_128 : decode m_MO_entersRow.2.1 128 = .ok (.aload_n 0, 1) := by decide +kernel
theorem d_MO_entersRow_129 : decode m_MO_entersRow.2.1 129 = .ok (.invokevirtual 325, 3) := by decide +kernel
theorem d_MO_entersRow_132 : decode m_MO_entersRow.2.1 132 = .ok (.ifCond .eq 8, 3) := by decide +kernel
theorem d_MO_entersRow_135 : decode m_MO_entersRow.2.1 135 = .ok (.iload 5, 2) := by decide +kernel
theorem d_MO_entersRow_137 : decode m_MO_entersRow.2.1 137 = .ok (.goto 4, 3) := by decide +kernel
theorem d_MO_entersRow_140 : decode m_MO_entersRow.2.1 140 = .ok (.iconst (-1), 1) := by decide +kernel
theorem d_MO_entersRow_141 : decode m_MO_entersRow.2.1 141 = .ok (.ireturn, 1) := by decide +kernel
theorem d_MO_errorOfFormula_0 : decode m_MO_errorOfFormula.2.1 0 = .ok (.iload_n 2, 1) := by decide +kernel
theorem d_MO_errorOfFormula_1 : decode m_MO_errorOfFormula.2.1 1 = .ok (.iconst 0, 1) := by decide +kernel
theorem d_MO_errorOfFormula_2 : decode m_MO_errorOfFormula.2.1 2 = .ok (.iconst 4, 1) := by decide +kernel
theorem d_MO_errorOfFormula_3 : decode m_MO_errorOfFormula.2.1 3 = .ok (.invokestatic 190, 3) := by decide +kernel
theorem d_MO_errorOfFormula_6 : decode m_MO_errorOfFormula.2.1 6 = .ok (.ifCond .ne 5, 3) := by decide +kernel
theorem d_MO_errorOfFormula_9 : decode m_MO_errorOfFormula.2.1 9 = .ok (.iconst 2, 1) := by decide +kernel
theorem d_MO_errorOfFormula_10 : decode m_MO_errorOfFormula.2.1 10 = .ok (.ireturn, 1) := by decide +kernel
theorem d_MO_errorOfFormula_11 : decode m_MO_errorOfFormula.2.1 11 = .ok (.iload_n 2, 1) := by decide +kernel
theorem d_MO_errorOfFormula_12 : decode m_MO_errorOfFormula.2.1 12 = .ok (.iconst 2, 1) := by decide +kernel
theorem d_MO_errorOfFormula_13 : decode m_MO_errorOfFormula.2.1 13 = .ok (.if_icmp .ge 53, 3) := by decide +kernel
theorem d_MO_errorOfFormula_16 : decode m_MO_errorOfFormula.2.1 16 = .ok (.aload_n 0, 1) := by decide +kernel
theorem d_MO_errorOfFormula_17 : decode m_MO_errorOfFormula.2.1 17 = .ok (.iload_n 1, 1) := by decide +kernel
theorem d_MO_errorOfFormula_18 : decode m_MO_errorOfFormula.2.1 18 = .ok (.iload_n 3, 1) := by decide +kernel
theorem d_MO_errorOfFormula_19 : decode m_MO_errorOfFormula.2.1 19 = .ok (.invokevirtual 305, 3) := by decide +kernel
theorem d_MO_errorOfFormula_22 : decode m_MO_errorOfFormula.2.1 22 = .ok (.ifCond .eq 13, 3) := by decide +kernel
theorem d_MO_errorOfFormula_25 : decode m_MO_errorOfFormula.2.1 25 = .ok (.aload_n 0, 1) := by decide +kernel
theorem d_MO_errorOfFormula_26 : decode m_MO_errorOfFormula.2.1 26 = .ok (.iload_n 1, 1) := by decide +kernel
theorem d_MO_errorOfFormula_27 : decode m_MO_errorOfFormula.2.1 27 = .ok (.iload 4, 2) := by decide +kernel
theorem d_MO_errorOfFormula_29 : decode m_MO_errorOfFormula.2.1 29 = .ok (.invokevirtual 305, 3) := by decide +kernel
theorem d_MO_errorOfFormula_32 : decode m_MO_errorOfFormula.2.1 32 = .ok (.ifCond .ne 7, 3) := by decide +kernel
theorem d_MO_errorOfFormula_35 : decode m_MO_errorOfFormula.2.1 35 = .ok (.iconst 1, 1) := by decide +kernel
theorem d_MO_errorOfFormula_36 : decode m_MO_errorOfFormula.2.1 36 = .ok (.goto 29, 3) := by decide +kernel
theorem d_MO_errorOfFormula_39 : decode m_MO_errorOfFormula.2.1 39 = .ok (.aload_n 0, 1) := by decide +kernel
theorem d_MO_errorOfFormula_40 : decode m_MO_errorOfFormula.2.1 40 = .ok (.iload_n 1, 1) := by decide +kernel
theorem d_MO_errorOfFormula_41 : decode m_MO_errorOfFormula.2.1 41 = .ok (.iload_n 3, 1) := by decide +kernel
theorem d_MO_errorOfFormula_42 : decode m_MO_errorOfFormula.2.1 42 = .ok (.invokevirtual 308, 3) := by decide +kernel
theorem d_MO_errorOfFormula_45 : decode m_MO_errorOfFormula.2.1 45 = .ok (.iconst 3, 1) := by decide +kernel
theorem d_MO_errorOfFormula_46 : decode m_MO_errorOfFormula.2.1 46 = .ok (.if_icmp .eq 14, 3) := by decide +kernel
theorem d_MO_errorOfFormula_49 : decode m_MO_errorOfFormula.2.1 49 = .ok (.aload_n 0, 1) := by decide +kernel
theorem d_MO_errorOfFormula_50 : decode m_MO_errorOfFormula.2.1 50 = .ok (.iload_n 1, 1) := by decide +kernel
theorem d_MO_errorOfFormula_51 : decode m_MO_errorOfFormula.2.1 51 = .ok (.iload 4, 2) := by decide +kernel
theorem d_MO_errorOfFormula_53 : decode m_MO_errorOfFormula.2.1 53 = .ok (.invokevirtual 308, 3) := by decide +kernel
theorem d_MO_errorOfFormula_56 : decode m_MO_errorOfFormula.2.1 56 = .ok (.iconst 3, 1) := by decide +kernel
theorem d_MO_errorOfFormula_57 : decode m_MO_errorOfFormula.2.1 57 = .ok (.if_icmp .ne 7, 3) := by decide +kernel
theorem d_MO_errorOfFormula_60 : decode m_MO_errorOfFormula.2.1 60 = .ok (.iconst 2, 1) := by decide +kernel
theorem d_MO_errorOfFormula_61 : decode m_MO_errorOfFormula.2.1 61 = .ok (.goto 4, 3) := by decide +kernel
theorem d_MO_errorOfFormula_64 : decode m_MO_errorOfFormula.2.1 64 = .ok (.iconst 0, 1) := by decide +kernel
theorem d_MO_errorOfFormula_65 : decode m_MO_errorOfFormula.2.1 65 = .ok (.ireturn, 1) := by decide +kernel
theorem d_MO_errorOfFormula_66 : decode m_MO_errorOfFormula.2.1 66 = .ok (.iload_n 2, 1) := by decide +kernel
theorem d_MO_errorOfFormula_67 : decode m_MO_errorOfFormula.2.1 67 = .ok (.iconst 2, 1) := by decide +kernel
theorem d_MO_errorOfFormula_68 : decode m_MO_errorOfFormula.2.1 68 = .ok (.if_icmp .ne 48, 3) := by decide +kernel
theorem d_MO_errorOfFormula_71 : decode m_MO_errorOfFormula.2.1 71 = .ok (.aload_n 0, 1) := by decide +kernel
theorem d_MO_errorOfFormula_72 : decode m_MO_errorOfFormula.2.1 72 = .ok (.iload_n 1, 1) := by decide +kernel
theorem d_MO_errorOfFormula_73 : decode m_MO_errorOfFormula.2.1 73 = .ok (.iload_n 3, 1) := by decide +kernel
theorem d_MO_errorOfFormula_74 : decode m_MO_errorOfFormula.2.1 74 = .ok (.invokevirtual 305, 3) := by decide +kernel
theorem d_MO_errorOfFormula_77 : decode m_MO_errorOfFormula.2.1 77 = .ok (.ifCond .ne 7, 3) := by decide +kernel
theorem d_MO_errorOfFormula_80 : decode m_MO_errorOfFormula.2.1 80 = .ok (.iconst 1, 1) := by decide +kernel
theorem d_MO_errorOfFormula_81 : decode m_MO_errorOfFormula.2.1 81 = .ok (.goto 34, 3) := by decide +kernel
theorem d_MO_errorOfFormula_84 : decode m_MO_errorOfFormula.2.1 84 = .ok (.aload_n 0, 1) := by decide +kernel
theorem d_MO_errorOfFormula_85 : decode m_MO_errorOfFormula.2.1 85 = .ok (.iload_n 1, 1) := by decide +kernel
theorem d_MO_errorOfFormula_86 : decode m_MO_errorOfFormula.2.1 86 = .ok (.iload_n 3, 1) := by decide +kernel
theorem d_MO_errorOfFormula_87 : decode m_MO_errorOfFormula.2.1 87 = .ok (.invokevirtual 308, 3) := by decide +kernel
theorem d_MO_errorOfFormula_90 : decode m_MO_errorOfFormula.2.1 90 = .ok (.iconst 1, 1) := by decide +kernel
theorem d_MO_errorOfFormula_91 : decode m_MO_errorOfFormula.2.1 91 = .ok (.if_icmp .eq 7, 3) := by decide +kernel
theorem d_MO_errorOfFormula_94 : decode m_MO_errorOfFormula.2.1 94 = .ok (.iconst 2, 1) := by decide +kernel
theorem d_MO_errorOfFormula_95 : decode m_MO_errorOfFormula.2.1 95 = .ok (.goto 20, 3) := by decide +kernel
theorem d_MO_errorOfFormula_98 : decode m_MO_errorOfFormula.2.1 98 = .ok (.aload_n 0, 1) := by decide +kernel
theorem d_MO_errorOfFormula_99 : decode m_MO_errorOfFormula.2.1 99 = .ok (.aload_n 0, 1) := by decide +kernel
theorem d_MO_errorOfFormula_100 : decode m_MO_errorOfFormula.2.1 100 = .ok (.getfield 22, 3) := by decide +kernel
theorem d_MO_errorOfFormula_103 : decode m_MO_errorOfFormula.2.1 103 = .ok (.bipush 6, 2) := by decide +kernel
theorem d_MO_errorOfFormula_105 : decode m_MO_errorOfFormula.2.1 105 = .ok (.iload_n 1, 1) := by decide +kernel
theorem d_MO_errorOfFormula_106 : decode m_MO_errorOfFormula.2.1 106 = .ok (.imul, 1) := by decide +kernel
theorem d_MO_errorOfFormula_107 : decode m_MO_errorOfFormula.2.1 107 = .ok (.iload_n 3, 1) := by decide +kernel
theorem d_MO_errorOfFormula_108 : decode m_MO_errorOfFormula.2.1 108 = .ok (.iadd, 1) := by decide +kernel
theorem d_MO_errorOfFormula_109 : decode m_MO_errorOfFormula.2.1 109 = .ok (.iaload, 1) := by decide +kernel
theorem d_MO_errorOfFormula_110 : decode m_MO_errorOfFormula.2.1 110 = .ok (.iload 4, 2) := by decide +kernel
theorem d_MO_errorOfFormula_112 : decode m_MO_errorOfFormula.2.1 112 = .ok (.invokevirtual 311, 3) := by decide +kernel
theorem d_MO_errorOfFormula_115 : decode m_MO_errorOfFormula.2.1 115 = .ok (.ireturn, 1) := by decide +kernel
theorem d_MO_errorOfFormula_116 : decode m_MO_errorOfFormula.2.1 116 = .ok (.aload_n 0, 1) := by decide +kernel
theorem d_MO_errorOfFormula_117 : decode m_MO_errorOfFormula.2.1 117 = .ok (.iload 5, 2) := by decide +kernel
theorem d_MO_errorOfFormula_119 : decode m_MO_errorOfFormula.2.1 119 = .ok (.iload_n 3, 1) := by decide +kernel
theorem d_MO_errorOfFormula_120 : decode m_MO_errorOfFormula.2.1 120 = .ok (.invokevirtual 305, 3) := by decide +kernel
theorem d_MO_errorOfFormula_123 : decode m_MO_errorOfFormula.2.1 123 = .ok (.ifCond .eq 19, 3) := by decide +kernel
theorem d_MO_errorOfFormula_126 : decode m_MO_errorOfFormula.2.1 126 = .ok (.iload_n 2, 1) := by decide +kernel
theorem d_MO_errorOfFormula_127 : decode m_MO_errorOfFormula.2.1 127 = .ok (.iconst 3, 1) := by decide +kernel
theorem d_MO_errorOfFormula_128 : decode m_MO_errorOfFormula.2.1 128 = .ok (.if_icmp .ne 16, 3) := by decide +kernel
theorem d_MO_errorOfFormula_131 : decode m_MO_errorOfFormula.2.1 131 = .ok (.aload_n 0, 1) := by decide +kernel
theorem d_MO_errorOfFormula_132 : decode m_MO_errorOfFormula.2.1 132 = .ok (.iload 5, 2) := by decide +kernel
theorem d_MO_errorOfFormula_134 : decode m_MO_errorOfFormula.2.1 134 = .ok (.iload 4, 2) := by decide +kernel
theorem d_MO_errorOfFormula_136 : decode m_MO_errorOfFormula.2.1 136 = .ok (.invokevirtual 305, 3) := by decide +kernel
theorem d_MO_errorOfFormula_139 : decode m_MO_errorOfFormula.2.1 139 = .ok (.ifCond .ne 5, 3) := by decide +kernel
theorem d_MO_errorOfFormula_142 : decode m_MO_errorOfFormula.2.1 142 = .ok (.iconst 1, 1) := by decide +kernel
theorem d_MO_errorOfFormula_143 : decode m_MO_errorOfFormula.2.1 143 = .ok (.ireturn, 1) := by decide +kernel
theorem d_MO_errorOfFormula_144 : decode m_MO_errorOfFormula.2.1 144 = .ok (.aload_n 0, 1) := by decide +kernel
theorem d_MO_errorOfFormula_145 : decode m_MO_errorOfFormula.2.1 145 = .ok (.iload 5, 2) := by decide +kernel
theorem d_MO_errorOfFormula_147 : decode m_MO_errorOfFormula.2.1 147 = .ok (.iload_n 3, 1) := by decide +kernel
theorem d_MO_errorOfFormula_148 : decode m_MO_errorOfFormula.2.1 148 = .ok (.invokevirtual 308, 3) := by decide +kernel
theorem d_MO_errorOfFormula_151 : decode m_MO_errorOfFormula.2.1 151 = .ok (.iconst 1, 1) := by decide +kernel
theorem d_MO_errorOfFormula_152 : decode m_MO_errorOfFormula.2.1 152 = .ok (.if_icmp .ne 23, 3) := by decide +kernel
theorem d_MO_errorOfFormula_155 : decode m_MO_errorOfFormula.2.1 155 = .ok (.aload_n 0, 1) := by decide +kernel
theorem d_MO_errorOfFormula_156 : decode m_MO_errorOfFormula.2.1 156 = .ok (.getfield 22, 3) := by decide +kernel
theorem d_MO_errorOfFormula_159 : decode m_MO_errorOfFormula.2.1 159 = .ok (.bipush 6, 2) := by decide +kernel
theorem d_MO_errorOfFormula_161 : decode m_MO_errorOfFormula.2.1 161 = .ok (.iload 5, 2) := by decide +kernel
theorem d_MO_errorOfFormula_163 : decode m_MO_errorOfFormula.2.1 163 = .ok (.imul, 1) := by decide +kernel
theorem d_MO_errorOfFormula_164 : decode m_MO_errorOfFormula.2.1 164 = .ok (.iload_n 3, 1) := by decide +kernel
theorem d_MO_errorOfFormula_165 : decode m_MO_errorOfFormula.2.1 165 = .ok (.iadd, 1) := by decide +kernel
theorem d_MO_errorOfFormula_166 : decode m_MO_errorOfFormula.2.1 166 = .ok (.iaload, 1) := by decide +kernel
theorem d_MO_errorOfFormula_167 : decode m_MO_errorOfFormula.2.1 167 = .ok (.iload_n 1, 1) := by decide +kernel
theorem d_MO_errorOfFormula_168 : decode m_MO_errorOfFormula.2.1 168 = .ok (.if_icmp .ne 7, 3) := by decide +kernel
theorem d_MO_errorOfFormula_171 : decode m_MO_errorOfFormula.2.1 171 = .ok (.iconst 1, 1) := by decide +kernel
theorem d_MO_errorOfFormula_172 : decode m_MO_errorOfFormula.2.1 172 = .ok (.goto 4, 3) := by decide +kernel
theorem d_MO_errorOfFormula_175 : decode m_MO_errorOfFormula.2.1 175 = .ok (.iconst 0, 1) := by decide +kernel
theorem d_MO_errorOfFormula_176 : decode m_MO_errorOfFormula.2.1 176 = .ok (.istore 6, 2) := by decide +kernel
theorem d_MO_errorOfFormula_178 : decode m_MO_errorOfFormula.2.1 178 = .ok (.iload 6, 2) := by decide +kernel
theorem d_MO_errorOfFormula_180 : decode m_MO_errorOfFormula.2.1 180 = .ok (.ifCond .eq 20, 3) := by decide +kernel
theorem d_MO_errorOfFormula_183 : decode m_MO_errorOfFormula.2.1 183 = .ok (.iload_n 2, 1) := by decide +kernel
theorem d_MO_errorOfFormula_184 : decode m_MO_errorOfFormula.2.1 184 = .ok (.iconst 3, 1) := by decide +kernel
theorem d_MO_errorOfFormula_185 : decode m_MO_errorOfFormula.2.1 185 = .ok (.if_icmp .ne 19, 3) := by decide +kernel
theorem d_MO_errorOfFormula_188 : decode m_MO_errorOfFormula.2.1 188 = .ok (.aload_n 0, 1) := by decide +kernel
theorem d_MO_errorOfFormula_189 : decode m_MO_errorOfFormula.2.1 189 = .ok (.iload 5, 2) := by decide +kernel
theorem d_MO_errorOfFormula_191 : decode m_MO_errorOfFormula.2.1 191 = .ok (.iload 4, 2) := by decide +kernel
theorem d_MO_errorOfFormula_193 : decode m_MO_errorOfFormula.2.1 193 = .ok (.invokevirtual 308, 3) := by decide +kernel
theorem d_MO_errorOfFormula_196 : decode m_MO_errorOfFormula.2.1 196 = .ok (.iconst 3, 1) := by decide +kernel
theorem d_MO_errorOfFormula_197 : decode m_MO_errorOfFormula.2.1 197 = .ok (.if_icmp .ne 7, 3) := by decide +kernel
theorem d_MO_errorOfFormula_200 : decode m_MO_errorOfFormula.2.1 200 = .ok (.iconst 2, 1) := by decide +kernel
theorem d_MO_errorOfFormula_201 : decode m_MO_errorOfFormula.2.1 201 = .ok (.goto 4, 3) := by decide +kernel
theorem d_MO_errorOfFormula_204 : decode m_MO_errorOfFormula.2.1 204 = .ok (.iconst 0, 1) := by decide +kernel
theorem d_MO_errorOfFormula_205 : decode m_MO_errorOfFormula.2.1 205 = .ok (.ireturn, 1) := by decide +kernel
theorem d_MO_errorOfFull_0 : decode m_MO_errorOfFull.2.1 0 = .ok (.aload_n 0, 1) := by decide +kernel
theorem d_MO_errorOfFull_1 : decode m_MO_errorOfFull.2.1 1 = .ok (.iload_n 1, 1) := by decide +kernel
theorem d_MO_errorOfFull_2 : decode m_MO_errorOfFull.2.1 2 = .ok (.invokevirtual 201, 3) := by decide +kernel
theorem d_MO_errorOfFull_5 : decode m_MO_errorOfFull.2.1 5 = .ok (.ifCond .ne 7, 3) := by decide +kernel
theorem d_MO_errorOfFull_8 : decode m_MO_errorOfFull.2.1 8 = .ok (.iconst 1, 1) := by decide +kernel
theorem d_MO_errorOfFull_9 : decode m_MO_errorOfFull.2.1 9 = .ok (.goto 27, 3) := by decide +kernel
theorem d_MO_errorOfFull_12 : decode m_MO_errorOfFull.2.1 12 = .ok (.iload_n 2, 1) := by decide +kernel
theorem d_MO_errorOfFull_13 : decode m_MO_errorOfFull.2.1 13 = .ok (.ifCond .ne 7, 3) := by decide +kernel
theorem d_MO_errorOfFull_16 : decode m_MO_errorOfFull.2.1 16 = .ok (.iconst 2, 1) := by decide +kernel
theorem d_MO_errorOfFull_17 : decode m_MO_errorOfFull.2.1 17 = .ok (.goto 19, 3) := by decide +kernel
theorem d_MO_errorOfFull_20 : decode m_MO_errorOfFull.2.1 20 = .ok (.aload_n 0, 1) := by decide +kernel
theorem d_MO_errorOfFull_21 : decode m_MO_errorOfFull.2.1 21 = .ok (.getfield 7, 3) := by decide +kernel
theorem d_MO_errorOfFull_24 : decode m_MO_errorOfFull.2.1 24 = .ok (.iload_n 1, 1) := by decide +kernel
theorem d_MO_errorOfFull_25 : decode m_MO_errorOfFull.2.1 25 = .ok (.iaload, 1) := by decide +kernel
theorem d_MO_errorOfFull_26 : decode m_MO_errorOfFull.2.1 26 = .ok (.bipush 6, 2) := by decide +kernel
theorem d_MO_errorOfFull_28 : decode m_MO_errorOfFull.2.1 28 = .ok (.if_icmp .ne 7, 3) := by decide +kernel
theorem d_MO_errorOfFull_31 : decode m_MO_errorOfFull.2.1 31 = .ok (.iconst 3, 1) := by decide +kernel
theorem d_MO_errorOfFull_32 : decode m_MO_errorOfFull.2.1 32 = .ok (.goto 4, 3) := by decide +kernel
theorem d_MO_errorOfFull_35 : decode m_MO_errorOfFull.2.1 35 = .ok (.iconst 0, 1) := by decide +kernel
theorem d_MO_errorOfFull_36 : decode m_MO_errorOfFull.2.1 36 = .ok (.ireturn, 1) := by decide +kernel
theorem d_MO_errorOfKeys_0 : decode m_MO_errorOfKeys.2.1 0 = .ok (.aload_n 0, 1) := by decide +kernel
theorem d_MO_errorOfKeys_1 : decode m_MO_errorOfKeys.2.1 1 = .ok (.iload_n 1, 1) := by decide +kernel
theorem d_MO_errorOfKeys_2 : decode m_MO_errorOfKeys.2.1 2 = .ok (.iload_n 2, 1) := by decide +kernel
theorem d_MO_errorOfKeys_3 : decode m_MO_errorOfKeys.2.1 3 = .ok (.invokevirtual 435, 3) := by decide +kernel
theorem d_MO_errorOfKeys_6 : decode m_MO_errorOfKeys.2.1 6 = .ok (.ifCond .eq 26, 3) := by decide +kernel
theorem d_MO_errorOfKeys_9 : decode m_MO_errorOfKeys.2.1 9 = .ok (.aload_n 0, 1) := by decide +kernel
theorem d_MO_errorOfKeys_10 : decode m_MO_errorOfKeys.2.1 10 = .ok (.iload_n 1, 1) := by decide +kernel
theorem d_MO_errorOfKeys_11 : decode m_MO_errorOfKeys.2.1 11 = .ok (.iload_n 3, 1) := by decide +kernel
theorem d_MO_errorOfKeys_12 : decode m_MO_errorOfKeys.2.1 12 = .ok (.invokevirtual 435, 3) := by decide +kernel
theorem d_MO_errorOfKeys_15 : decode m_MO_errorOfKeys.2.1 15 = .ok (.ifCond .eq 17, 3) := by decide +kernel
theorem d_MO_errorOfKeys_18 : decode m_MO_errorOfKeys.2.1 18 = .ok (.aload_n 0, 1) := by decide +kernel
theorem d_MO_errorOfKeys_19 : decode m_MO_errorOfKeys.2.1 19 = .ok (.iload_n 1, 1) := by decide +kernel
theorem d_MO_errorOfKeys_20 : decode m_MO_errorOfKeys.2.1 20 = .ok (.iload 4, 2) := by decide +kernel
theorem d_MO_errorOfKeys_22 : decode m_MO_errorOfKeys.2.1 22 = .ok (.invokevirtual 435, 3) := by decide +kernel
theorem d_MO_errorOfKeys_25 : decode m_MO_errorOfKeys.2.1 25 = .ok (.ifCond .eq 7, 3) := by decide +kernel
theorem d_MO_errorOfKeys_28 : decode m_MO_errorOfKeys.2.1 28 = .ok (.iconst 1, 1) := by decide +kernel
theorem d_MO_errorOfKeys_29 : decode m_MO_errorOfKeys.2.1 29 = .ok (.goto 4, 3) := by decide +kernel
theorem d_MO_errorOfKeys_32 : decode m_MO_errorOfKeys.2.1 32 = .ok (.iconst 0, 1) := by decide +kernel
theorem d_MO_errorOfKeys_33 : decode m_MO_errorOfKeys.2.1 33 = .ok (.istore 5, 2) := by decide +kernel
theorem d_MO_errorOfKeys_35 : decode m_MO_errorOfKeys.2.1 35 = .ok (.iload 5, 2) := by decide +kernel
theorem d_MO_errorOfKeys_37 : decode m_MO_errorOfKeys.2.1 37 = .ok (.ifCond .ne 7, 3) := by decide +kernel
theorem d_MO_errorOfKeys_40 : decode m_MO_errorOfKeys.2.1 40 = .ok (.iconst 1, 1) := by decide +kernel
theorem d_MO_errorOfKeys_41 : decode m_MO_errorOfKeys.2.1 41 = .ok (.goto 29, 3) := by decide +kernel
theorem d_MO_errorOfKeys_44 : decode m_MO_errorOfKeys.2.1 44 = .ok (.aload_n 0, 1) := by decide +kernel
theorem d_MO_errorOfKeys_45 : decode m_MO_errorOfKeys.2.1 45 = .ok (.iload_n 1, 1) := by decide +kernel
theorem d_MO_errorOfKeys_46 : decode m_MO_errorOfKeys.2.1 46 = .ok (.invokevirtual 438, 3) := by decide +kernel
theorem d_MO_errorOfKeys_49 : decode m_MO_errorOfKeys.2.1 49 = .ok (.ifCond .eq 7, 3) := by decide +kernel
theorem d_MO_errorOfKeys_52 : decode m_MO_errorOfKeys.2.1 52 = .ok (.iconst 2, 1) := by decide +kernel
theorem d_MO_errorOfKeys_53 : decode m_MO_errorOfKeys.2.1 53 = .ok (.goto 17, 3) := by decide +kernel
theorem d_MO_errorOfKeys_56 : decode m_MO_errorOfKeys.2.1 56 = .ok (.aload_n 0, 1) := by decide +kernel
theorem d_MO_errorOfKeys_57 : decode m_MO_errorOfKeys.2.1 57 = .ok (.getfield 345, 3) := by decide +kernel
theorem d_MO_errorOfKeys_60 : decode m_MO_errorOfKeys.2.1 60 = .ok (.bipush 8, 2) := by decide +kernel
theorem d_MO_errorOfKeys_62 : decode m_MO_errorOfKeys.2.1 62 = .ok (.if_icmp .ne 7, 3) := by decide +kernel
theorem d_MO_errorOfKeys_65 : decode m_MO_errorOfKeys.2.1 65 = .ok (.iconst 3, 1) := by decide +kernel
theorem d_MO_errorOfKeys_66 : decode m_MO_errorOfKeys.2.1 66 = .ok (.goto 4, 3) := by decide +kernel
theorem d_MO_errorOfKeys_69 : decode m_MO_errorOfKeys.2.1 69 = .ok (.iconst 0, 1) := by decide +kernel
theorem d_MO_errorOfKeys_70 : decode m_MO_errorOfKeys.2.1 70 = .ok (.ireturn, 1) := by decide +kernel
theorem d_MO_errorOfNarrow_0 : decode m_MO_errorOfNarrow.2.1 0 = .ok (.aload_n 0, 1) := by decide +kernel
theorem d_MO_errorOfNarrow_1 : decode m_MO_errorOfNarrow.2.1 1 = .ok (.iload_n 1, 1) := by decide +kernel
theorem d_MO_errorOfNarrow_2 : decode m_MO_errorOfNarrow.2.1 2 = .ok (.iload_n 2, 1) := by decide +kernel
theorem d_MO_errorOfNarrow_3 : decode m_MO_errorOfNarrow.2.1 3 = .ok (.invokevirtual 305, 3) := by decide +kernel
theorem d_MO_errorOfNarrow_6 : decode m_MO_errorOfNarrow.2.1 6 = .ok (.ifCond .ne 7, 3) := by decide +kernel
theorem d_MO_errorOfNarrow_9 : decode m_MO_errorOfNarrow.2.1 9 = .ok (.iconst 1, 1) := by decide +kernel
theorem d_MO_errorOfNarrow_10 : decode m_MO_errorOfNarrow.2.1 10 = .ok (.goto 26, 3) := by decide +kernel
theorem d_MO_errorOfNarrow_13 : decode m_MO_errorOfNarrow.2.1 13 = .ok (.aload_n 0, 1) := by decide +kernel
theorem d_MO_errorOfNarrow_14 : decode m_MO_errorOfNarrow.2.1 14 = .ok (.iload_n 1, 1) := by decide +kernel
theorem d_MO_errorOfNarrow_15 : decode m_MO_errorOfNarrow.2.1 15 = .ok (.iload_n 2, 1) := by decide +kernel
theorem d_MO_errorOfNarrow_16 : decode m_MO_errorOfNarrow.2.1 16 = .ok (.invokevirtual 308, 3) := by decide +kernel
theorem d_MO_errorOfNarrow_19 : decode m_MO_errorOfNarrow.2.1 19 = .ok (.ifCond .ne 16, 3) := by decide +kernel
theorem d_MO_errorOfNarrow_22 : decode m_MO_errorOfNarrow.2.1 22 = .ok (.iload_n 3, 1) := by decide +kernel
theorem d_MO_errorOfNarrow_23 : decode m_MO_errorOfNarrow.2.1 23 = .ok (.iload 4, 2) := by decide +kernel
theorem d_MO_errorOfNarrow_25 : decode m_MO_errorOfNarrow.2.1 25 = .ok (.invokestatic 295, 3) := by decide +kernel
theorem d_MO_errorOfNarrow_28 : decode m_MO_errorOfNarrow.2.1 28 = .ok (.ifCond .eq 7, 3) := by decide +kernel
theorem d_MO_errorOfNarrow_31 : decode m_MO_errorOfNarrow.2.1 31 = .ok (.iconst 0, 1) := by decide +kernel
theorem d_MO_errorOfNarrow_32 : decode m_MO_errorOfNarrow.2.1 32 = .ok (.goto 4, 3) := by decide +kernel
theorem d_MO_errorOfNarrow_35 : decode m_MO_errorOfNarrow.2.1 35 = .ok (.iconst 2, 1) := by decide +kernel
theorem d_MO_errorOfNarrow_36 : decode m_MO_errorOfNarrow.2.1 36 = .ok (.ireturn, 1) := by decide +kernel
theorem d_MO_errorOfQuestion_0 : decode m_MO_errorOfQuestion.2.1 0 = .ok (.aload_n 0, 1) := by decide +kernel
theorem d_MO_errorOfQuestion_1 : decode m_MO_errorOfQuestion.2.1 1 = .ok (.iload_n 1, 1) := by decide +kernel
theorem d_MO_errorOfQuestion_2 : decode m_MO_errorOfQuestion.2.1 2 = .ok (.invokevirtual 426, 3) := by decide +kernel
theorem d_MO_errorOfQuestion_5 : decode m_MO_errorOfQuestion.2.1 5 = .ok (.ifCond .eq 15, 3) := by decide +kernel
theorem d_MO_errorOfQuestion_8 : decode m_MO_errorOfQuestion.2.1 8 = .ok (.aload_n 0, 1) := by decide +kernel
theorem d_MO_errorOfQuestion_9 : decode m_MO_errorOfQuestion.2.1 9 = .ok (.iload_n 1, 1) := by decide +kernel
theorem d_MO_errorOfQuestion_10 : decode m_MO_errorOfQuestion.2.1 10 = .ok (.bipush 10, 2) := by decide +kernel
theorem d_MO_errorOfQuestion_12 : decode m_MO_errorOfQuestion.2.1 12 = .ok (.iadd, 1) := by decide +kernel
theorem d_MO_errorOfQuestion_13 : decode m_MO_errorOfQuestion.2.1 13 = .ok (.iload_n 2, 1) := by decide +kernel
theorem d_MO_errorOfQuestion_14 : decode m_MO_errorOfQuestion.2.1 14 = .ok (.invokevirtual 435, 3) := by decide +kernel
theorem d_MO_errorOfQuestion_17 : decode m_MO_errorOfQuestion.2.1 17 = .ok (.ifCond .ne 7, 3) := by decide +kernel
theorem d_MO_errorOfQuestion_20 : decode m_MO_errorOfQuestion.2.1 20 = .ok (.iconst 1, 1) := by decide +kernel
theorem d_MO_errorOfQuestion_21 : decode m_MO_errorOfQuestion.2.1 21 = .ok (.goto 17, 3) := by decide +kernel
theorem d_MO_errorOfQuestion_24 : decode m_MO_errorOfQuestion.2.1 24 = .ok (.aload_n 0, 1) := by decide +kernel
theorem d_MO_errorOfQuestion_25 : decode m_MO_errorOfQuestion.2.1 25 = .ok (.getfield 108, 3) := by decide +kernel
theorem d_MO_errorOfQuestion_28 : decode m_MO_errorOfQuestion.2.1 28 = .ok (.iload_n 1, 1) := by decide +kernel
theorem d_MO_errorOfQuestion_29 : decode m_MO_errorOfQuestion.2.1 29 = .ok (.iaload, 1) := by decide +kernel
theorem d_MO_errorOfQuestion_30 : decode m_MO_errorOfQuestion.2.1 30 = .ok (.ifCond .ne 7, 3) := by decide +kernel
theorem d_MO_errorOfQuestion_33 : decode m_MO_errorOfQuestion.2.1 33 = .ok (.iconst 0, 1) := by decide +kernel
theorem d_MO_errorOfQuestion_34 : decode m_MO_errorOfQuestion.2.1 34 = .ok (.goto 4, 3) := by decide +kernel
theorem d_MO_errorOfQuestion_37 : decode m_MO_errorOfQuestion.2.1 37 = .ok (.iconst 2, 1) := by decide +kernel
theorem d_MO_errorOfQuestion_38 : decode m_MO_errorOfQuestion.2.1 38 = .ok (.ireturn, 1) := by decide +kernel
theorem d_MO_errorOfStep_0 : decode m_MO_errorOfStep.2.1 0 = .ok (.aload_n 0, 1) := by decide +kernel
theorem d_MO_errorOfStep_1 : decode m_MO_errorOfStep.2.1 1 = .ok (.iload_n 1, 1) := by decide +kernel
theorem d_MO_errorOfStep_2 : decode m_MO_errorOfStep.2.1 2 = .ok (.invokevirtual 470, 3) := by decide +kernel
theorem d_MO_errorOfStep_5 : decode m_MO_errorOfStep.2.1 5 = .ok (.ifCond .eq 12, 3) := by decide +kernel
theorem d_MO_errorOfStep_8 : decode m_MO_errorOfStep.2.1 8 = .ok (.aload_n 0, 1) := by decide +kernel
theorem d_MO_errorOfStep_9 : decode m_MO_errorOfStep.2.1 9 = .ok (.iload_n 2, 1) := by decide +kernel
theorem d_MO_errorOfStep_10 : decode m_MO_errorOfStep.2.1 10 = .ok (.iload_n 3, 1) := by decide +kernel
theorem d_MO_errorOfStep_11 : decode m_MO_errorOfStep.2.1 11 = .ok (.invokevirtual 450, 3) := by decide +kernel
theorem d_MO_errorOfStep_14 : decode m_MO_errorOfStep.2.1 14 = .ok (.goto 4, 3) := by decide +kernel
theorem d_MO_errorOfStep_17 : decode m_MO_errorOfStep.2.1 17 = .ok (.iconst 1, 1) := by decide +kernel
theorem d_MO_errorOfStep_18 : decode m_MO_errorOfStep.2.1 18 = .ok (.istore 5, 2) := by decide +kernel
theorem d_MO_errorOfStep_20 : decode m_MO_errorOfStep.2.1 20 = .ok (.iload 5, 2) := by decide +kernel
theorem d_MO_errorOfStep_22 : decode m_MO_errorOfStep.2.1 22 = .ok (.ifCond .ne 15, 3) := by decide +kernel
theorem d_MO_errorOfStep_25 : decode m_MO_errorOfStep.2.1 25 = .ok (.iload 4, 2) := by decide +kernel
theorem d_MO_errorOfStep_27 : decode m_MO_errorOfStep.2.1 27 = .ok (.invokestatic 354, 3) := by decide +kernel
theorem d_MO_errorOfStep_30 : decode m_MO_errorOfStep.2.1 30 = .ok (.ifCond .ne 7, 3) := by decide +kernel
theorem d_MO_errorOfStep_33 : decode m_MO_errorOfStep.2.1 33 = .ok (.iconst 2, 1) := by decide +kernel
theorem d_MO_errorOfStep_34 : decode m_MO_errorOfStep.2.1 34 = .ok (.goto 5, 3) := by decide +kernel
theorem d_MO_errorOfStep_37 : decode m_MO_errorOfStep.2.1 37 = .ok (.iload 5, 2) := by decide +kernel
theorem d_MO_errorOfStep_39 : decode m_MO_errorOfStep.2.1 39 = .ok (.istore 5, 2) := by decide +kernel
theorem d_MO_errorOfStep_41 : decode m_MO_errorOfStep.2.1 41 = .ok (.iload 5, 2) := by decide +kernel
theorem d_MO_errorOfStep_43 : decode m_MO_errorOfStep.2.1 43 = .ok (.ifCond .ne 18, 3) := by decide +kernel
theorem d_MO_errorOfStep_46 : decode m_MO_errorOfStep.2.1 46 = .ok (.aload_n 0, 1) := by decide +kernel
theorem d_MO_errorOfStep_47 : decode m_MO_errorOfStep.2.1 47 = .ok (.getfield 165, 3) := by decide +kernel
theorem d_MO_errorOfStep_50 : decode m_MO_errorOfStep.2.1 50 = .ok (.iload_n 1, 1) := by decide +kernel
theorem d_MO_errorOfStep_51 : decode m_MO_errorOfStep.2.1 51 = .ok (.iaload, 1) := by decide +kernel
theorem d_MO_errorOfStep_52 : decode m_MO_errorOfStep.2.1 52 = .ok (.bipush 6, 2) := by decide +kernel
theorem d_MO_errorOfStep_54 : decode m_MO_errorOfStep.2.1 54 = .ok (.if_icmp .ne 7, 3) := by decide +kernel
theorem d_MO_errorOfStep_57 : decode m_MO_errorOfStep.2.1 57 = .ok (.iconst 3, 1) := by decide +kernel
theorem d_MO_errorOfStep_58 : decode m_MO_errorOfStep.2.1 58 = .ok (.goto 5, 3) := by decide +kernel
theorem d_MO_errorOfStep_61 : decode m_MO_errorOfStep.2.1 61 = .ok (.iload 5, 2) := by decide +kernel
theorem d_MO_errorOfStep_63 : decode m_MO_errorOfStep.2.1 63 = .ok (.ireturn, 1) := by decide +kernel
theorem d_MO_errorOfStored_0 : decode m_MO_errorOfStored.2.1 0 = .ok (.aload_n 0, 1) := by decide +kernel
theorem d_MO_errorOfStored_1 : decode m_MO_errorOfStored.2.1 1 = .ok (.iload_n 1, 1) := by decide +kernel
theorem d_MO_errorOfStored_2 : decode m_MO_errorOfStored.2.1 2 = .ok (.iload_n 2, 1) := by decide +kernel
theorem d_MO_errorOfStored_3 : decode m_MO_errorOfStored.2.1 3 = .ok (.invokevirtual 305, 3) := by decide +kernel
theorem d_MO_errorOfStored_6 : decode m_MO_errorOfStored.2.1 6 = .ok (.ifCond .ne 7, 3) := by decide +kernel
theorem d_MO_errorOfStored_9 : decode m_MO_errorOfStored.2.1 9 = .ok (.iconst 1, 1) := by decide +kernel
theorem d_MO_errorOfStored_10 : decode m_MO_errorOfStored.2.1 10 = .ok (.goto 21, 3) := by decide +kernel
theorem d_MO_errorOfStored_13 : decode m_MO_errorOfStored.2.1 13 = .ok (.aload_n 0, 1) := by decide +kernel
theorem d_MO_errorOfStored_14 : decode m_MO_errorOfStored.2.1 14 = .ok (.bipush 6, 2) := by decide +kernel
theorem d_MO_errorOfStored_16 : decode m_MO_errorOfStored.2.1 16 = .ok (.iload_n 1, 1) := by decide +kernel
theorem d_MO_errorOfStored_17 : decode m_MO_errorOfStored.2.1 17 = .ok (.imul, 1) := by decide +kernel
theorem d_MO_errorOfStored_18 : decode m_MO_errorOfStored.2.1 18 = .ok (.iload_n 2, 1) := by decide +kernel
theorem d_MO_errorOfStored_19 : decode m_MO_errorOfStored.2.1 19 = .ok (.iadd, 1) := by decide +kernel
theorem d_MO_errorOfStored_20 : decode m_MO_errorOfStored.2.1 20 = .ok (.invokevirtual 251, 3) := by decide +kernel
theorem d_MO_errorOfStored_23 : decode m_MO_errorOfStored.2.1 23 = .ok (.ifCond .eq 7, 3) := by decide +kernel
theorem d_MO_errorOfStored_26 : decode m_MO_errorOfStored.2.1 26 = .ok (.iconst 0, 1) := by decide +kernel
theorem d_MO_errorOfStored_27 : decode m_MO_errorOfStored.2.1 27 = .ok (.goto 4, 3) := by decide +kernel
theorem d_MO_errorOfStored_30 : decode m_MO_errorOfStored.2.1 30 = .ok (.iconst 2, 1) := by decide +kernel
theorem d_MO_errorOfStored_31 : decode m_MO_errorOfStored.2.1 31 = .ok (.ireturn, 1) := by decide +kernel
theorem d_MO_errorOfTaken_0 : decode m_MO_errorOfTaken.2.1 0 = .ok (.aload_n 0, 1) := by decide +kernel
theorem d_MO_errorOfTaken_1 : decode m_MO_errorOfTaken.2.1 1 = .ok (.iload_n 1, 1) := by decide +kernel
theorem d_MO_errorOfTaken_2 : decode m_MO_errorOfTaken.2.1 2 = .ok (.iload_n 2, 1) := by decide +kernel
theorem d_MO_errorOfTaken_3 : decode m_MO_errorOfTaken.2.1 3 = .ok (.invokevirtual 305, 3) := by decide +kernel
theorem d_MO_errorOfTaken_6 : decode m_MO_errorOfTaken.2.1 6 = .ok (.ifCond .ne 7, 3) := by decide +kernel
theorem d_MO_errorOfTaken_9 : decode m_MO_errorOfTaken.2.1 9 = .ok (.iconst 1, 1) := by decide +kernel
theorem d_MO_errorOfTaken_10 : decode m_MO_errorOfTaken.2.1 10 = .ok (.goto 18, 3) := by decide +kernel
theorem d_MO_errorOfTaken_13 : decode m_MO_errorOfTaken.2.1 13 = .ok (.aload_n 0, 1) := by decide +kernel
theorem d_MO_errorOfTaken_14 : decode m_MO_errorOfTaken.2.1 14 = .ok (.iload_n 1, 1) := by decide +kernel
theorem d_MO_errorOfTaken_15 : decode m_MO_errorOfTaken.2.1 15 = .ok (.iload_n 2, 1) := by decide +kernel
theorem d_MO_errorOfTaken_16 : decode m_MO_errorOfTaken.2.1 16 = .ok (.invokevirtual 308, 3) := by decide +kernel
theorem d_MO_errorOfTaken_19 : decode m_MO_errorOfTaken.2.1 19 = .ok (.iconst 3, 1) := by decide +kernel
theorem d_MO_errorOfTaken_20 : decode m_MO_errorOfTaken.2.1 20 = .ok (.if_icmp .ne 7, 3) := by decide +kernel
theorem d_MO_errorOfTaken_23 : decode m_MO_errorOfTaken.2.1 23 = .ok (.iconst 2, 1) := by decide +kernel
theorem d_MO_errorOfTaken_24 : decode m_MO_errorOfTaken.2.1 24 = .ok (.goto 4, 3) := by decide +kernel
theorem d_MO_errorOfTaken_27 : decode m_MO_errorOfTaken.2.1 27 = .ok (.iconst 0, 1) := by decide +kernel
theorem d_MO_errorOfTaken_28 : decode m_MO_errorOfTaken.2.1 28 = .ok (.ireturn, 1) := by decide +kernel
theorem d_MO_firstUsed_0 : decode m_MO_firstUsed.2.1 0 = .ok (.aload_n 0, 1) := by decide +kernel
theorem d_MO_firstUsed_1 : decode m_MO_firstUsed.2.1 1 = .ok (.getfield 28, 3) := by decide +kernel
theorem d_MO_firstUsed_4 : decode m_MO_firstUsed.2.1 4 = .ok (.iload_n 1, 1) := by decide +kernel
theorem d_MO_firstUsed_5 : decode m_MO_firstUsed.2.1 5 = .ok (.iaload, 1) := by decide +kernel
theorem d_MO_firstUsed_6 : decode m_MO_firstUsed.2.1 6 = .ok (.iconst 3, 1) := by decide +kernel
theorem d_MO_firstUsed_7 : decode m_MO_firstUsed.2.1 7 = .ok (.if_icmp .eq 13, 3) := by decide +kernel
theorem d_MO_firstUsed_10 : decode m_MO_firstUsed.2.1 10 = .ok (.aload_n 0, 1) := by decide +kernel
theorem d_MO_firstUsed_11 : decode m_MO_firstUsed.2.1 11 = .ok (.getfield 28, 3) := by decide +kernel
theorem d_MO_firstUsed_14 : decode m_MO_firstUsed.2.1 14 = .ok (.iload_n 1, 1) := by decide +kernel
theorem d_MO_firstUsed_15 : decode m_MO_firstUsed.2.1 15 = .ok (.iaload, 1) := by decide +kernel
theorem d_MO_firstUsed_16 : decode m_MO_firstUsed.2.1 16 = .ok (.iconst 4, 1) := by decide +kernel
theorem d_MO_firstUsed_17 : decode m_MO_firstUsed.2.1 17 = .ok (.if_icmp .ne 12, 3) := by decide +kernel
theorem d_MO_firstUsed_20 : decode m_MO_firstUsed.2.1 20 = .ok (.aload_n 0, 1) := by decide +kernel
theorem d_MO_firstUsed_21 : decode m_MO_firstUsed.2.1 21 = .ok (.getfield 37, 3) := by decide +kernel
theorem d_MO_firstUsed_24 : decode m_MO_firstUsed.2.1 24 = .ok (.iload_n 1, 1) := by decide +kernel
theorem d_MO_firstUsed_25 : decode m_MO_firstUsed.2.1 25 = .ok (.iaload, 1) := by decide +kernel
theorem d_MO_firstUsed_26 : decode m_MO_firstUsed.2.1 26 = .ok (.goto 7, 3) := by decide +kernel
theorem d_MO_firstUsed_29 : decode m_MO_firstUsed.2.1 29 = .ok (.iload_n 1, 1) := by decide +kernel
theorem d_MO_firstUsed_30 : decode m_MO_firstUsed.2.1 30 = .ok (.bipush 6, 2) := by decide +kernel
theorem d_MO_firstUsed_32 : decode m_MO_firstUsed.2.1 32 = .ok (.idiv, 1) := by decide +kernel
theorem d_MO_firstUsed_33 : decode m_MO_firstUsed.2.1 33 = .ok (.istore_n 2, 1) := by decide +kernel
theorem d_MO_firstUsed_34 : decode m_MO_firstUsed.2.1 34 = .ok (.bipush 6, 2) := by decide +kernel
theorem d_MO_firstUsed_36 : decode m_MO_firstUsed.2.1 36 = .ok (.iload_n 2, 1) := by decide +kernel
theorem d_MO_firstUsed_37 : decode m_MO_firstUsed.2.1 37 = .ok (.imul, 1) := by decide +kernel
theorem d_MO_firstUsed_38 : decode m_MO_firstUsed.2.1 38 = .ok (.aload_n 0, 1) := by decide +kernel
theorem d_MO_firstUsed_39 : decode m_MO_firstUsed.2.1 39 = .ok (.getfield 31, 3) := by decide +kernel
theorem d_MO_firstUsed_42 : decode m_MO_firstUsed.2.1 42 = .ok (.iload_n 1, 1) := by decide +kernel
theorem d_MO_firstUsed_43 : decode m_MO_firstUsed.2.1 43 = .ok (.iaload, 1) := by decide +kernel
theorem d_MO_firstUsed_44 : decode m_MO_firstUsed.2.1 44 = .ok (.iadd, 1) := by decide +kernel
theorem d_MO_firstUsed_45 : decode m_MO_firstUsed.2.1 45 = .ok (.ireturn, 1) := by decide +kernel
theorem d_MO_forgets_0 : decode m_MO_forgets.2.1 0 = .ok (.iconst 0, 1) := by decide +kernel
theorem d_MO_forgets_1 : decode m_MO_forgets.2.1 1 = .ok (.istore_n 1, 1) := by decide +kernel
theorem d_MO_forgets_2 : decode m_MO_forgets.2.1 2 = .ok (.iload_n 1, 1) := by decide +kernel
theorem d_MO_forgets_3 : decode m_MO_forgets.2.1 3 = .ok (.sipush 3600, 3) := by decide +kernel
theorem d_MO_forgets_6 : decode m_MO_forgets.2.1 6 = .ok (.if_icmp .ge 25, 3) := by decide +kernel
theorem d_MO_forgets_9 : decode m_MO_forgets.2.1 9 = .ok (.aload_n 0, 1) := by decide +kernel
theorem d_MO_forgets_10 : decode m_MO_forgets.2.1 10 = .ok (.getfield 99, 3) := by decide +kernel
theorem d_MO_forgets_13 : decode m_MO_forgets.2.1 13 = .ok (.iload_n 1, 1) := by decide +kernel
theorem d_MO_forgets_14 : decode m_MO_forgets.2.1 14 = .ok (.aload_n 0, 1) := by decide +kernel
theorem d_MO_forgets_15 : decode m_MO_forgets.2.1 15 = .ok (.getfield 99, 3) := by decide +kernel
theorem d_MO_forgets_18 : decode m_MO_forgets.2.1 18 = .ok (.iload_n 1, 1) := by decide +kernel
theorem d_MO_forgets_19 : decode m_MO_forgets.2.1 19 = .ok (.sipush 720, 3) := by decide +kernel
theorem d_MO_forgets_22 : decode m_MO_forgets.2.1 22 = .ok (.iadd, 1) := by decide +kernel
theorem d_MO_forgets_23 : decode m_MO_forgets.2.1 23 = .ok (.iaload, 1) := by decide +kernel
theorem d_MO_forgets_24 : decode m_MO_forgets.2.1 24 = .ok (.iastore, 1) := by decide +kernel
theorem d_MO_forgets_25 : decode m_MO_forgets.2.1 25 = .ok (.iinc 1 1, 3) := by decide +kernel
theorem d_MO_forgets_28 : decode m_MO_forgets.2.1 28 = .ok (.goto (-26), 3) := by decide +kernel
theorem d_MO_forgets_31 : decode m_MO_forgets.2.1 31 = .ok (.iconst 0, 1) := by decide +kernel
theorem d_MO_forgets_32 : decode m_MO_forgets.2.1 32 = .ok (.istore_n 1, 1) := by decide +kernel
theorem d_MO_forgets_33 : decode m_MO_forgets.2.1 33 = .ok (.iload_n 1, 1) := by decide +kernel
theorem d_MO_forgets_34 : decode m_MO_forgets.2.1 34 = .ok (.sipush 600, 3) := by decide +kernel
theorem d_MO_forgets_37 : decode m_MO_forgets.2.1 37 = .ok (.if_icmp .ge 24, 3) := by decide +kernel
theorem d_MO_forgets_40 : decode m_MO_forgets.2.1 40 = .ok (.aload_n 0, 1) := by decide +kernel
theorem d_MO_forgets_41 : decode m_MO_forgets.2.1 41 = .ok (.getfield 102, 3) := by decide +kernel
theorem d_MO_forgets_44 : decode m_MO_forgets.2.1 44 = .ok (.iload_n 1, 1) := by decide +kernel
theorem d_MO_forgets_45 : decode m_MO_forgets.2.1 45 = .ok (.aload_n 0, 1) := by decide +kernel
theorem d_MO_forgets_46 : decode m_MO_forgets.2.1 46 = .ok (.getfield 102, 3) := by decide +kernel
theorem d_MO_forgets_49 : decode m_MO_forgets.2.1 49 = .ok (.iload_n 1, 1) := by decide +kernel
theorem d_MO_forgets_50 : decode m_MO_forgets.2.1 50 = .ok (.bipush 120, 2) := by decide +kernel
theorem d_MO_forgets_52 : decode m_MO_forgets.2.1 52 = .ok (.iadd, 1) := by decide +kernel
theorem d_MO_forgets_53 : decode m_MO_forgets.2.1 53 = .ok (.baload, 1) := by decide +kernel
theorem d_MO_forgets_54 : decode m_MO_forgets.2.1 54 = .ok (.bastore, 1) := by decide +kernel
theorem d_MO_forgets_55 : decode m_MO_forgets.2.1 55 = .ok (.iinc 1 1, 3) := by decide +kernel
theorem d_MO_forgets_58 : decode m_MO_forgets.2.1 58 = .ok (.goto (-25), 3) := by decide +kernel
theorem d_MO_forgets_61 : decode m_MO_forgets.2.1 61 = .ok (.iconst 0, 1) := by decide +kernel
theorem d_MO_forgets_62 : decode m_MO_forgets.2.1 62 = .ok (.istore_n 1, 1) := by decide +kernel
theorem d_MO_forgets_63 : decode m_MO_forgets.2.1 63 = .ok (.iload_n 1, 1) := by decide +kernel
theorem d_MO_forgets_64 : decode m_MO_forgets.2.1 64 = .ok (.bipush 20, 2) := by decide +kernel
theorem d_MO_forgets_66 : decode m_MO_forgets.2.1 66 = .ok (.if_icmp .ge 23, 3) := by decide +kernel
theorem d_MO_forgets_69 : decode m_MO_forgets.2.1 69 = .ok (.aload_n 0, 1) := by decide +kernel
theorem d_MO_forgets_70 : decode m_MO_forgets.2.1 70 = .ok (.getfield 105, 3) := by decide +kernel
theorem d_MO_forgets_73 : decode m_MO_forgets.2.1 73 = .ok (.iload_n 1, 1) := by decide +kernel
theorem d_MO_forgets_74 : decode m_MO_forgets.2.1 74 = .ok (.aload_n 0, 1) := by decide +kernel
theorem d_MO_forgets_75 : decode m_MO_forgets.2.1 75 = .ok (.getfield 105, 3) := by decide +kernel
theorem d_MO_forgets_78 : decode m_MO_forgets.2.1 78 = .ok (.iload_n 1, 1) := by decide +kernel
theorem d_MO_forgets_79 : decode m_MO_forgets.2.1 79 = .ok (.iconst 4, 1) := by decide +kernel
theorem d_MO_forgets_80 : decode m_MO_forgets.2.1 80 = .ok (.iadd, 1) := by decide +kernel
theorem d_MO_forgets_81 : decode m_MO_forgets.2.1 81 = .ok (.iaload, 1) := by decide +kernel
theorem d_MO_forgets_82 : decode m_MO_forgets.2.1 82 = .ok (.iastore, 1) := by decide +kernel
theorem d_MO_forgets_83 : decode m_MO_forgets.2.1 83 = .ok (.iinc 1 1, 3) := by decide +kernel
theorem d_MO_forgets_86 : decode m_MO_forgets.2.1 86 = .ok (.goto (-23), 3) := by decide +kernel
theorem d_MO_forgets_89 : decode m_MO_forgets.2.1 89 = .ok (.aload_n 0, 1) := by decide +kernel
theorem d_MO_forgets_90 : decode m_MO_forgets.2.1 90 = .ok (.dup, 1) := by decide +kernel
theorem d_MO_forgets_91 : decode m_MO_forgets.2.1 91 = .ok (.getfield 289, 3) := by decide +kernel
theorem d_MO_forgets_94 : decode m_MO_forgets.2.1 94 = .ok (.iconst 1, 1) := by decide +kernel
theorem d_MO_forgets_95 : decode m_MO_forgets.2.1 95 = .ok (.isub, 1) := by decide +kernel
theorem d_MO_forgets_96 : decode m_MO_forgets.2.1 96 = .ok (.putfield 289, 3) := by decide +kernel
theorem d_MO_forgets_99 : decode m_MO_forgets.2.1 99 = .ok (.return_, 1) := by decide +kernel
theorem d_MO_formula_0 : decode m_MO_formula.2.1 0 = .ok (.aload_n 0, 1) := by decide +kernel
theorem d_MO_formula_1 : decode m_MO_formula.2.1 1 = .ok (.getfield 28, 3) := by decide +kernel
theorem d_MO_formula_4 : decode m_MO_formula.2.1 4 = .ok (.iload_n 1, 1) := by decide +kernel
theorem d_MO_formula_5 : decode m_MO_formula.2.1 5 = .ok (.iload_n 2, 1) := by decide +kernel
theorem d_MO_formula_6 : decode m_MO_formula.2.1 6 = .ok (.iastore, 1) := by decide +kernel
theorem d_MO_formula_7 : decode m_MO_formula.2.1 7 = .ok (.aload_n 0, 1) := by decide +kernel
theorem d_MO_formula_8 : decode m_MO_formula.2.1 8 = .ok (.getfield 31, 3) := by decide +kernel
theorem d_MO_formula_11 : decode m_MO_formula.2.1 11 = .ok (.iload_n 1, 1) := by decide +kernel
theorem d_MO_formula_12 : decode m_MO_formula.2.1 12 = .ok (.iload_n 3, 1) := by decide +kernel
theorem d_MO_formula_13 : decode m_MO_formula.2.1 13 = .ok (.iastore, 1) := by decide +kernel
theorem d_MO_formula_14 : decode m_MO_formula.2.1 14 = .ok (.aload_n 0, 1) := by decide +kernel
theorem d_MO_formula_15 : decode m_MO_formula.2.1 15 = .ok (.getfield 34, 3) := by decide +kernel
theorem d_MO_formula_18 : decode m_MO_formula.2.1 18 = .ok (.iload_n 1, 1) := by decide +kernel
theorem d_MO_formula_19 : decode m_MO_formula.2.1 19 = .ok (.iload 4, 2) := by decide +kernel
theorem d_MO_formula_21 : decode m_MO_formula.2.1 21 = .ok (.iastore, 1) := by decide +kernel
theorem d_MO_formula_22 : decode m_MO_formula.2.1 22 = .ok (.aload_n 0, 1) := by decide +kernel
theorem d_MO_formula_23 : decode m_MO_formula.2.1 23 = .ok (.getfield 37, 3) := by decide +kernel
theorem d_MO_formula_26 : decode m_MO_formula.2.1 26 = .ok (.iload_n 1, 1) := by decide +kernel
theorem d_MO_formula_27 : decode m_MO_formula.2.1 27 = .ok (.iload 5, 2) := by decide +kernel
theorem d_MO_formula_29 : decode m_MO_formula.2.1 29 = .ok (.iastore, 1) := by decide +kernel
theorem d_MO_formula_30 : decode m_MO_formula.2.1 30 = .ok (.return_, 1) := by decide +kernel
theorem d_MO_hasColumn_0 : decode m_MO_hasColumn.2.1 0 = .ok (.aload_n 0, 1) := by decide +kernel
theorem d_MO_hasColumn_1 : decode m_MO_hasColumn.2.1 1 = .ok (.aload_n 0, 1) := by decide +kernel
theorem d_MO_hasColumn_2 : decode m_MO_hasColumn.2.1 2 = .ok (.getfield 345, 3) := by decide +kernel
theorem d_MO_hasColumn_5 : decode m_MO_hasColumn.2.1 5 = .ok (.iconst 1, 1) := by decide +kernel
theorem d_MO_hasColumn_6 : decode m_MO_hasColumn.2.1 6 = .ok (.isub, 1) := by decide +kernel
theorem d_MO_hasColumn_7 : decode m_MO_hasColumn.2.1 7 = .ok (.invokevirtual 429, 3) := by decide +kernel
theorem d_MO_hasColumn_10 : decode m_MO_hasColumn.2.1 10 = .ok (.aload_n 0, 1) := by decide +kernel
theorem d_MO_hasColumn_11 : decode m_MO_hasColumn.2.1 11 = .ok (.iload_n 1, 1) := by decide +kernel
theorem d_MO_hasColumn_12 : decode m_MO_hasColumn.2.1 12 = .ok (.invokevirtual 432, 3) := by decide +kernel
theorem d_MO_hasColumn_15 : decode m_MO_hasColumn.2.1 15 = .ok (.ifCond .eq 26, 3) := by decide +kernel
theorem d_MO_hasColumn_18 : decode m_MO_hasColumn.2.1 18 = .ok (.iload_n 2, 1) := by decide +kernel
theorem d_MO_hasColumn_19 : decode m_MO_hasColumn.2.1 19 = .ok (.iconst 0, 1) := by decide +kernel
theorem d_MO_hasColumn_20 : decode m_MO_hasColumn.2.1 20 = .ok (.aload_n 0, 1) := by decide +kernel
theorem d_MO_hasColumn_21 : decode m_MO_hasColumn.2.1 21 = .ok (.getfield 147, 3) := by decide +kernel
theorem d_MO_hasColumn_24 : decode m_MO_hasColumn.2.1 24 = .ok (.iload_n 1, 1) := by decide +kernel
theorem d_MO_hasColumn_25 : decode m_MO_hasColumn.2.1 25 = .ok (.invokestatic 394, 3) := by decide +kernel
theorem d_MO_hasColumn_28 : decode m_MO_hasColumn.2.1 28 = .ok (.iaload, 1) := by decide +kernel
theorem d_MO_hasColumn_29 : decode m_MO_hasColumn.2.1 29 = .ok (.iconst 1, 1) := by decide +kernel
theorem d_MO_hasColumn_30 : decode m_MO_hasColumn.2.1 30 = .ok (.isub, 1) := by decide +kernel
theorem d_MO_hasColumn_31 : decode m_MO_hasColumn.2.1 31 = .ok (.invokestatic 190, 3) := by decide +kernel
theorem d_MO_hasColumn_34 : decode m_MO_hasColumn.2.1 34 = .ok (.ifCond .eq 7, 3) := by decide +kernel
theorem d_MO_hasColumn_37 : decode m_MO_hasColumn.2.1 37 = .ok (.iconst 1, 1) := by decide +kernel
theorem d_MO_hasColumn_38 : decode m_MO_hasColumn.2.1 38 = .ok (.goto 4, 3) := by decide +kernel
theorem d_MO_hasColumn_41 : decode m_MO_hasColumn.2.1 41 = .ok (.iconst 0, 1) := by decide +kernel
theorem d_MO_hasColumn_42 : decode m_MO_hasColumn.2.1 42 = .ok (.ireturn, 1) := by decide +kernel
theorem d_MO_held_0 : decode m_MO_held.2.1 0 = .ok (.lload_n 0, 1) := by decide +kernel
theorem d_MO_held_1 : decode m_MO_held.2.1 1 = .ok (.ldc2_w 194, 3) := by decide +kernel
theorem d_MO_held_4 : decode m_MO_held.2.1 4 = .ok (.lcmp, 1) := by decide +kernel
theorem d_MO_held_5 : decode m_MO_held.2.1 5 = .ok (.ifCond .lt 11, 3) := by decide +kernel
theorem d_MO_held_8 : decode m_MO_held.2.1 8 = .ok (.lload_n 0, 1) := by decide +kernel
theorem d_MO_held_9 : decode m_MO_held.2.1 9 = .ok (.ldc2_w 196, 3) := by decide +kernel
theorem d_MO_held_12 : decode m_MO_held.2.1 12 = .ok (.lcmp, 1) := by decide +kernel
theorem d_MO_held_13 : decode m_MO_held.2.1 13 = .ok (.ifCond .le 8, 3) := by decide +kernel
theorem d_MO_held_16 : decode m_MO_held.2.1 16 = .ok (.ldc 186, 2) := by decide +kernel
theorem d_MO_held_18 : decode m_MO_held.2.1 18 = .ok (.goto 5, 3) := by decide +kernel
theorem d_MO_held_21 : decode m_MO_held.2.1 21 = .ok (.lload_n 0, 1) := by decide +kernel
theorem d_MO_held_22 : decode m_MO_held.2.1 22 = .ok (.l2i, 1) := by decide +kernel
theorem d_MO_held_23 : decode m_MO_held.2.1 23 = .ok (.ireturn, 1) := by decide +kernel
theorem d_MO_holds_0 : decode m_MO_holds.2.1 0 = .ok (.aload_n 0, 1) := by decide +kernel
theorem d_MO_holds_1 : decode m_MO_holds.2.1 1 = .ok (.iload_n 1, 1) := by decide +kernel
theorem d_MO_holds_2 : decode m_MO_holds.2.1 2 = .ok (.putfield 187, 3) := by decide +kernel
theorem d_MO_holds_5 : decode m_MO_holds.2.1 5 = .ok (.iload_n 1, 1) := by decide +kernel
theorem d_MO_holds_6 : decode m_MO_holds.2.1 6 = .ok (.ifCond .ne 7, 3) := by decide +kernel
theorem d_MO_holds_9 : decode m_MO_holds.2.1 9 = .ok (.iconst 1, 1) := by decide +kernel
theorem d_MO_holds_10 : decode m_MO_holds.2.1 10 = .ok (.goto 4, 3) := by decide +kernel
theorem d_MO_holds_13 : decode m_MO_holds.2.1 13 = .ok (.iconst 0, 1) := by decide +kernel
theorem d_MO_holds_14 : decode m_MO_holds.2.1 14 = .ok (.ireturn, 1) := by decide +kernel
theorem d_MO_in_0 : decode m_MO_in.2.1 0 = .ok (.iload_n 0, 1) := by decide +kernel
theorem d_MO_in_1 : decode m_MO_in.2.1 1 = .ok (.iload_n 1, 1) := by decide +kernel
theorem d_MO_in_2 : decode m_MO_in.2.1 2 = .ok (.if_icmp .lt 12, 3) := by decide +kernel
theorem d_MO_in_5 : decode m_MO_in.2.1 5 = .ok (.iload_n 0, 1) := by decide +kernel
theorem d_MO_in_6 : decode m_MO_in.2.1 6 = .ok (.iload_n 2, 1) := by decide +kernel
theorem d_MO_in_7 : decode m_MO_in.2.1 7 = .ok (.if_icmp .gt 7, 3) := by decide +kernel
theorem d_MO_in_10 : decode m_MO_in.2.1 10 = .ok (.iconst 1, 1) := by decide +kernel
theorem d_MO_in_11 : decode m_MO_in.2.1 11 = .ok (.goto 4, 3) := by decide +kernel
theorem d_MO_in_14 : decode m_MO_in.2.1 14 = .ok (.iconst 0, 1) := by decide +kernel
theorem d_MO_in_15 : decode m_MO_in.2.1 15 = .ok (.ireturn, 1) := by decide +kernel
theorem d_MO_init_0 : decode m_MO_init.2.1 0 = .ok (.aload_n 0, 1) := by decide +kernel
theorem d_MO_init_1 : decode m_MO_init.2.1 1 = .ok (.invokespecial 1, 3) := by decide +kernel
theorem d_MO_init_4 : decode m_MO_init.2.1 4 = .ok (.aload_n 0, 1) := by decide +kernel
theorem d_MO_init_5 : decode m_MO_init.2.1 5 = .ok (.iconst 4, 1) := by decide +kernel
theorem d_MO_init_6 : decode m_MO_init.2.1 6 = .ok (.newarray .int, 2) := by decide +kernel
theorem d_MO_init_8 : decode m_MO_init.2.1 8 = .ok (.putfield 7, 3) := by decide +kernel
theorem d_MO_init_11 : decode m_MO_init.2.1 11 = .ok (.aload_n 0, 1) := by decide +kernel
theorem d_MO_init_12 : decode m_MO_init.2.1 12 = .ok (.bipush 24, 2) := by decide +kernel
theorem d_MO_init_14 : decode m_MO_init.2.1 14 = .ok (.newarray .int, 2) := by decide +kernel
theorem d_MO_init_16 : decode m_MO_init.2.1 16 = .ok (.putfield 13, 3) := by decide +kernel
theorem d_MO_init_19 : decode m_MO_init.2.1 19 = .ok (.aload_n 0, 1) := by decide +kernel
theorem d_MO_init_20 : decode m_MO_init.2.1 20 = .ok (.bipush 24, 2) := by decide +kernel
theorem d_MO_init_22 : decode m_MO_init.2.1 22 = .ok (.newarray .int, 2) := by decide +kernel
theorem d_MO_init_24 : decode m_MO_init.2.1 24 = .ok (.putfield 16, 3) := by decide +kernel
theorem d_MO_init_27 : decode m_MO_init.2.1 27 = .ok (.aload_n 0, 1) := by decide +kernel
theorem d_MO_init_28 : decode m_MO_init.2.1 28 = .ok (.bipush 24, 2) := by decide +kernel
theorem d_MO_init_30 : decode m_MO_init.2.1 30 = .ok (.newarray .int, 2) := by decide +kernel
theorem d_MO_init_32 : decode m_MO_init.2.1 32 = .ok (.putfield 19, 3) := by decide +kernel
theorem d_MO_init_35 : decode m_MO_init.2.1 35 = .ok (.aload_n 0, 1) := by decide +kernel
theorem d_MO_init_36 : decode m_MO_init.2.1 36 = .ok (.bipush 24, 2) := by decide +kernel
theorem d_MO_init_38 : decode m_MO_init.2.1 38 = .ok (.newarray .int, 2) := by decide +kernel
theorem d_MO_init_40 : decode m_MO_init.2.1 40 = .ok (.putfield 22, 3) := by decide +kernel
theorem d_MO_init_43 : decode m_MO_init.2.1 43 = .ok (.aload_n 0, 1) := by decide +kernel
theorem d_MO_init_44 : decode m_MO_init.2.1 44 = .ok (.bipush 24, 2) := by decide +kernel
theorem d_MO_init_46 : decode m_MO_init.2.1 46 = .ok (.newarray .int, 2) := by decide +kernel
theorem d_MO_init_48 : decode m_MO_init.2.1 48 = .ok (.putfield 25, 3) := by decide +kernel
theorem d_MO_init_51 : decode m_MO_init.2.1 51 = .ok (.aload_n 0, 1) := by decide +kernel
theorem d_MO_init_52 : decode m_MO_init.2.1 52 = .ok (.bipush 24, 2) := by decide +kernel
theorem d_MO_init_54 : decode m_MO_init.2.1 54 = .ok (.newarray .int, 2) := by decide +kernel
theorem d_MO_init_56 : decode m_MO_init.2.1 56 = .ok (.putfield 28, 3) := by decide +kernel
theorem d_MO_init_59 : decode m_MO_init.2.1 59 = .ok (.aload_n 0, 1) := by decide +kernel
theorem d_MO_init_60 : decode m_MO_init.2.1 60 = .ok (.bipush 24, 2) := by decide +kernel
theorem d_MO_init_62 : decode m_MO_init.2.1 62 = .ok (.newarray .int, 2) := by decide +kernel
theorem d_MO_init_64 : decode m_MO_init.2.1 64 = .ok (.putfield 31, 3) := by decide +kernel
theorem d_MO_init_67 : decode m_MO_init.2.1 67 = .ok (.aload_n 0, 1) := by decide +kernel
theorem d_MO_init_68 : decode m_MO_init.2.1 68 = .ok (.bipush 24, 2) := by decide +kernel
theorem d_MO_init_70 : decode m_MO_init.2.1 70 = .ok (.newarray .int, 2) := by decide +kernel
theorem d_MO_init_72 : decode m_MO_init.2.1 72 = .ok (.putfield 34, 3) := by decide +kernel
theorem d_MO_init_75 : decode m_MO_init.2.1 75 = .ok (.aload_n 0, 1) := by decide +kernel
theorem d_MO_init_76 : decode m_MO_init.2.1 76 = .ok (.bipush 24, 2) := by decide +kernel
theorem d_MO_init_78 : decode m_MO_init.2.1 78 = .ok (.newarray .int, 2) := by decide +kernel
theorem d_MO_init_80 : decode m_MO_init.2.1 80 = .ok (.putfield 37, 3) := by decide +kernel
theorem d_MO_init_83 : decode m_MO_init.2.1 83 = .ok (.aload_n 0, 1) := by decide +kernel
theorem d_MO_init_84 : decode m_MO_init.2.1 84 = .ok (.bipush 24, 2) := by decide +kernel
theorem d_MO_init_86 : decode m_MO_init.2.1 86 = .ok (.newarray .boolean, 2) := by decide +kernel
theorem d_MO_init_88 : decode m_MO_init.2.1 88 = .ok (.putfield 40, 3) := by decide +kernel
theorem d_MO_init_91 : decode m_MO_init.2.1 91 = .ok (.aload_n 0, 1) := by decide +kernel
theorem d_MO_init_92 : decode m_MO_init.2.1 92 = .ok (.bipush 24, 2) := by decide +kernel
theorem d_MO_init_94 : decode m_MO_init.2.1 94 = .ok (.newarray .boolean, 2) := by decide +kernel
theorem d_MO_init_96 : decode m_MO_init.2.1 96 = .ok (.putfield 44, 3) := by decide +kernel
theorem d_MO_init_99 : decode m_MO_init.2.1 99 = .ok (.aload_n 0, 1) := by decide +kernel
theorem d_MO_init_100 : decode m_MO_init.2.1 100 = .ok (.bipush 24, 2) := by decide +kernel
theorem d_MO_init_102 : decode m_MO_init.2.1 102 = .ok (.newarray .int, 2) := by decide +kernel
theorem d_MO_init_104 : decode m_MO_init.2.1 104 = .ok (.putfield 47, 3) := by decide +kernel
theorem d_MO_init_107 : decode m_MO_init.2.1 107 = .ok (.aload_n 0, 1) := by decide +kernel
theorem d_MO_init_108 : decode m_MO_init.2.1 108 = .ok (.bipush 24, 2) := by decide +kernel
theorem d_MO_init_110 : decode m_MO_init.2.1 110 = .ok (.newarray .boolean, 2) := by decide +kernel
theorem d_MO_init_112 : decode m_MO_init.2.1 112 = .ok (.putfield 50, 3) := by decide +kernel
theorem d_MO_init_115 : decode m_MO_init.2.1 115 = .ok (.aload_n 0, 1) := by decide +kernel
theorem d_MO_init_116 : decode m_MO_init.2.1 116 = .ok (.bipush 8, 2) := by decide +kernel
theorem d_MO_init_118 : decode m_MO_init.2.1 118 = .ok (.newarray .int, 2) := by decide +kernel
theorem d_MO_init_120 : decode m_MO_init.2.1 120 = .ok (.putfield 53, 3) := by decide +kernel
theorem d_MO_init_123 : decode m_MO_init.2.1 123 = .ok (.aload_n 0, 1) := by decide +kernel
theorem d_MO_init_124 : decode m_MO_init.2.1 124 = .ok (.bipush 8, 2) := by decide +kernel
theorem d_MO_init_126 : decode m_MO_init.2.1 126 = .ok (.newarray .int, 2) := by decide +kernel
theorem d_MO_init_128 : decode m_MO_init.2.1 128 = .ok (.putfield 56, 3) := by decide +kernel
theorem d_MO_init_131 : decode m_MO_init.2.1 131 = .ok (.aload_n 0, 1) := by decide +kernel
theorem d_MO_init_132 : decode m_MO_init.2.1 132 = .ok (.bipush 8, 2) := by decide +kernel
theorem d_MO_init_134 : decode m_MO_init.2.1 134 = .ok (.newarray .int, 2) := by decide +kernel
theorem d_MO_init_136 : decode m_MO_init.2.1 136 = .ok (.putfield 59, 3) := by decide +kernel
theorem d_MO_init_139 : decode m_MO_init.2.1 139 = .ok (.aload_n 0, 1) := by decide +kernel
theorem d_MO_init_140 : decode m_MO_init.2.1 140 = .ok (.bipush 8, 2) := by decide +kernel
theorem d_MO_init_142 : decode m_MO_init.2.1 142 = .ok (.newarray .int, 2) := by decide +kernel
theorem d_MO_init_144 : decode m_MO_init.2.1 144 = .ok (.putfield 62, 3) := by decide +kernel
theorem d_MO_init_147 : decode m_MO_init.2.1 147 = .ok (.aload_n 0, 1) := by decide +kernel
theorem d_MO_init_148 : decode m_MO_init.2.1 148 = .ok (.bipush 8, 2) := by decide +kernel
theorem d_MO_init_150 : decode m_MO_init.2.1 150 = .ok (.newarray .int, 2) := by decide +kernel
theorem d_MO_init_152 : decode m_MO_init.2.1 152 = .ok (.putfield 65, 3) := by decide +kernel
theorem d_MO_init_155 : decode m_MO_init.2.1 155 = .ok (.aload_n 0, 1) := by decide +kernel
theorem d_MO_init_156 : decode m_MO_init.2.1 156 = .ok (.bipush 8, 2) := by decide +kernel
theorem d_MO_init_158 : decode m_MO_init.2.1 158 = .ok (.newarray .boolean, 2) := by decide +kernel
theorem d_MO_init_160 : decode m_MO_init.2.1 160 = .ok (.putfield 68, 3) := by decide +kernel
theorem d_MO_init_163 : decode m_MO_init.2.1 163 = .ok (.aload_n 0, 1) := by decide +kernel
theorem d_MO_init_164 : decode m_MO_init.2.1 164 = .ok (.iconst 4, 1) := by decide +kernel
theorem d_MO_init_165 : decode m_MO_init.2.1 165 = .ok (.newarray .int, 2) := by decide +kernel
theorem d_MO_init_167 : decode m_MO_init.2.1 167 = .ok (.putfield 71, 3) := by decide +kernel
theorem d_MO_init_170 : decode m_MO_init.2.1 170 = .ok (.aload_n 0, 1) := by decide +kernel
theorem d_MO_init_171 : decode m_MO_init.2.1 171 = .ok (.bipush 120, 2) := by decide +kernel
theorem d_MO_init_173 : decode m_MO_init.2.1 173 = .ok (.newarray .boolean, 2) := by decide +kernel
theorem d_MO_init_175 : decode m_MO_init.2.1 175 = .ok (.putfield 74, 3) := by decide +kernel
theorem d_MO_init_178 : decode m_MO_init.2.1 178 = .ok (.aload_n 0, 1) := by decide +kernel
theorem d_MO_init_179 : decode m_MO_init.2.1 179 = .ok (.sipush 720, 3) := by decide +kernel
theorem d_MO_init_182 : decode m_MO_init.2.1 182 = .ok (.newarray .int, 2) := by decide +kernel
theorem d_MO_init_184 : decode m_MO_init.2.1 184 = .ok (.putfield 77, 3) := by decide +kernel
theorem d_MO_init_187 : decode m_MO_init.2.1 187 = .ok (.aload_n 0, 1) := by decide +kernel
theorem d_MO_init_188 : decode m_MO_init.2.1 188 = .ok (.bipush 6, 2) := by decide +kernel
theorem d_MO_init_190 : decode m_MO_init.2.1 190 = .ok (.newarray .int, 2) := by decide +kernel
theorem d_MO_init_192 : decode m_MO_init.2.1 192 = .ok (.putfield 80, 3) := by decide +kernel
theorem d_MO_init_195 : decode m_MO_init.2.1 195 = .ok (.aload_n 0, 1) := by decide +kernel
theorem d_MO_init_196 : decode m_MO_init.2.1 196 = .ok (.iconst (-1), 1) := by decide +kernel
theorem d_MO_init_197 : decode m_MO_init.2.1 197 = .ok (.putfield 83, 3) := by decide +kernel
theorem d_MO_init_200 : decode m_MO_init.2.1 200 = .ok (.aload_n 0, 1) := by decide +kernel
theorem d_MO_init_201 : decode m_MO_init.2.1 201 = .ok (.bipush 120, 2) := by decide +kernel
theorem d_MO_init_203 : decode m_MO_init.2.1 203 = .ok (.newarray .boolean, 2) := by decide +kernel
theorem d_MO_init_205 : decode m_MO_init.2.1 205 = .ok (.putfield 87, 3) := by decide +kernel
theorem d_MO_init_208 : decode m_MO_init.2.1 208 = .ok (.aload_n 0, 1) := by decide +kernel
theorem d_MO_init_209 : decode m_MO_init.2.1 209 = .ok (.iconst (-1), 1) := by decide +kernel
theorem d_MO_init_210 : decode m_MO_init.2.1 210 = .ok (.putfield 90, 3) := by decide +kernel
theorem d_MO_init_213 : decode m_MO_init.2.1 213 = .ok (.aload_n 0, 1) := by decide +kernel
theorem d_MO_init_214 : decode m_MO_init.2.1 214 = .ok (.iconst (-1), 1) := by decide +kernel
theorem d_MO_init_215 : decode m_MO_init.2.1 215 = .ok (.putfield 93, 3) := by decide +kernel
theorem d_MO_init_218 : decode m_MO_init.2.1 218 = .ok (.aload_n 0, 1) := by decide +kernel
theorem d_MO_init_219 : decode m_MO_init.2.1 219 = .ok (.iconst (-1), 1) := by decide +kernel
theorem d_MO_init_220 : decode m_MO_init.2.1 220 = .ok (.putfield 96, 3) := by decide +kernel
theorem d_MO_init_223 : decode m_MO_init.2.1 223 = .ok (.aload_n 0, 1) := by decide +kernel
theorem d_MO_init_224 : decode m_MO_init.2.1 224 = .ok (.sipush 5040, 3) := by decide +kernel
theorem d_MO_init_227 : decode m_MO_init.2.1 227 = .ok (.newarray .int, 2) := by decide +kernel
theorem d_MO_init_229 : decode m_MO_init.2.1 229 = .ok (.putfield 99, 3) := by decide +kernel
theorem d_MO_init_232 : decode m_MO_init.2.1 232 = .ok (.aload_n 0, 1) := by decide +kernel
theorem d_MO_init_233 : decode m_MO_init.2.1 233 = .ok (.sipush 840, 3) := by decide +kernel
theorem d_MO_init_236 : decode m_MO_init.2.1 236 = .ok (.newarray .boolean, 2) := by decide +kernel
theorem d_MO_init_238 : decode m_MO_init.2.1 238 = .ok (.putfield 102, 3) := by decide +kernel
theorem d_MO_init_241 : decode m_MO_init.2.1 241 = .ok (.aload_n 0, 1) := by decide +kernel
theorem d_MO_init_242 : decode m_MO_init.2.1 242 = .ok (.bipush 28, 2) := by decide +kernel
theorem d_MO_init_244 : decode m_MO_init.2.1 244 = .ok (.newarray .int, 2) := by decide +kernel
theorem d_MO_init_246 : decode m_MO_init.2.1 246 = .ok (.putfield 105, 3) := by decide +kernel
theorem d_MO_init_249 : decode m_MO_init.2.1 249 = .ok (.aload_n 0, 1) := by decide +kernel
theorem d_MO_init_250 : decode m_MO_init.2.1 250 = .ok (.bipush 8, 2) := by decide +kernel
theorem d_MO_init_252 : decode m_MO_init.2.1 252 = .ok (.newarray .int, 2) := by decide +kernel
theorem d_MO_init_254 : decode m_MO_init.2.1 254 = .ok (.putfield 108, 3) := by decide +kernel
theorem d_MO_init_257 : decode m_MO_init.2.1 257 = .ok (.aload_n 0, 1) := by decide +kernel
theorem d_MO_init_258 : decode m_MO_init.2.1 258 = .ok (.bipush 8, 2) := by decide +kernel
theorem d_MO_init_260 : decode m_MO_init.2.1 260 = .ok (.newarray .int, 2) := by decide +kernel
theorem d_MO_init_262 : decode m_MO_init.2.1 262 = .ok (.putfield 111, 3) := by decide +kernel
theorem d_MO_init_265 : decode m_MO_init.2.1 265 = .ok (.aload_n 0, 1) := by decide +kernel
theorem d_MO_init_266 : decode m_MO_init.2.1 266 = .ok (.bipush 8, 2) := by decide +kernel
theorem d_MO_init_268 : decode m_MO_init.2.1 268 = .ok (.newarray .int, 2) := by decide +kernel
theorem d_MO_init_270 : decode m_MO_init.2.1 270 = .ok (.putfield 114, 3) := by decide +kernel
theorem d_MO_init_273 : decode m_MO_init.2.1 273 = .ok (.aload_n 0, 1) := by decide +kernel
theorem d_MO_init_274 : decode m_MO_init.2.1 274 = .ok (.bipush 8, 2) := by decide +kernel
theorem d_MO_init_276 : decode m_MO_init.2.1 276 = .ok (.newarray .int, 2) := by decide +kernel
theorem d_MO_init_278 : decode m_MO_init.2.1 278 = .ok (.putfield 117, 3) := by decide +kernel
theorem d_MO_init_281 : decode m_MO_init.2.1 281 = .ok (.aload_n 0, 1) := by decide +kernel
theorem d_MO_init_282 : decode m_MO_init.2.1 282 = .ok (.bipush 8, 2) := by decide +kernel
theorem d_MO_init_284 : decode m_MO_init.2.1 284 = .ok (.newarray .int, 2) := by decide +kernel
theorem d_MO_init_286 : decode m_MO_init.2.1 286 = .ok (.putfield 120, 3) := by decide +kernel
theorem d_MO_init_289 : decode m_MO_init.2.1 289 = .ok (.aload_n 0, 1) := by decide +kernel
theorem d_MO_init_290 : decode m_MO_init.2.1 290 = .ok (.bipush 8, 2) := by decide +kernel
theorem d_MO_init_292 : decode m_MO_init.2.1 292 = .ok (.newarray .int, 2) := by decide +kernel
theorem d_MO_init_294 : decode m_MO_init.2.1 294 = .ok (.putfield 123, 3) := by decide +kernel
theorem d_MO_init_297 : decode m_MO_init.2.1 297 = .ok (.aload_n 0, 1) := by decide +kernel
theorem d_MO_init_298 : decode m_MO_init.2.1 298 = .ok (.bipush 8, 2) := by decide +kernel
theorem d_MO_init_300 : decode m_MO_init.2.1 300 = .ok (.newarray .int, 2) := by decide +kernel
theorem d_MO_init_302 : decode m_MO_init.2.1 302 = .ok (.putfield 126, 3) := by decide +kernel
theorem d_MO_init_305 : decode m_MO_init.2.1 305 = .ok (.aload_n 0, 1) := by decide +kernel
theorem d_MO_init_306 : decode m_MO_init.2.1 306 = .ok (.bipush 8, 2) := by decide +kernel
theorem d_MO_init_308 : decode m_MO_init.2.1 308 = .ok (.newarray .int, 2) := by decide +kernel
theorem d_MO_init_310 : decode m_MO_init.2.1 310 = .ok (.putfield 129, 3) := by decide +kernel
theorem d_MO_init_313 : decode m_MO_init.2.1 313 = .ok (.aload_n 0, 1) := by decide +kernel
theorem d_MO_init_314 : decode m_MO_init.2.1 314 = .ok (.bipush 48, 2) := by decide +kernel
theorem d_MO_init_316 : decode m_MO_init.2.1 316 = .ok (.newarray .int, 2) := by decide +kernel
theorem d_MO_init_318 : decode m_MO_init.2.1 318 = .ok (.putfield 132, 3) := by decide +kernel
theorem d_MO_init_321 : decode m_MO_init.2.1 321 = .ok (.aload_n 0, 1) := by decide +kernel
theorem d_MO_init_322 : decode m_MO_init.2.1 322 = .ok (.bipush 48, 2) := by decide +kernel
theorem d_MO_init_324 : decode m_MO_init.2.1 324 = .ok (.newarray .int, 2) := by decide +kernel
theorem d_MO_init_326 : decode m_MO_init.2.1 326 = .ok (.putfield 135, 3) := by decide +kernel
theorem d_MO_init_329 : decode m_MO_init.2.1 329 = .ok (.aload_n 0, 1) := by decide +kernel
theorem d_MO_init_330 : decode m_MO_init.2.1 330 = .ok (.bipush 48, 2) := by decide +kernel
theorem d_MO_init_332 : decode m_MO_init.2.1 332 = .ok (.newarray .int, 2) := by decide +kernel
theorem d_MO_init_334 : decode m_MO_init.2.1 334 = .ok (.putfield 138, 3) := by decide +kernel
theorem d_MO_init_337 : decode m_MO_init.2.1 337 = .ok (.aload_n 0, 1) := by decide +kernel
theorem d_MO_init_338 : decode m_MO_init.2.1 338 = .ok (.bipush 48, 2) := by decide +kernel
theorem d_MO_init_340 : decode m_MO_init.2.1 340 = .ok (.newarray .int, 2) := by decide +kernel
theorem d_MO_init_342 : decode m_MO_init.2.1 342 = .ok (.putfield 141, 3) := by decide +kernel
theorem d_MO_init_345 : decode m_MO_init.2.1 345 = .ok (.aload_n 0, 1) := by decide +kernel
theorem d_MO_init_346 : decode m_MO_init.2.1 346 = .ok (.bipush 12, 2) := by decide +kernel
theorem d_MO_init_348 : decode m_MO_init.2.1 348 = .ok (.newarray .int, 2) := by decide +kernel
theorem d_MO_init_350 : decode m_MO_init.2.1 350 = .ok (.putfield 144, 3) := by decide +kernel
theorem d_MO_init_353 : decode m_MO_init.2.1 353 = .ok (.aload_n 0, 1) := by decide +kernel
theorem d_MO_init_354 : decode m_MO_init.2.1 354 = .ok (.bipush 12, 2) := by decide +kernel
theorem d_MO_init_356 : decode m_MO_init.2.1 356 = .ok (.newarray .int, 2) := by decide +kernel
theorem d_MO_init_358 : decode m_MO_init.2.1 358 = .ok (.putfield 147, 3) := by decide +kernel
theorem d_MO_init_361 : decode m_MO_init.2.1 361 = .ok (.aload_n 0, 1) := by decide +kernel
theorem d_MO_init_362 : decode m_MO_init.2.1 362 = .ok (.sipush 19440, 3) := by decide +kernel
theorem d_MO_init_365 : decode m_MO_init.2.1 365 = .ok (.newarray .int, 2) := by decide +kernel
theorem d_MO_init_367 : decode m_MO_init.2.1 367 = .ok (.putfield 150, 3) := by decide +kernel
theorem d_MO_init_370 : decode m_MO_init.2.1 370 = .ok (.aload_n 0, 1) := by decide +kernel
theorem d_MO_init_371 : decode m_MO_init.2.1 371 = .ok (.sipush 19440, 3) := by decide +kernel
theorem d_MO_init_374 : decode m_MO_init.2.1 374 = .ok (.newarray .int, 2) := by decide +kernel
theorem d_MO_init_376 : decode m_MO_init.2.1 376 = .ok (.putfield 153, 3) := by decide +kernel
theorem d_MO_init_379 : decode m_MO_init.2.1 379 = .ok (.aload_n 0, 1) := by decide +kernel
theorem d_MO_init_380 : decode m_MO_init.2.1 380 = .ok (.sipush 648, 3) := by decide +kernel
theorem d_MO_init_383 : decode m_MO_init.2.1 383 = .ok (.newarray .int, 2) := by decide +kernel
theorem d_MO_init_385 : decode m_MO_init.2.1 385 = .ok (.putfield 156, 3) := by decide +kernel
theorem d_MO_init_388 : decode m_MO_init.2.1 388 = .ok (.aload_n 0, 1) := by decide +kernel
theorem d_MO_init_389 : decode m_MO_init.2.1 389 = .ok (.sipush 240, 3) := by decide +kernel
theorem d_MO_init_392 : decode m_MO_init.2.1 392 = .ok (.newarray .int, 2) := by decide +kernel
theorem d_MO_init_394 : decode m_MO_init.2.1 394 = .ok (.putfield 159, 3) := by decide +kernel
theorem d_MO_init_397 : decode m_MO_init.2.1 397 = .ok (.aload_n 0, 1) := by decide +kernel
theorem d_MO_init_398 : decode m_MO_init.2.1 398 = .ok (.bipush 30, 2) := by decide +kernel
theorem d_MO_init_400 : decode m_MO_init.2.1 400 = .ok (.newarray .int, 2) := by decide +kernel
theorem d_MO_init_402 : decode m_MO_init.2.1 402 = .ok (.putfield 162, 3) := by decide +kernel
theorem d_MO_init_405 : decode m_MO_init.2.1 405 = .ok (.aload_n 0, 1) := by decide +kernel
theorem d_MO_init_406 : decode m_MO_init.2.1 406 = .ok (.iconst 4, 1) := by decide +kernel
theorem d_MO_init_407 : decode m_MO_init.2.1 407 = .ok (.newarray .int, 2) := by decide +kernel
theorem d_MO_init_409 : decode m_MO_init.2.1 409 = .ok (.putfield 165, 3) := by decide +kernel
theorem d_MO_init_412 : decode m_MO_init.2.1 412 = .ok (.aload_n 0, 1) := by decide +kernel
theorem d_MO_init_413 : decode m_MO_init.2.1 413 = .ok (.bipush 24, 2) := by decide +kernel
theorem d_MO_init_415 : decode m_MO_init.2.1 415 = .ok (.newarray .int, 2) := by decide +kernel
theorem d_MO_init_417 : decode m_MO_init.2.1 417 = .ok (.putfield 168, 3) := by decide +kernel
theorem d_MO_init_420 : decode m_MO_init.2.1 420 = .ok (.aload_n 0, 1) := by decide +kernel
theorem d_MO_init_421 : decode m_MO_init.2.1 421 = .ok (.bipush 24, 2) := by decide +kernel
theorem d_MO_init_423 : decode m_MO_init.2.1 423 = .ok (.newarray .int, 2) := by decide +kernel
theorem d_MO_init_425 : decode m_MO_init.2.1 425 = .ok (.putfield 171, 3) := by decide +kernel
theorem d_MO_init_428 : decode m_MO_init.2.1 428 = .ok (.aload_n 0, 1) := by decide +kernel
theorem d_MO_init_429 : decode m_MO_init.2.1 429 = .ok (.bipush 24, 2) := by decide +kernel
theorem d_MO_init_431 : decode m_MO_init.2.1 431 = .ok (.newarray .int, 2) := by decide +kernel
theorem d_MO_init_433 : decode m_MO_init.2.1 433 = .ok (.putfield 174, 3) := by decide +kernel
theorem d_MO_init_436 : decode m_MO_init.2.1 436 = .ok (.aload_n 0, 1) := by decide +kernel
theorem d_MO_init_437 : decode m_MO_init.2.1 437 = .ok (.bipush 24, 2) := by decide +kernel
theorem d_MO_init_439 : decode m_MO_init.2.1 439 = .ok (.newarray .int, 2) := by decide +kernel
theorem d_MO_init_441 : decode m_MO_init.2.1 441 = .ok (.putfield 177, 3) := by decide +kernel
theorem d_MO_init_444 : decode m_MO_init.2.1 444 = .ok (.aload_n 0, 1) := by decide +kernel
theorem d_MO_init_445 : decode m_MO_init.2.1 445 = .ok (.sipush 144, 3) := by decide +kernel
theorem d_MO_init_448 : decode m_MO_init.2.1 448 = .ok (.newarray .int, 2) := by decide +kernel
theorem d_MO_init_450 : decode m_MO_init.2.1 450 = .ok (.putfield 180, 3) := by decide +kernel
theorem d_MO_init_453 : decode m_MO_init.2.1 453 = .ok (.aload_n 0, 1) := by decide +kernel
theorem d_MO_init_454 : decode m_MO_init.2.1 454 = .ok (.bipush 30, 2) := by decide +kernel
theorem d_MO_init_456 : decode m_MO_init.2.1 456 = .ok (.newarray .int, 2) := by decide +kernel
theorem d_MO_init_458 : decode m_MO_init.2.1 458 = .ok (.putfield 183, 3) := by decide +kernel
theorem d_MO_init_461 : decode m_MO_init.2.1 461 = .ok (.iconst 0, 1) := by decide +kernel
theorem d_MO_init_462 : decode m_MO_init.2.1 462 = .ok (.istore_n 1, 1) := by decide +kernel
theorem d_MO_init_463 : decode m_MO_init.2.1 463 = .ok (.iload_n 1, 1) := by decide +kernel
theorem d_MO_init_464 : decode m_MO_init.2.1 464 = .ok (.bipush 6, 2) := by decide +kernel
theorem d_MO_init_466 : decode m_MO_init.2.1 466 = .ok (.if_icmp .ge 17, 3) := by decide +kernel
theorem d_MO_init_469 : decode m_MO_init.2.1 469 = .ok (.aload_n 0, 1) := by decide +kernel
theorem d_MO_init_470 : decode m_MO_init.2.1 470 = .ok (.getfield 80, 3) := by decide +kernel
theorem d_MO_init_473 : decode m_MO_init.2.1 473 = .ok (.iload_n 1, 1) := by decide +kernel
theorem d_MO_init_474 : decode m_MO_init.2.1 474 = .ok (.ldc 186, 2) := by decide +kernel
theorem d_MO_init_476 : decode m_MO_init.2.1 476 = .ok (.iastore, 1) := by decide +kernel
theorem d_MO_init_477 : decode m_MO_init.2.1 477 = .ok (.iinc 1 1, 3) := by decide +kernel
theorem d_MO_init_480 : decode m_MO_init.2.1 480 = .ok (.goto (-17), 3) := by decide +kernel
theorem d_MO_init_483 : decode m_MO_init.2.1 483 = .ok (.iconst 0, 1) := by decide +kernel
theorem d_MO_init_484 : decode m_MO_init.2.1 484 = .ok (.istore_n 1, 1) := by decide +kernel
theorem d_MO_init_485 : decode m_MO_init.2.1 485 = .ok (.iload_n 1, 1) := by decide +kernel
theorem d_MO_init_486 : decode m_MO_init.2.1 486 = .ok (.bipush 24, 2) := by decide +kernel
theorem d_MO_init_488 : decode m_MO_init.2.1 488 = .ok (.if_icmp .ge 16, 3) := by decide +kernel
theorem d_MO_init_491 : decode m_MO_init.2.1 491 = .ok (.aload_n 0, 1) := by decide +kernel
theorem d_MO_init_492 : decode m_MO_init.2.1 492 = .ok (.getfield 13, 3) := by decide +kernel
theorem d_MO_init_495 : decode m_MO_init.2.1 495 = .ok (.iload_n 1, 1) := by decide +kernel
theorem d_MO_init_496 : decode m_MO_init.2.1 496 = .ok (.iconst (-1), 1) := by decide +kernel
theorem d_MO_init_497 : decode m_MO_init.2.1 497 = .ok (.iastore, 1) := by decide +kernel
theorem d_MO_init_498 : decode m_MO_init.2.1 498 = .ok (.iinc 1 1, 3) := by decide +kernel
theorem d_MO_init_501 : decode m_MO_init.2.1 501 = .ok (.goto (-16), 3) := by decide +kernel
theorem d_MO_init_504 : decode m_MO_init.2.1 504 = .ok (.return_, 1) := by decide +kernel
theorem d_MO_isAct_0 : decode m_MO_isAct.2.1 0 = .ok (.iload_n 1, 1) := by decide +kernel
theorem d_MO_isAct_1 : decode m_MO_isAct.2.1 1 = .ok (.iconst 0, 1) := by decide +kernel
theorem d_MO_isAct_2 : decode m_MO_isAct.2.1 2 = .ok (.aload_n 0, 1) := by decide +kernel
theorem d_MO_isAct_3 : decode m_MO_isAct.2.1 3 = .ok (.getfield 467, 3) := by decide +kernel
theorem d_MO_isAct_6 : decode m_MO_isAct.2.1 6 = .ok (.iconst 1, 1) := by decide +kernel
theorem d_MO_isAct_7 : decode m_MO_isAct.2.1 7 = .ok (.isub, 1) := by decide +kernel
theorem d_MO_isAct_8 : decode m_MO_isAct.2.1 8 = .ok (.invokestatic 190, 3) := by decide +kernel
theorem d_MO_isAct_11 : decode m_MO_isAct.2.1 11 = .ok (.ireturn, 1) := by decide +kernel
theorem d_MO_isAnswer_0 : decode m_MO_isAnswer.2.1 0 = .ok (.aload_n 0, 1) := by decide +kernel
theorem d_MO_isAnswer_1 : decode m_MO_isAnswer.2.1 1 = .ok (.iload_n 1, 1) := by decide +kernel
theorem d_MO_isAnswer_2 : decode m_MO_isAnswer.2.1 2 = .ok (.invokevirtual 426, 3) := by decide +kernel
theorem d_MO_isAnswer_5 : decode m_MO_isAnswer.2.1 5 = .ok (.ifCond .ne 5, 3) := by decide +kernel
theorem d_MO_isAnswer_8 : decode m_MO_isAnswer.2.1 8 = .ok (.iconst 0, 1) := by decide +kernel
theorem d_MO_isAnswer_9 : decode m_MO_isAnswer.2.1 9 = .ok (.ireturn, 1) := by decide +kernel
theorem d_MO_isAnswer_10 : decode m_MO_isAnswer.2.1 10 = .ok (.aload_n 0, 1) := by decide +kernel
theorem d_MO_isAnswer_11 : decode m_MO_isAnswer.2.1 11 = .ok (.iload_n 1, 1) := by decide +kernel
theorem d_MO_isAnswer_12 : decode m_MO_isAnswer.2.1 12 = .ok (.invokevirtual 429, 3) := by decide +kernel
theorem d_MO_isAnswer_15 : decode m_MO_isAnswer.2.1 15 = .ok (.iload_n 2, 1) := by decide +kernel
theorem d_MO_isAnswer_16 : decode m_MO_isAnswer.2.1 16 = .ok (.iconst 0, 1) := by decide +kernel
theorem d_MO_isAnswer_17 : decode m_MO_isAnswer.2.1 17 = .ok (.aload_n 0, 1) := by decide +kernel
theorem d_MO_isAnswer_18 : decode m_MO_isAnswer.2.1 18 = .ok (.getfield 144, 3) := by decide +kernel
theorem d_MO_isAnswer_21 : decode m_MO_isAnswer.2.1 21 = .ok (.iload_n 1, 1) := by decide +kernel
theorem d_MO_isAnswer_22 : decode m_MO_isAnswer.2.1 22 = .ok (.iaload, 1) := by decide +kernel
theorem d_MO_isAnswer_23 : decode m_MO_isAnswer.2.1 23 = .ok (.iconst 1, 1) := by decide +kernel
theorem d_MO_isAnswer_24 : decode m_MO_isAnswer.2.1 24 = .ok (.isub, 1) := by decide +kernel
theorem d_MO_isAnswer_25 : decode m_MO_isAnswer.2.1 25 = .ok (.invokestatic 190, 3) := by decide +kernel
theorem d_MO_isAnswer_28 : decode m_MO_isAnswer.2.1 28 = .ok (.ifCond .eq 23, 3) := by decide +kernel
theorem d_MO_isAnswer_31 : decode m_MO_isAnswer.2.1 31 = .ok (.iload_n 3, 1) := by decide +kernel
theorem d_MO_isAnswer_32 : decode m_MO_isAnswer.2.1 32 = .ok (.iconst 0, 1) := by decide +kernel
theorem d_MO_isAnswer_33 : decode m_MO_isAnswer.2.1 33 = .ok (.aload_n 0, 1) := by decide +kernel
theorem d_MO_isAnswer_34 : decode m_MO_isAnswer.2.1 34 = .ok (.getfield 147, 3) := by decide +kernel
theorem d_MO_isAnswer_37 : decode m_MO_isAnswer.2.1 37 = .ok (.iload_n 1, 1) := by decide +kernel
theorem d_MO_isAnswer_38 : decode m_MO_isAnswer.2.1 38 = .ok (.iaload, 1) := by decide +kernel
theorem d_MO_isAnswer_39 : decode m_MO_isAnswer.2.1 39 = .ok (.iconst 1, 1) := by decide +kernel
theorem d_MO_isAnswer_40 : decode m_MO_isAnswer.2.1 40 = .ok (.isub, 1) := by decide +kernel
theorem d_MO_isAnswer_41 : decode m_MO_isAnswer.2.1 41 = .ok (.invokestatic 190, 3) := by decide +kernel
theorem d_MO_isAnswer_44 : decode m_MO_isAnswer.2.1 44 = .ok (.ifCond .eq 7, 3) := by decide +kernel
theorem d_MO_isAnswer_47 : decode m_MO_isAnswer.2.1 47 = .ok (.iconst 1, 1) := by decide +kernel
theorem d_MO_isAnswer_48 : decode m_MO_isAnswer.2.1 48 = .ok (.goto 4, 3) := by decide +kernel
theorem d_MO_isAnswer_51 : decode m_MO_isAnswer.2.1 51 = .ok (.iconst 0, 1) := by decide +kernel
theorem d_MO_isAnswer_52 : decode m_MO_isAnswer.2.1 52 = .ok (.ireturn, 1) := by decide +kernel
theorem d_MO_isAsked_0 : decode m_MO_isAsked.2.1 0 = .ok (.aload_n 0, 1) := by decide +kernel
theorem d_MO_isAsked_1 : decode m_MO_isAsked.2.1 1 = .ok (.getfield 111, 3) := by decide +kernel
theorem d_MO_isAsked_4 : decode m_MO_isAsked.2.1 4 = .ok (.iload_n 1, 1) := by decide +kernel
theorem d_MO_isAsked_5 : decode m_MO_isAsked.2.1 5 = .ok (.iaload, 1) := by decide +kernel
theorem d_MO_isAsked_6 : decode m_MO_isAsked.2.1 6 = .ok (.istore_n 3, 1) := by decide +kernel
theorem d_MO_isAsked_7 : decode m_MO_isAsked.2.1 7 = .ok (.aload_n 0, 1) := by decide +kernel
theorem d_MO_isAsked_8 : decode m_MO_isAsked.2.1 8 = .ok (.getfield 117, 3) := by decide +kernel
theorem d_MO_isAsked_11 : decode m_MO_isAsked.2.1 11 = .ok (.iload_n 1, 1) := by decide +kernel
theorem d_MO_isAsked_12 : decode m_MO_isAsked.2.1 12 = .ok (.iaload, 1) := by decide +kernel
theorem d_MO_isAsked_13 : decode m_MO_isAsked.2.1 13 = .ok (.iconst (-1), 1) := by decide +kernel
theorem d_MO_isAsked_14 : decode m_MO_isAsked.2.1 14 = .ok (.if_icmp .eq 22, 3) := by decide +kernel
theorem d_MO_isAsked_17 : decode m_MO_isAsked.2.1 17 = .ok (.aload_n 0, 1) := by decide +kernel
theorem d_MO_isAsked_18 : decode m_MO_isAsked.2.1 18 = .ok (.iload_n 3, 1) := by decide +kernel
theorem d_MO_isAsked_19 : decode m_MO_isAsked.2.1 19 = .ok (.aload_n 0, 1) := by decide +kernel
theorem d_MO_isAsked_20 : decode m_MO_isAsked.2.1 20 = .ok (.getfield 117, 3) := by decide +kernel
theorem d_MO_isAsked_23 : decode m_MO_isAsked.2.1 23 = .ok (.iload_n 1, 1) := by decide +kernel
theorem d_MO_isAsked_24 : decode m_MO_isAsked.2.1 24 = .ok (.iaload, 1) := by decide +kernel
theorem d_MO_isAsked_25 : decode m_MO_isAsked.2.1 25 = .ok (.invokevirtual 342, 3) := by decide +kernel
theorem d_MO_isAsked_28 : decode m_MO_isAsked.2.1 28 = .ok (.iload_n 2, 1) := by decide +kernel
theorem d_MO_isAsked_29 : decode m_MO_isAsked.2.1 29 = .ok (.if_icmp .ne 7, 3) := by decide +kernel
theorem d_MO_isAsked_32 : decode m_MO_isAsked.2.1 32 = .ok (.iconst 1, 1) := by decide +kernel
theorem d_MO_isAsked_33 : decode m_MO_isAsked.2.1 33 = .ok (.goto 4, 3) := by decide +kernel
theorem d_MO_isAsked_36 : decode m_MO_isAsked.2.1 36 = .ok (.iconst 0, 1) := by decide +kernel
theorem d_MO_isAsked_37 : decode m_MO_isAsked.2.1 37 = .ok (.istore 4, 2) := by decide +kernel
theorem d_MO_isAsked_39 : decode m_MO_isAsked.2.1 39 = .ok (.aload_n 0, 1) := by decide +kernel
theorem d_MO_isAsked_40 : decode m_MO_isAsked.2.1 40 = .ok (.getfield 108, 3) := by decide +kernel
theorem d_MO_isAsked_43 : decode m_MO_isAsked.2.1 43 = .ok (.iload_n 1, 1) := by decide +kernel
theorem d_MO_isAsked_44 : decode m_MO_isAsked.2.1 44 = .ok (.iaload, 1) := by decide +kernel
theorem d_MO_isAsked_45 : decode m_MO_isAsked.2.1 45 = .ok (.ifCond .eq 65, 3) := by decide +kernel
theorem d_MO_isAsked_48 : decode m_MO_isAsked.2.1 48 = .ok (.aload_n 0, 1) := by decide +kernel
theorem d_MO_isAsked_49 : decode m_MO_isAsked.2.1 49 = .ok (.iload_n 3, 1) := by decide +kernel
theorem d_MO_isAsked_50 : decode m_MO_isAsked.2.1 50 = .ok (.aload_n 0, 1) := by decide +kernel
theorem d_MO_isAsked_51 : decode m_MO_isAsked.2.1 51 = .ok (.getfield 120, 3) := by decide +kernel
theorem d_MO_isAsked_54 : decode m_MO_isAsked.2.1 54 = .ok (.iload_n 1, 1) := by decide +kernel
theorem d_MO_isAsked_55 : decode m_MO_isAsked.2.1 55 = .ok (.iaload, 1) := by decide +kernel
theorem d_MO_isAsked_56 : decode m_MO_isAsked.2.1 56 = .ok (.invokevirtual 342, 3) := by decide +kernel
theorem d_MO_isAsked_59 : decode m_MO_isAsked.2.1 59 = .ok (.iload_n 2, 1) := by decide +kernel
theorem d_MO_isAsked_60 : decode m_MO_isAsked.2.1 60 = .ok (.if_icmp .eq 43, 3) := by decide +kernel
theorem d_MO_isAsked_63 : decode m_MO_isAsked.2.1 63 = .ok (.aload_n 0, 1) := by decide +kernel
theorem d_MO_isAsked_64 : decode m_MO_isAsked.2.1 64 = .ok (.iload_n 3, 1) := by decide +kernel
theorem d_MO_isAsked_65 : decode m_MO_isAsked.2.1 65 = .ok (.aload_n 0, 1) := by decide +kernel
theorem d_MO_isAsked_66 : decode m_MO_isAsked.2.1 66 = .ok (.getfield 126, 3) := by decide +kernel
theorem d_MO_isAsked_69 : decode m_MO_isAsked.2.1 69 = .ok (.iload_n 1, 1) := by decide +kernel
theorem d_MO_isAsked_70 : decode m_MO_isAsked.2.1 70 = .ok (.iaload, 1) := by decide +kernel
theorem d_MO_isAsked_71 : decode m_MO_isAsked.2.1 71 = .ok (.invokevirtual 342, 3) := by decide +kernel
theorem d_MO_isAsked_74 : decode m_MO_isAsked.2.1 74 = .ok (.iload_n 2, 1) := by decide +kernel
theorem d_MO_isAsked_75 : decode m_MO_isAsked.2.1 75 = .ok (.if_icmp .eq 28, 3) := by decide +kernel
theorem d_MO_isAsked_78 : decode m_MO_isAsked.2.1 78 = .ok (.aload_n 0, 1) := by decide +kernel
theorem d_MO_isAsked_79 : decode m_MO_isAsked.2.1 79 = .ok (.getfield 108, 3) := by decide +kernel
theorem d_MO_isAsked_82 : decode m_MO_isAsked.2.1 82 = .ok (.iload_n 1, 1) := by decide +kernel
theorem d_MO_isAsked_83 : decode m_MO_isAsked.2.1 83 = .ok (.iaload, 1) := by decide +kernel
theorem d_MO_isAsked_84 : decode m_MO_isAsked.2.1 84 = .ok (.iconst 2, 1) := by decide +kernel
theorem d_MO_isAsked_85 : decode m_MO_isAsked.2.1 85 = .ok (.if_icmp .ne 22, 3) := by decide +kernel
theorem d_MO_isAsked_88 : decode m_MO_isAsked.2.1 88 = .ok (.aload_n 0, 1) := by decide +kernel
theorem d_MO_isAsked_89 : decode m_MO_isAsked.2.1 89 = .ok (.iload_n 3, 1) := by decide +kernel
theorem d_MO_isAsked_90 : decode m_MO_isAsked.2.1 90 = .ok (.aload_n 0, 1) := by decide +kernel
theorem d_MO_isAsked_91 : decode m_MO_isAsked.2.1 91 = .ok (.getfield 123, 3) := by decide +kernel
theorem d_MO_isAsked_94 : decode m_MO_isAsked.2.1 94 = .ok (.iload_n 1, 1) := by decide +kernel
theorem d_MO_isAsked_95 : decode m_MO_isAsked.2.1 95 = .ok (.iaload, 1) := by decide +kernel
theorem d_MO_isAsked_96 : decode m_MO_isAsked.2.1 96 = .ok (.invokevirtual 342, 3) := by decide +kernel
theorem d_MO_isAsked_99 : decode m_MO_isAsked.2.1 99 = .ok (.iload_n 2, 1) := by decide +kernel
theorem d_MO_isAsked_100 : decode m_MO_isAsked.2.1 100 = .ok (.if_icmp .ne 7, 3) := by decide +kernel
theorem d_MO_isAsked_103 : decode m_MO_isAsked.2.1 103 = .ok (.iconst 1, 1) := by decide +kernel
theorem d_MO_isAsked_104 : decode m_MO_isAsked.2.1 104 = .ok (.goto 4, 3) := by decide +kernel
theorem d_MO_isAsked_107 : decode m_MO_isAsked.2.1 107 = .ok (.iconst 0, 1) := by decide +kernel
theorem d_MO_isAsked_108 : decode m_MO_isAsked.2.1 108 = .ok (.istore 4, 2) := by decide +kernel
theorem d_MO_isAsked_110 : decode m_MO_isAsked.2.1 110 = .ok (.iconst 0, 1) := by decide +kernel
theorem d_MO_isAsked_111 : decode m_MO_isAsked.2.1 111 = .ok (.istore 5, 2) := by decide +kernel
theorem d_MO_isAsked_113 : decode m_MO_isAsked.2.1 113 = .ok (.iload 5, 2) := by decide +kernel
theorem d_MO_isAsked_115 : decode m_MO_isAsked.2.1 115 = .ok (.aload_n 0, 1) := by decide +kernel
theorem d_MO_isAsked_116 : decode m_MO_isAsked.2.1 116 = .ok (.getfield 129, 3) := by decide +kernel
theorem d_MO_isAsked_119 : decode m_MO_isAsked.2.1 119 = .ok (.iload_n 1, 1) := by decide +kernel
theorem d_MO_isAsked_120 : decode m_MO_isAsked.2.1 120 = .ok (.iaload, 1) := by decide +kernel
theorem d_MO_isAsked_121 : decode m_MO_isAsked.2.1 121 = .ok (.if_icmp .ge 47, 3) := by decide +kernel
theorem d_MO_isAsked_124 : decode m_MO_isAsked.2.1 124 = .ok (.iload 4, 2) := by decide +kernel
theorem d_MO_isAsked_126 : decode m_MO_isAsked.2.1 126 = .ok (.ifCond .ne 29, 3) := by decide +kernel
theorem d_MO_isAsked_129 : decode m_MO_isAsked.2.1 129 = .ok (.aload_n 0, 1) := by decide +kernel
theorem d_MO_isAsked_130 : decode m_MO_isAsked.2.1 130 = .ok (.getfield 156, 3) := by decide +kernel
theorem d_MO_isAsked_133 : decode m_MO_isAsked.2.1 133 = .ok (.bipush 54, 2) := by decide +kernel
theorem d_MO_isAsked_135 : decode m_MO_isAsked.2.1 135 = .ok (.iload_n 1, 1) := by decide +kernel
theorem d_MO_isAsked_136 : decode m_MO_isAsked.2.1 136 = .ok (.imul, 1) := by decide +kernel
theorem d_MO_isAsked_137 : decode m_MO_isAsked.2.1 137 = .ok (.aload_n 0, 1) := by decide +kernel
theorem d_MO_isAsked_138 : decode m_MO_isAsked.2.1 138 = .ok (.getfield 135, 3) := by decide +kernel
theorem d_MO_isAsked_141 : decode m_MO_isAsked.2.1 141 = .ok (.bipush 6, 2) := by decide +kernel
theorem d_MO_isAsked_143 : decode m_MO_isAsked.2.1 143 = .ok (.iload_n 1, 1) := by decide +kernel
theorem d_MO_isAsked_144 : decode m_MO_isAsked.2.1 144 = .ok (.imul, 1) := by decide +kernel
theorem d_MO_isAsked_145 : decode m_MO_isAsked.2.1 145 = .ok (.iload 5, 2) := by decide +kernel
theorem d_MO_isAsked_147 : decode m_MO_isAsked.2.1 147 = .ok (.iadd, 1) := by decide +kernel
theorem d_MO_isAsked_148 : decode m_MO_isAsked.2.1 148 = .ok (.iaload, 1) := by decide +kernel
theorem d_MO_isAsked_149 : decode m_MO_isAsked.2.1 149 = .ok (.iadd, 1) := by decide +kernel
theorem d_MO_isAsked_150 : decode m_MO_isAsked.2.1 150 = .ok (.iaload, 1) := by decide +kernel
theorem d_MO_isAsked_151 : decode m_MO_isAsked.2.1 151 = .ok (.iload_n 2, 1) := by decide +kernel
theorem d_MO_isAsked_152 : decode m_MO_isAsked.2.1 152 = .ok (.if_icmp .ne 7, 3) := by decide +kernel
theorem d_MO_isAsked_155 : decode m_MO_isAsked.2.1 155 = .ok (.iconst 1, 1) := by decide +kernel
theorem d_MO_isAsked_156 : decode m_MO_isAsked.2.1 156 = .ok (.goto 4, 3) := by decide +kernel
theorem d_MO_isAsked_159 : decode m_MO_isAsked.2.1 159 = .ok (.iconst 0, 1) := by decide +kernel
theorem d_MO_isAsked_160 : decode m_MO_isAsked.2.1 160 = .ok (.istore 4, 2) := by decide +kernel
theorem d_MO_isAsked_162 : decode m_MO_isAsked.2.1 162 = .ok (.iinc 5 1, 3) := by decide +kernel
theorem d_MO_isAsked_165 : decode m_MO_isAsked.2.1 165 = .ok (.goto (-52), 3) := by decide +kernel
theorem d_MO_isAsked_168 : decode m_MO_isAsked.2.1 168 = .ok (.iload 4, 2) := by decide +kernel
theorem d_MO_isAsked_170 : decode m_MO_isAsked.2.1 170 = .ok (.ireturn, 1) := by decide +kernel
theorem d_MO_isBroken_0 : decode m_MO_isBroken.2.1 0 = .ok (.bipush 6, 2) := by decide +kernel
theorem d_MO_isBroken_2 : decode m_MO_isBroken.2.1 2 = .ok (.iload_n 1, 1) := by decide +kernel
theorem d_MO_isBroken_3 : decode m_MO_isBroken.2.1 3 = .ok (.imul, 1) := by decide +kernel
theorem d_MO_isBroken_4 : decode m_MO_isBroken.2.1 4 = .ok (.iload_n 3, 1) := by decide +kernel
theorem d_MO_isBroken_5 : decode m_MO_isBroken.2.1 5 = .ok (.iadd, 1) := by decide +kernel
theorem d_MO_isBroken_6 : decode m_MO_isBroken.2.1 6 = .ok (.istore 5, 2) := by decide +kernel
theorem d_MO_isBroken_8 : decode m_MO_isBroken.2.1 8 = .ok (.aload_n 0, 1) := by decide +kernel
theorem d_MO_isBroken_9 : decode m_MO_isBroken.2.1 9 = .ok (.getfield 77, 3) := by decide +kernel
theorem d_MO_isBroken_12 : decode m_MO_isBroken.2.1 12 = .ok (.iload_n 1, 1) := by decide +kernel
theorem d_MO_isBroken_13 : decode m_MO_isBroken.2.1 13 = .ok (.iload_n 2, 1) := by decide +kernel
theorem d_MO_isBroken_14 : decode m_MO_isBroken.2.1 14 = .ok (.iload_n 3, 1) := by decide +kernel
theorem d_MO_isBroken_15 : decode m_MO_isBroken.2.1 15 = .ok (.invokestatic 225, 3) := by decide +kernel
theorem d_MO_isBroken_18 : decode m_MO_isBroken.2.1 18 = .ok (.iaload, 1) := by decide +kernel
theorem d_MO_isBroken_19 : decode m_MO_isBroken.2.1 19 = .ok (.istore 6, 2) := by decide +kernel
theorem d_MO_isBroken_21 : decode m_MO_isBroken.2.1 21 = .ok (.iload 4, 2) := by decide +kernel
theorem d_MO_isBroken_23 : decode m_MO_isBroken.2.1 23 = .ok (.iconst 2, 1) := by decide +kernel
theorem d_MO_isBroken_24 : decode m_MO_isBroken.2.1 24 = .ok (.if_icmp .ne 35, 3) := by decide +kernel
theorem d_MO_isBroken_27 : decode m_MO_isBroken.2.1 27 = .ok (.aload_n 0, 1) := by decide +kernel
theorem d_MO_isBroken_28 : decode m_MO_isBroken.2.1 28 = .ok (.getfield 40, 3) := by decide +kernel
theorem d_MO_isBroken_31 : decode m_MO_isBroken.2.1 31 = .ok (.iload 5, 2) := by decide +kernel
theorem d_MO_isBroken_33 : decode m_MO_isBroken.2.1 33 = .ok (.baload, 1) := by decide +kernel
theorem d_MO_isBroken_34 : decode m_MO_isBroken.2.1 34 = .ok (.ifCond .eq 23, 3) := by decide +kernel
theorem d_MO_isBroken_37 : decode m_MO_isBroken.2.1 37 = .ok (.aload_n 0, 1) := by decide +kernel
theorem d_MO_isBroken_38 : decode m_MO_isBroken.2.1 38 = .ok (.iload 5, 2) := by decide +kernel
theorem d_MO_isBroken_40 : decode m_MO_isBroken.2.1 40 = .ok (.invokevirtual 251, 3) := by decide +kernel
theorem d_MO_isBroken_43 : decode m_MO_isBroken.2.1 43 = .ok (.ifCond .eq 14, 3) := by decide +kernel
theorem d_MO_isBroken_46 : decode m_MO_isBroken.2.1 46 = .ok (.iload 6, 2) := by decide +kernel
theorem d_MO_isBroken_48 : decode m_MO_isBroken.2.1 48 = .ok (.ldc 186, 2) := by decide +kernel
theorem d_MO_isBroken_50 : decode m_MO_isBroken.2.1 50 = .ok (.if_icmp .ne 7, 3) := by decide +kernel
theorem d_MO_isBroken_53 : decode m_MO_isBroken.2.1 53 = .ok (.iconst 1, 1) := by decide +kernel
theorem d_MO_isBroken_54 : decode m_MO_isBroken.2.1 54 = .ok (.goto 4, 3) := by decide +kernel
theorem d_MO_isBroken_57 : decode m_MO_isBroken.2.1 57 = .ok (.iconst 0, 1) := by decide +kernel
theorem d_MO_isBroken_58 : decode m_MO_isBroken.2.1 58 = .ok (.ireturn, 1) := by decide +kernel
theorem d_MO_isBroken_59 : decode m_MO_isBroken.2.1 59 = .ok (.iload 6, 2) := by decide +kernel
theorem d_MO_isBroken_61 : decode m_MO_isBroken.2.1 61 = .ok (.ldc 186, 2) := by decide +kernel
theorem d_MO_isBroken_63 : decode m_MO_isBroken.2.1 63 = .ok (.if_icmp .eq 12, 3) := by decide +kernel
theorem d_MO_isBroken_66 : decode m_MO_isBroken.2.1 66 = .ok (.aload_n 0, 1) := by decide +kernel
theorem d_MO_isBroken_67 : decode m_MO_isBroken.2.1 67 = .ok (.iload 5, 2) := by decide +kernel
theorem d_MO_isBroken_69 : decode m_MO_isBroken.2.1 69 = .ok (.invokevirtual 251, 3) := by decide +kernel
theorem d_MO_isBroken_72 : decode m_MO_isBroken.2.1 72 = .ok (.ifCond .ne 5, 3) := by decide +kernel
theorem d_MO_isBroken_75 : decode m_MO_isBroken.2.1 75 = .ok (.iconst 0, 1) := by decide +kernel
theorem d_MO_isBroken_76 : decode m_MO_isBroken.2.1 76 = .ok (.ireturn, 1) := by decide +kernel
theorem d_MO_isBroken_77 : decode m_MO_isBroken.2.1 77 = .ok (.iload 4, 2) := by decide +kernel
theorem d_MO_isBroken_79 : decode m_MO_isBroken.2.1 79 = .ok (.iconst 3, 1) := by decide +kernel
theorem d_MO_isBroken_80 : decode m_MO_isBroken.2.1 80 = .ok (.if_icmp .ne 29, 3) := by decide +kernel
theorem d_MO_isBroken_83 : decode m_MO_isBroken.2.1 83 = .ok (.aload_n 0, 1) := by decide +kernel
theorem d_MO_isBroken_84 : decode m_MO_isBroken.2.1 84 = .ok (.getfield 44, 3) := by decide +kernel
theorem d_MO_isBroken_87 : decode m_MO_isBroken.2.1 87 = .ok (.iload 5, 2) := by decide +kernel
theorem d_MO_isBroken_89 : decode m_MO_isBroken.2.1 89 = .ok (.baload, 1) := by decide +kernel
theorem d_MO_isBroken_90 : decode m_MO_isBroken.2.1 90 = .ok (.ifCond .eq 17, 3) := by decide +kernel
theorem d_MO_isBroken_93 : decode m_MO_isBroken.2.1 93 = .ok (.aload_n 0, 1) := by decide +kernel
theorem d_MO_isBroken_94 : decode m_MO_isBroken.2.1 94 = .ok (.iload_n 1, 1) := by decide +kernel
theorem d_MO_isBroken_95 : decode m_MO_isBroken.2.1 95 = .ok (.iload_n 2, 1) := by decide +kernel
theorem d_MO_isBroken_96 : decode m_MO_isBroken.2.1 96 = .ok (.iload_n 3, 1) := by decide +kernel
theorem d_MO_isBroken_97 : decode m_MO_isBroken.2.1 97 = .ok (.invokevirtual 254, 3) := by decide +kernel
theorem d_MO_isBroken_100 : decode m_MO_isBroken.2.1 100 = .ok (.ifCond .eq 7, 3) := by decide +kernel
theorem d_MO_isBroken_103 : decode m_MO_isBroken.2.1 103 = .ok (.iconst 1, 1) := by decide +kernel
theorem d_MO_isBroken_104 : decode m_MO_isBroken.2.1 104 = .ok (.goto 4, 3) := by decide +kernel
theorem d_MO_isBroken_107 : decode m_MO_isBroken.2.1 107 = .ok (.iconst 0, 1) := by decide +kernel
theorem d_MO_isBroken_108 : decode m_MO_isBroken.2.1 108 = .ok (.ireturn, 1) := by decide +kernel
theorem d_MO_isBroken_109 : decode m_MO_isBroken.2.1 109 = .ok (.iload 4, 2) := by decide +kernel
theorem d_MO_isBroken_111 : decode m_MO_isBroken.2.1 111 = .ok (.iconst 1, 1) := by decide +kernel
theorem d_MO_isBroken_112 : decode m_MO_isBroken.2.1 112 = .ok (.if_icmp .ne 43, 3) := by decide +kernel
theorem d_MO_isBroken_115 : decode m_MO_isBroken.2.1 115 = .ok (.aload_n 0, 1) := by decide +kernel
theorem d_MO_isBroken_116 : decode m_MO_isBroken.2.1 116 = .ok (.getfield 13, 3) := by decide +kernel
theorem d_MO_isBroken_119 : decode m_MO_isBroken.2.1 119 = .ok (.iload 5, 2) := by decide +kernel
theorem d_MO_isBroken_121 : decode m_MO_isBroken.2.1 121 = .ok (.iaload, 1) := by decide +kernel
theorem d_MO_isBroken_122 : decode m_MO_isBroken.2.1 122 = .ok (.ifCond .ne 29, 3) := by decide +kernel
theorem d_MO_isBroken_125 : decode m_MO_isBroken.2.1 125 = .ok (.iload 6, 2) := by decide +kernel
theorem d_MO_isBroken_127 : decode m_MO_isBroken.2.1 127 = .ok (.aload_n 0, 1) := by decide +kernel
theorem d_MO_isBroken_128 : decode m_MO_isBroken.2.1 128 = .ok (.getfield 16, 3) := by decide +kernel
theorem d_MO_isBroken_131 : decode m_MO_isBroken.2.1 131 = .ok (.iload 5, 2) := by decide +kernel
theorem d_MO_isBroken_133 : decode m_MO_isBroken.2.1 133 = .ok (.iaload, 1) := by decide +kernel
theorem d_MO_isBroken_134 : decode m_MO_isBroken.2.1 134 = .ok (.aload_n 0, 1) := by decide +kernel
theorem d_MO_isBroken_135 : decode m_MO_isBroken.2.1 135 = .ok (.getfield 19, 3) := by decide +kernel
theorem d_MO_isBroken_138 : decode m_MO_isBroken.2.1 138 = .ok (.iload 5, 2) := by decide +kernel
theorem d_MO_isBroken_140 : decode m_MO_isBroken.2.1 140 = .ok (.iaload, 1) := by decide +kernel
theorem d_MO_isBroken_141 : decode m_MO_isBroken.2.1 141 = .ok (.invokestatic 190, 3) := by decide +kernel
theorem d_MO_isBroken_144 : decode m_MO_isBroken.2.1 144 = .ok (.ifCond .ne 7, 3) := by decide +kernel
theorem d_MO_isBroken_147 : decode m_MO_isBroken.2.1 147 = .ok (.iconst 1, 1) := by decide +kernel
theorem d_MO_isBroken_148 : decode m_MO_isBroken.2.1 148 = .ok (.goto 39, 3) := by decide +kernel
theorem d_MO_isBroken_151 : decode m_MO_isBroken.2.1 151 = .ok (.iconst 0, 1) := by decide +kernel
theorem d_MO_isBroken_152 : decode m_MO_isBroken.2.1 152 = .ok (.goto 35, 3) := by decide +kernel
theorem d_MO_isBroken_155 : decode m_MO_isBroken.2.1 155 = .ok (.aload_n 0, 1) := by decide +kernel
theorem d_MO_isBroken_156 : decode m_MO_isBroken.2.1 156 = .ok (.getfield 13, 3) := by decide +kernel
theorem d_MO_isBroken_159 : decode m_MO_isBroken.2.1 159 = .ok (.iload 5, 2) := by decide +kernel
theorem d_MO_isBroken_161 : decode m_MO_isBroken.2.1 161 = .ok (.iaload, 1) := by decide +kernel
theorem d_MO_isBroken_162 : decode m_MO_isBroken.2.1 162 = .ok (.iconst 1, 1) := by decide +kernel
theorem d_MO_isBroken_163 : decode m_MO_isBroken.2.1 163 = .ok (.if_icmp .ne 23, 3) := by decide +kernel
theorem d_MO_isBroken_166 : decode m_MO_isBroken.2.1 166 = .ok (.aload_n 0, 1) := by decide +kernel
theorem d_MO_isBroken_167 : decode m_MO_isBroken.2.1 167 = .ok (.aload_n 0, 1) := by decide +kernel
theorem d_MO_isBroken_168 : decode m_MO_isBroken.2.1 168 = .ok (.getfield 22, 3) := by decide +kernel
theorem d_MO_isBroken_171 : decode m_MO_isBroken.2.1 171 = .ok (.iload 5, 2) := by decide +kernel
theorem d_MO_isBroken_173 : decode m_MO_isBroken.2.1 173 = .ok (.iaload, 1) := by decide +kernel
theorem d_MO_isBroken_174 : decode m_MO_isBroken.2.1 174 = .ok (.iload 6, 2) := by decide +kernel
theorem d_MO_isBroken_176 : decode m_MO_isBroken.2.1 176 = .ok (.invokevirtual 233, 3) := by decide +kernel
theorem d_MO_isBroken_179 : decode m_MO_isBroken.2.1 179 = .ok (.ifCond .ne 7, 3) := by decide +kernel
theorem d_MO_isBroken_182 : decode m_MO_isBroken.2.1 182 = .ok (.iconst 1, 1) := by decide +kernel
theorem d_MO_isBroken_183 : decode m_MO_isBroken.2.1 183 = .ok (.goto 4, 3) := by decide +kernel
theorem d_MO_isBroken_186 : decode m_MO_isBroken.2.1 186 = .ok (.iconst 0, 1) := by decide +kernel
theorem d_MO_isBroken_187 : decode m_MO_isBroken.2.1 187 = .ok (.ireturn, 1) := by decide +kernel
theorem d_MO_isChanged_0 : decode m_MO_isChanged.2.1 0 = .ok (.aload_n 0, 1) := by decide +kernel
theorem d_MO_isChanged_1 : decode m_MO_isChanged.2.1 1 = .ok (.iload_n 1, 1) := by decide +kernel
theorem d_MO_isChanged_2 : decode m_MO_isChanged.2.1 2 = .ok (.ifCond .eq 7, 3) := by decide +kernel
theorem d_MO_isChanged_5 : decode m_MO_isChanged.2.1 5 = .ok (.iconst 0, 1) := by decide +kernel
theorem d_MO_isChanged_6 : decode m_MO_isChanged.2.1 6 = .ok (.goto 7, 3) := by decide +kernel
theorem d_MO_isChanged_9 : decode m_MO_isChanged.2.1 9 = .ok (.aload_n 0, 1) := by decide +kernel
theorem d_MO_isChanged_10 : decode m_MO_isChanged.2.1 10 = .ok (.getfield 289, 3) := by decide +kernel
theorem d_MO_isChanged_13 : decode m_MO_isChanged.2.1 13 = .ok (.putfield 289, 3) := by decide +kernel
theorem d_MO_isChanged_16 : decode m_MO_isChanged.2.1 16 = .ok (.iload_n 1, 1) := by decide +kernel
theorem d_MO_isChanged_17 : decode m_MO_isChanged.2.1 17 = .ok (.ireturn, 1) := by decide +kernel
theorem d_MO_isColumn_0 : decode m_MO_isColumn.2.1 0 = .ok (.aload_n 0, 1) := by decide +kernel
theorem d_MO_isColumn_1 : decode m_MO_isColumn.2.1 1 = .ok (.iload_n 1, 1) := by decide +kernel
theorem d_MO_isColumn_2 : decode m_MO_isColumn.2.1 2 = .ok (.invokevirtual 201, 3) := by decide +kernel
theorem d_MO_isColumn_5 : decode m_MO_isColumn.2.1 5 = .ok (.ifCond .eq 23, 3) := by decide +kernel
theorem d_MO_isColumn_8 : decode m_MO_isColumn.2.1 8 = .ok (.iload_n 2, 1) := by decide +kernel
theorem d_MO_isColumn_9 : decode m_MO_isColumn.2.1 9 = .ok (.iconst 0, 1) := by decide +kernel
theorem d_MO_isColumn_10 : decode m_MO_isColumn.2.1 10 = .ok (.aload_n 0, 1) := by decide +kernel
theorem d_MO_isColumn_11 : decode m_MO_isColumn.2.1 11 = .ok (.getfield 7, 3) := by decide +kernel
theorem d_MO_isColumn_14 : decode m_MO_isColumn.2.1 14 = .ok (.iload_n 1, 1) := by decide +kernel
theorem d_MO_isColumn_15 : decode m_MO_isColumn.2.1 15 = .ok (.iaload, 1) := by decide +kernel
theorem d_MO_isColumn_16 : decode m_MO_isColumn.2.1 16 = .ok (.iconst 1, 1) := by decide +kernel
theorem d_MO_isColumn_17 : decode m_MO_isColumn.2.1 17 = .ok (.isub, 1) := by decide +kernel
theorem d_MO_isColumn_18 : decode m_MO_isColumn.2.1 18 = .ok (.invokestatic 190, 3) := by decide +kernel
theorem d_MO_isColumn_21 : decode m_MO_isColumn.2.1 21 = .ok (.ifCond .eq 7, 3) := by decide +kernel
theorem d_MO_isColumn_24 : decode m_MO_isColumn.2.1 24 = .ok (.iconst 1, 1) := by decide +kernel
theorem d_MO_isColumn_25 : decode m_MO_isColumn.2.1 25 = .ok (.goto 4, 3) := by decide +kernel
theorem d_MO_isColumn_28 : decode m_MO_isColumn.2.1 28 = .ok (.iconst 0, 1) := by decide +kernel
theorem d_MO_isColumn_29 : decode m_MO_isColumn.2.1 29 = .ok (.ireturn, 1) := by decide +kernel
theorem d_MO_isCross_0 : decode m_MO_isCross.2.1 0 = .ok (.aload_n 0, 1) := by decide +kernel
theorem d_MO_isCross_1 : decode m_MO_isCross.2.1 1 = .ok (.iload_n 1, 1) := by decide +kernel
theorem d_MO_isCross_2 : decode m_MO_isCross.2.1 2 = .ok (.bipush 10, 2) := by decide +kernel
theorem d_MO_isCross_4 : decode m_MO_isCross.2.1 4 = .ok (.isub, 1) := by decide +kernel
theorem d_MO_isCross_5 : decode m_MO_isCross.2.1 5 = .ok (.invokevirtual 426, 3) := by decide +kernel
theorem d_MO_isCross_8 : decode m_MO_isCross.2.1 8 = .ok (.ifCond .eq 20, 3) := by decide +kernel
theorem d_MO_isCross_11 : decode m_MO_isCross.2.1 11 = .ok (.aload_n 0, 1) := by decide +kernel
theorem d_MO_isCross_12 : decode m_MO_isCross.2.1 12 = .ok (.getfield 108, 3) := by decide +kernel
theorem d_MO_isCross_15 : decode m_MO_isCross.2.1 15 = .ok (.iload_n 1, 1) := by decide +kernel
theorem d_MO_isCross_16 : decode m_MO_isCross.2.1 16 = .ok (.bipush 10, 2) := by decide +kernel
theorem d_MO_isCross_18 : decode m_MO_isCross.2.1 18 = .ok (.isub, 1) := by decide +kernel
theorem d_MO_isCross_19 : decode m_MO_isCross.2.1 19 = .ok (.iaload, 1) := by decide +kernel
theorem d_MO_isCross_20 : decode m_MO_isCross.2.1 20 = .ok (.iconst 2, 1) := by decide +kernel
theorem d_MO_isCross_21 : decode m_MO_isCross.2.1 21 = .ok (.if_icmp .ne 7, 3) := by decide +kernel
theorem d_MO_isCross_24 : decode m_MO_isCross.2.1 24 = .ok (.iconst 1, 1) := by decide +kernel
theorem d_MO_isCross_25 : decode m_MO_isCross.2.1 25 = .ok (.goto 4, 3) := by decide +kernel
theorem d_MO_isCross_28 : decode m_MO_isCross.2.1 28 = .ok (.iconst 0, 1) := by decide +kernel
theorem d_MO_isCross_29 : decode m_MO_isCross.2.1 29 = .ok (.ireturn, 1) := by decide +kernel
theorem d_MO_isForbidden_0 : decode m_MO_isForbidden.2.1 0 = .ok (.iconst 0, 1) := by decide +kernel
theorem d_MO_isForbidden_1 : decode m_MO_isForbidden.2.1 1 = .ok (.istore_n 1, 1) := by decide +kernel
theorem d_MO_isForbidden_2 : decode m_MO_isForbidden.2.1 2 = .ok (.iload_n 1, 1) := by decide +kernel
theorem d_MO_isForbidden_3 : decode m_MO_isForbidden.2.1 3 = .ok (.sipush 720, 3) := by decide +kernel
theorem d_MO_isForbidden_6 : decode m_MO_isForbidden.2.1 6 = .ok (.if_icmp .ge 62, 3) := by decide +kernel
theorem d_MO_isForbidden_9 : decode m_MO_isForbidden.2.1 9 = .ok (.aload_n 0, 1) := by decide +kernel
theorem d_MO_isForbidden_10 : decode m_MO_isForbidden.2.1 10 = .ok (.getfield 87, 3) := by decide +kernel
theorem d_MO_isForbidden_13 : decode m_MO_isForbidden.2.1 13 = .ok (.iload_n 1, 1) := by decide +kernel
theorem d_MO_isForbidden_14 : decode m_MO_isForbidden.2.1 14 = .ok (.bipush 6, 2) := by decide +kernel
theorem d_MO_isForbidden_16 : decode m_MO_isForbidden.2.1 16 = .ok (.idiv, 1) := by decide +kernel
theorem d_MO_isForbidden_17 : decode m_MO_isForbidden.2.1 17 = .ok (.baload, 1) := by decide +kernel
theorem d_MO_isForbidden_18 : decode m_MO_isForbidden.2.1 18 = .ok (.ifCond .ne 44, 3) := by decide +kernel
theorem d_MO_isForbidden_21 : decode m_MO_isForbidden.2.1 21 = .ok (.aload_n 0, 1) := by decide +kernel
theorem d_MO_isForbidden_22 : decode m_MO_isForbidden.2.1 22 = .ok (.iload_n 1, 1) := by decide +kernel
theorem d_MO_isForbidden_23 : decode m_MO_isForbidden.2.1 23 = .ok (.bipush 6, 2) := by decide +kernel
theorem d_MO_isForbidden_25 : decode m_MO_isForbidden.2.1 25 = .ok (.idiv, 1) := by decide +kernel
theorem d_MO_isForbidden_26 : decode m_MO_isForbidden.2.1 26 = .ok (.iload_n 1, 1) := by decide +kernel
theorem d_MO_isForbidden_27 : decode m_MO_isForbidden.2.1 27 = .ok (.bipush 6, 2) := by decide +kernel
theorem d_MO_isForbidden_29 : decode m_MO_isForbidden.2.1 29 = .ok (.irem, 1) := by decide +kernel
theorem d_MO_isForbidden_30 : decode m_MO_isForbidden.2.1 30 = .ok (.iconst 0, 1) := by decide +kernel
theorem d_MO_isForbidden_31 : decode m_MO_isForbidden.2.1 31 = .ok (.invokevirtual 373, 3) := by decide +kernel
theorem d_MO_isForbidden_34 : decode m_MO_isForbidden.2.1 34 = .ok (.ifCond .eq 28, 3) := by decide +kernel
theorem d_MO_isForbidden_37 : decode m_MO_isForbidden.2.1 37 = .ok (.aload_n 0, 1) := by decide +kernel
theorem d_MO_isForbidden_38 : decode m_MO_isForbidden.2.1 38 = .ok (.bipush 6, 2) := by decide +kernel
theorem d_MO_isForbidden_40 : decode m_MO_isForbidden.2.1 40 = .ok (.iload_n 1, 1) := by decide +kernel
theorem d_MO_isForbidden_41 : decode m_MO_isForbidden.2.1 41 = .ok (.sipush 180, 3) := by decide +kernel
theorem d_MO_isForbidden_44 : decode m_MO_isForbidden.2.1 44 = .ok (.idiv, 1) := by decide +kernel
theorem d_MO_isForbidden_45 : decode m_MO_isForbidden.2.1 45 = .ok (.iload_n 1, 1) := by decide +kernel
theorem d_MO_isForbidden_46 : decode m_MO_isForbidden.2.1 46 = .ok (.bipush 6, 2) := by decide +kernel
theorem d_MO_isForbidden_48 : decode m_MO_isForbidden.2.1 48 = .ok (.idiv, 1) := by decide +kernel
theorem d_MO_isForbidden_49 : decode m_MO_isForbidden.2.1 49 = .ok (.bipush 30, 2) := by decide +kernel
theorem d_MO_isForbidden_51 : decode m_MO_isForbidden.2.1 51 = .ok (.irem, 1) := by decide +kernel
theorem d_MO_isForbidden_52 : decode m_MO_isForbidden.2.1 52 = .ok (.iload_n 1, 1) := by decide +kernel
theorem d_MO_isForbidden_53 : decode m_MO_isForbidden.2.1 53 = .ok (.bipush 6, 2) := by decide +kernel
theorem d_MO_isForbidden_55 : decode m_MO_isForbidden.2.1 55 = .ok (.irem, 1) := by decide +kernel
theorem d_MO_isForbidden_56 : decode m_MO_isForbidden.2.1 56 = .ok (.invokevirtual 261, 3) := by decide +kernel
theorem d_MO_isForbidden_59 : decode m_MO_isForbidden.2.1 59 = .ok (.pop, 1) := by decide +kernel
theorem d_MO_isForbidden_60 : decode m_MO_isForbidden.2.1 60 = .ok (.iconst 1, 1) := by decide +kernel
theorem d_MO_isForbidden_61 : decode m_MO_isForbidden.2.1 61 = .ok (.ireturn, 1) := by decide +kernel
theorem d_MO_isForbidden_62 : decode m_MO_isForbidden.2.1 62 = .ok (.iinc 1 1, 3) := by decide +kernel
theorem d_MO_isForbidden_65 : decode m_MO_isForbidden.2.1 65 = .ok (.goto (-63), 3) := by decide +kernel
theorem d_MO_isForbidden_68 : decode m_MO_isForbidden.2.1 68 = .ok (.iconst 0, 1) := by decide +kernel
theorem d_MO_isForbidden_69 : decode m_MO_isForbidden.2.1 69 = .ok (.ireturn, 1) := by decide +kernel
theorem d_MO_isKept_0 : decode m_MO_isKept.2.1 0 = .ok (.aload_n 0, 1) := by decide +kernel
theorem d_MO_isKept_1 : decode m_MO_isKept.2.1 1 = .ok (.invokevirtual 282, 3) := by decide +kernel
theorem d_MO_isKept_4 : decode m_MO_isKept.2.1 4 = .ok (.ifCond .ne 11, 3) := by decide +kernel
theorem d_MO_isKept_7 : decode m_MO_isKept.2.1 7 = .ok (.aload_n 0, 1) := by decide +kernel
theorem d_MO_isKept_8 : decode m_MO_isKept.2.1 8 = .ok (.bipush 6, 2) := by decide +kernel
theorem d_MO_isKept_10 : decode m_MO_isKept.2.1 10 = .ok (.invokevirtual 285, 3) := by decide +kernel
theorem d_MO_isKept_13 : decode m_MO_isKept.2.1 13 = .ok (.iconst 0, 1) := by decide +kernel
theorem d_MO_isKept_14 : decode m_MO_isKept.2.1 14 = .ok (.ireturn, 1) := by decide +kernel
theorem d_MO_isKept_15 : decode m_MO_isKept.2.1 15 = .ok (.iconst 1, 1) := by decide +kernel
theorem d_MO_isKept_16 : decode m_MO_isKept.2.1 16 = .ok (.ireturn, 1) := by decide +kernel
theorem d_MO_isLinkOf_0 : decode m_MO_isLinkOf.2.1 0 = .ok (.aload_n 0, 1) := by decide +kernel
theorem d_MO_isLinkOf_1 : decode m_MO_isLinkOf.2.1 1 = .ok (.iload_n 1, 1) := by decide +kernel
theorem d_MO_isLinkOf_2 : decode m_MO_isLinkOf.2.1 2 = .ok (.iload_n 2, 1) := by decide +kernel
theorem d_MO_isLinkOf_3 : decode m_MO_isLinkOf.2.1 3 = .ok (.invokevirtual 342, 3) := by decide +kernel
theorem d_MO_isLinkOf_6 : decode m_MO_isLinkOf.2.1 6 = .ok (.istore_n 3, 1) := by decide +kernel
theorem d_MO_isLinkOf_7 : decode m_MO_isLinkOf.2.1 7 = .ok (.iload_n 3, 1) := by decide +kernel
theorem d_MO_isLinkOf_8 : decode m_MO_isLinkOf.2.1 8 = .ok (.iconst (-1), 1) := by decide +kernel
theorem d_MO_isLinkOf_9 : decode m_MO_isLinkOf.2.1 9 = .ok (.if_icmp .eq 17, 3) := by decide +kernel
theorem d_MO_isLinkOf_12 : decode m_MO_isLinkOf.2.1 12 = .ok (.aload_n 0, 1) := by decide +kernel
theorem d_MO_isLinkOf_13 : decode m_MO_isLinkOf.2.1 13 = .ok (.getfield 13, 3) := by decide +kernel
theorem d_MO_isLinkOf_16 : decode m_MO_isLinkOf.2.1 16 = .ok (.iload_n 3, 1) := by decide +kernel
theorem d_MO_isLinkOf_17 : decode m_MO_isLinkOf.2.1 17 = .ok (.iaload, 1) := by decide +kernel
theorem d_MO_isLinkOf_18 : decode m_MO_isLinkOf.2.1 18 = .ok (.iconst 1, 1) := by decide +kernel
theorem d_MO_isLinkOf_19 : decode m_MO_isLinkOf.2.1 19 = .ok (.if_icmp .ne 7, 3) := by decide +kernel
theorem d_MO_isLinkOf_22 : decode m_MO_isLinkOf.2.1 22 = .ok (.iconst 1, 1) := by decide +kernel
theorem d_MO_isLinkOf_23 : decode m_MO_isLinkOf.2.1 23 = .ok (.goto 4, 3) := by decide +kernel
theorem d_MO_isLinkOf_26 : decode m_MO_isLinkOf.2.1 26 = .ok (.iconst 0, 1) := by decide +kernel
theorem d_MO_isLinkOf_27 : decode m_MO_isLinkOf.2.1 27 = .ok (.ireturn, 1) := by decide +kernel
theorem d_MO_isNumber_0 : decode m_MO_isNumber.2.1 0 = .ok (.iload_n 0, 1) := by decide +kernel
theorem d_MO_isNumber_1 : decode m_MO_isNumber.2.1 1 = .ok (.ldc 186, 2) := by decide +kernel
theorem d_MO_isNumber_3 : decode m_MO_isNumber.2.1 3 = .ok (.if_icmp .eq 16, 3) := by decide +kernel
theorem d_MO_isNumber_6 : decode m_MO_isNumber.2.1 6 = .ok (.iload_n 0, 1) := by decide +kernel
theorem d_MO_isNumber_7 : decode m_MO_isNumber.2.1 7 = .ok (.sipush (-9999), 3) := by decide +kernel
theorem d_MO_isNumber_10 : decode m_MO_isNumber.2.1 10 = .ok (.sipush 9999, 3) := by decide +kernel
theorem d_MO_isNumber_13 : decode m_MO_isNumber.2.1 13 = .ok (.invokestatic 190, 3) := by decide +kernel
theorem d_MO_isNumber_16 : decode m_MO_isNumber.2.1 16 = .ok (.ifCond .eq 7, 3) := by decide +kernel
theorem d_MO_isNumber_19 : decode m_MO_isNumber.2.1 19 = .ok (.iconst 1, 1) := by decide +kernel
theorem d_MO_isNumber_20 : decode m_MO_isNumber.2.1 20 = .ok (.goto 4, 3) := by decide +kernel
theorem d_MO_isNumber_23 : decode m_MO_isNumber.2.1 23 = .ok (.iconst 0, 1) := by decide +kernel
theorem d_MO_isNumber_24 : decode m_MO_isNumber.2.1 24 = .ok (.ireturn, 1) := by decide +kernel
theorem d_MO_isQuestion_0 : decode m_MO_isQuestion.2.1 0 = .ok (.iload_n 1, 1) := by decide +kernel
theorem d_MO_isQuestion_1 : decode m_MO_isQuestion.2.1 1 = .ok (.iconst 0, 1) := by decide +kernel
theorem d_MO_isQuestion_2 : decode m_MO_isQuestion.2.1 2 = .ok (.aload_n 0, 1) := by decide +kernel
theorem d_MO_isQuestion_3 : decode m_MO_isQuestion.2.1 3 = .ok (.getfield 345, 3) := by decide +kernel
theorem d_MO_isQuestion_6 : decode m_MO_isQuestion.2.1 6 = .ok (.iconst 1, 1) := by decide +kernel
theorem d_MO_isQuestion_7 : decode m_MO_isQuestion.2.1 7 = .ok (.isub, 1) := by decide +kernel
theorem d_MO_isQuestion_8 : decode m_MO_isQuestion.2.1 8 = .ok (.invokestatic 190, 3) := by decide +kernel
theorem d_MO_isQuestion_11 : decode m_MO_isQuestion.2.1 11 = .ok (.ireturn, 1) := by decide +kernel
theorem d_MO_isReady_0 : decode m_MO_isReady.2.1 0 = .ok (.iload_n 1, 1) := by decide +kernel
theorem d_MO_isReady_1 : decode m_MO_isReady.2.1 1 = .ok (.iconst (-1), 1) := by decide +kernel
theorem d_MO_isReady_2 : decode m_MO_isReady.2.1 2 = .ok (.if_icmp .eq 22, 3) := by decide +kernel
theorem d_MO_isReady_5 : decode m_MO_isReady.2.1 5 = .ok (.aload_n 0, 1) := by decide +kernel
theorem d_MO_isReady_6 : decode m_MO_isReady.2.1 6 = .ok (.getfield 13, 3) := by decide +kernel
theorem d_MO_isReady_9 : decode m_MO_isReady.2.1 9 = .ok (.iload_n 1, 1) := by decide +kernel
theorem d_MO_isReady_10 : decode m_MO_isReady.2.1 10 = .ok (.iaload, 1) := by decide +kernel
theorem d_MO_isReady_11 : decode m_MO_isReady.2.1 11 = .ok (.iconst 2, 1) := by decide +kernel
theorem d_MO_isReady_12 : decode m_MO_isReady.2.1 12 = .ok (.if_icmp .ne 12, 3) := by decide +kernel
theorem d_MO_isReady_15 : decode m_MO_isReady.2.1 15 = .ok (.aload_n 0, 1) := by decide +kernel
theorem d_MO_isReady_16 : decode m_MO_isReady.2.1 16 = .ok (.getfield 50, 3) := by decide +kernel
theorem d_MO_isReady_19 : decode m_MO_isReady.2.1 19 = .ok (.iload_n 1, 1) := by decide +kernel
theorem d_MO_isReady_20 : decode m_MO_isReady.2.1 20 = .ok (.baload, 1) := by decide +kernel
theorem d_MO_isReady_21 : decode m_MO_isReady.2.1 21 = .ok (.ifCond .eq 7, 3) := by decide +kernel
theorem d_MO_isReady_24 : decode m_MO_isReady.2.1 24 = .ok (.iconst 1, 1) := by decide +kernel
theorem d_MO_isReady_25 : decode m_MO_isReady.2.1 25 = .ok (.goto 4, 3) := by decide +kernel
theorem d_MO_isReady_28 : decode m_MO_isReady.2.1 28 = .ok (.iconst 0, 1) := by decide +kernel
theorem d_MO_isReady_29 : decode m_MO_isReady.2.1 29 = .ok (.ireturn, 1) := by decide +kernel
theorem d_MO_isRepeated_0 : decode m_MO_isRepeated.2.1 0 = .ok (.iconst 0, 1) := by decide +kernel
theorem d_MO_isRepeated_1 : decode m_MO_isRepeated.2.1 1 = .ok (.istore 4, 2) := by decide +kernel
theorem d_MO_isRepeated_3 : decode m_MO_isRepeated.2.1 3 = .ok (.iload 4, 2) := by decide +kernel
theorem d_MO_isRepeated_5 : decode m_MO_isRepeated.2.1 5 = .ok (.iload_n 2, 1) := by decide +kernel
theorem d_MO_isRepeated_6 : decode m_MO_isRepeated.2.1 6 = .ok (.if_icmp .ge 52, 3) := by decide +kernel
theorem d_MO_isRepeated_9 : decode m_MO_isRepeated.2.1 9 = .ok (.aload_n 0, 1) := by decide +kernel
theorem d_MO_isRepeated_10 : decode m_MO_isRepeated.2.1 10 = .ok (.getfield 74, 3) := by decide +kernel
theorem d_MO_isRepeated_13 : decode m_MO_isRepeated.2.1 13 = .ok (.bipush 30, 2) := by decide +kernel
theorem d_MO_isRepeated_15 : decode m_MO_isRepeated.2.1 15 = .ok (.iload_n 1, 1) := by decide +kernel
theorem d_MO_isRepeated_16 : decode m_MO_isRepeated.2.1 16 = .ok (.imul, 1) := by decide +kernel
theorem d_MO_isRepeated_17 : decode m_MO_isRepeated.2.1 17 = .ok (.iload 4, 2) := by decide +kernel
theorem d_MO_isRepeated_19 : decode m_MO_isRepeated.2.1 19 = .ok (.iadd, 1) := by decide +kernel
theorem d_MO_isRepeated_20 : decode m_MO_isRepeated.2.1 20 = .ok (.baload, 1) := by decide +kernel
theorem d_MO_isRepeated_21 : decode m_MO_isRepeated.2.1 21 = .ok (.ifCond .eq 31, 3) := by decide +kernel
theorem d_MO_isRepeated_24 : decode m_MO_isRepeated.2.1 24 = .ok (.aload_n 0, 1) := by decide +kernel
theorem d_MO_isRepeated_25 : decode m_MO_isRepeated.2.1 25 = .ok (.getfield 77, 3) := by decide +kernel
theorem d_MO_isRepeated_28 : decode m_MO_isRepeated.2.1 28 = .ok (.iload_n 1, 1) := by decide +kernel
theorem d_MO_isRepeated_29 : decode m_MO_isRepeated.2.1 29 = .ok (.iload 4, 2) := by decide +kernel
theorem d_MO_isRepeated_31 : decode m_MO_isRepeated.2.1 31 = .ok (.iload_n 3, 1) := by decide +kernel
theorem d_MO_isRepeated_32 : decode m_MO_isRepeated.2.1 32 = .ok (.invokestatic 225, 3) := by decide +kernel
theorem d_MO_isRepeated_35 : decode m_MO_isRepeated.2.1 35 = .ok (.iaload, 1) := by decide +kernel
theorem d_MO_isRepeated_36 : decode m_MO_isRepeated.2.1 36 = .ok (.aload_n 0, 1) := by decide +kernel
theorem d_MO_isRepeated_37 : decode m_MO_isRepeated.2.1 37 = .ok (.getfield 77, 3) := by decide +kernel
theorem d_MO_isRepeated_40 : decode m_MO_isRepeated.2.1 40 = .ok (.iload_n 1, 1) := by decide +kernel
theorem d_MO_isRepeated_41 : decode m_MO_isRepeated.2.1 41 = .ok (.iload_n 2, 1) := by decide +kernel
theorem d_MO_isRepeated_42 : decode m_MO_isRepeated.2.1 42 = .ok (.iload_n 3, 1) := by decide +kernel
theorem d_MO_isRepeated_43 : decode m_MO_isRepeated.2.1 43 = .ok (.invokestatic 225, 3) := by decide +kernel
theorem d_MO_isRepeated_46 : decode m_MO_isRepeated.2.1 46 = .ok (.iaload, 1) := by decide +kernel
theorem d_MO_isRepeated_47 : decode m_MO_isRepeated.2.1 47 = .ok (.if_icmp .ne 5, 3) := by decide +kernel
theorem d_MO_isRepeated_50 : decode m_MO_isRepeated.2.1 50 = .ok (.iconst 1, 1) := by decide +kernel
theorem d_MO_isRepeated_51 : decode m_MO_isRepeated.2.1 51 = .ok (.ireturn, 1) := by decide +kernel
theorem d_MO_isRepeated_52 : decode m_MO_isRepeated.2.1 52 = .ok (.iinc 4 1, 3) := by decide +kernel
theorem d_MO_isRepeated_55 : decode m_MO_isRepeated.2.1 55 = .ok (.goto (-52), 3) := by decide +kernel
theorem d_MO_isRepeated_58 : decode m_MO_isRepeated.2.1 58 = .ok (.iconst 0, 1) := by decide +kernel
theorem d_MO_isRepeated_59 : decode m_MO_isRepeated.2.1 59 = .ok (.ireturn, 1) := by decide +kernel
theorem d_MO_isRow_0 : decode m_MO_isRow.2.1 0 = .ok (.aload_n 0, 1) := by decide +kernel
theorem d_MO_isRow_1 : decode m_MO_isRow.2.1 1 = .ok (.iload_n 1, 1) := by decide +kernel
theorem d_MO_isRow_2 : decode m_MO_isRow.2.1 2 = .ok (.invokevirtual 201, 3) := by decide +kernel
theorem d_MO_isRow_5 : decode m_MO_isRow.2.1 5 = .ok (.ifCond .eq 37, 3) := by decide +kernel
theorem d_MO_isRow_8 : decode m_MO_isRow.2.1 8 = .ok (.iload_n 2, 1) := by decide +kernel
theorem d_MO_isRow_9 : decode m_MO_isRow.2.1 9 = .ok (.iconst 0, 1) := by decide +kernel
theorem d_MO_isRow_10 : decode m_MO_isRow.2.1 10 = .ok (.aload_n 0, 1) := by decide +kernel
theorem d_MO_isRow_11 : decode m_MO_isRow.2.1 11 = .ok (.getfield 71, 3) := by decide +kernel
theorem d_MO_isRow_14 : decode m_MO_isRow.2.1 14 = .ok (.iload_n 1, 1) := by decide +kernel
theorem d_MO_isRow_15 : decode m_MO_isRow.2.1 15 = .ok (.iaload, 1) := by decide +kernel
theorem d_MO_isRow_16 : decode m_MO_isRow.2.1 16 = .ok (.iconst 1, 1) := by decide +kernel
theorem d_MO_isRow_17 : decode m_MO_isRow.2.1 17 = .ok (.isub, 1) := by decide +kernel
theorem d_MO_isRow_18 : decode m_MO_isRow.2.1 18 = .ok (.invokestatic 190, 3) := by decide +kernel
theorem d_MO_isRow_21 : decode m_MO_isRow.2.1 21 = .ok (.ifCond .eq 21, 3) := by decide +kernel
theorem d_MO_isRow_24 : decode m_MO_isRow.2.1 24 = .ok (.aload_n 0, 1) := by decide +kernel
theorem d_MO_isRow_25 : decode m_MO_isRow.2.1 25 = .ok (.getfield 74, 3) := by decide +kernel
theorem d_MO_isRow_28 : decode m_MO_isRow.2.1 28 = .ok (.bipush 30, 2) := by decide +kernel
theorem d_MO_isRow_30 : decode m_MO_isRow.2.1 30 = .ok (.iload_n 1, 1) := by decide +kernel
theorem d_MO_isRow_31 : decode m_MO_isRow.2.1 31 = .ok (.imul, 1) := by decide +kernel
theorem d_MO_isRow_32 : decode m_MO_isRow.2.1 32 = .ok (.iload_n 2, 1) := by decide +kernel
theorem d_MO_isRow_33 : decode m_MO_isRow.2.1 33 = .ok (.iadd, 1) := by decide +kernel
theorem d_MO_isRow_34 : decode m_MO_isRow.2.1 34 = .ok (.baload, 1) := by decide +kernel
theorem d_MO_isRow_35 : decode m_MO_isRow.2.1 35 = .ok (.ifCond .eq 7, 3) := by decide +kernel
theorem d_MO_isRow_38 : decode m_MO_isRow.2.1 38 = .ok (.iconst 1, 1) := by decide +kernel
theorem d_MO_isRow_39 : decode m_MO_isRow.2.1 39 = .ok (.goto 4, 3) := by decide +kernel
theorem d_MO_isRow_42 : decode m_MO_isRow.2.1 42 = .ok (.iconst 0, 1) := by decide +kernel
theorem d_MO_isRow_43 : decode m_MO_isRow.2.1 43 = .ok (.ireturn, 1) := by decide +kernel

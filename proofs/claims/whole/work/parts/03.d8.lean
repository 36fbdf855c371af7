theorem d_MO_put_0 : decode m_MO_put.2.1 0 = .ok (.aload_n 0, 1) := by decide +kernel
theorem d_MO_put_1 : decode m_MO_put.2.1 1 = .ok (.iload_n 1, 1) := by decide +kernel
theorem d_MO_put_2 : decode m_MO_put.2.1 2 = .ok (.iload_n 2, 1) := by decide +kernel
theorem d_MO_put_3 : decode m_MO_put.2.1 3 = .ok (.invokevirtual 233, 3) := by decide +kernel
theorem d_MO_put_6 : decode m_MO_put.2.1 6 = .ok (.ifCond .eq 16, 3) := by decide +kernel
theorem d_MO_put_9 : decode m_MO_put.2.1 9 = .ok (.aload_n 0, 1) := by decide +kernel
theorem d_MO_put_10 : decode m_MO_put.2.1 10 = .ok (.iload_n 1, 1) := by decide +kernel
theorem d_MO_put_11 : decode m_MO_put.2.1 11 = .ok (.iload_n 3, 1) := by decide +kernel
theorem d_MO_put_12 : decode m_MO_put.2.1 12 = .ok (.invokevirtual 305, 3) := by decide +kernel
theorem d_MO_put_15 : decode m_MO_put.2.1 15 = .ok (.ifCond .eq 7, 3) := by decide +kernel
theorem d_MO_put_18 : decode m_MO_put.2.1 18 = .ok (.iconst 1, 1) := by decide +kernel
theorem d_MO_put_19 : decode m_MO_put.2.1 19 = .ok (.goto 4, 3) := by decide +kernel
theorem d_MO_put_22 : decode m_MO_put.2.1 22 = .ok (.iconst 0, 1) := by decide +kernel
theorem d_MO_put_23 : decode m_MO_put.2.1 23 = .ok (.istore 5, 2) := by decide +kernel
theorem d_MO_put_25 : decode m_MO_put.2.1 25 = .ok (.aload_n 0, 1) := by decide +kernel
theorem d_MO_put_26 : decode m_MO_put.2.1 26 = .ok (.iload 5, 2) := by decide +kernel
theorem d_MO_put_28 : decode m_MO_put.2.1 28 = .ok (.ifCond .ne 7, 3) := by decide +kernel
theorem d_MO_put_31 : decode m_MO_put.2.1 31 = .ok (.iconst 1, 1) := by decide +kernel
theorem d_MO_put_32 : decode m_MO_put.2.1 32 = .ok (.goto 29, 3) := by decide +kernel
theorem d_MO_put_35 : decode m_MO_put.2.1 35 = .ok (.aload_n 0, 1) := by decide +kernel
theorem d_MO_put_36 : decode m_MO_put.2.1 36 = .ok (.bipush 6, 2) := by decide +kernel
theorem d_MO_put_38 : decode m_MO_put.2.1 38 = .ok (.iload_n 1, 1) := by decide +kernel
theorem d_MO_put_39 : decode m_MO_put.2.1 39 = .ok (.imul, 1) := by decide +kernel
theorem d_MO_put_40 : decode m_MO_put.2.1 40 = .ok (.iload_n 3, 1) := by decide +kernel
theorem d_MO_put_41 : decode m_MO_put.2.1 41 = .ok (.iadd, 1) := by decide +kernel
theorem d_MO_put_42 : decode m_MO_put.2.1 42 = .ok (.invokevirtual 251, 3) := by decide +kernel
theorem d_MO_put_45 : decode m_MO_put.2.1 45 = .ok (.ifCond .eq 15, 3) := by decide +kernel
theorem d_MO_put_48 : decode m_MO_put.2.1 48 = .ok (.iload 4, 2) := by decide +kernel
theorem d_MO_put_50 : decode m_MO_put.2.1 50 = .ok (.invokestatic 354, 3) := by decide +kernel
theorem d_MO_put_53 : decode m_MO_put.2.1 53 = .ok (.ifCond .eq 7, 3) := by decide +kernel
theorem d_MO_put_56 : decode m_MO_put.2.1 56 = .ok (.iconst 0, 1) := by decide +kernel
theorem d_MO_put_57 : decode m_MO_put.2.1 57 = .ok (.goto 4, 3) := by decide +kernel
theorem d_MO_put_60 : decode m_MO_put.2.1 60 = .ok (.iconst 2, 1) := by decide +kernel
theorem d_MO_put_61 : decode m_MO_put.2.1 61 = .ok (.invokevirtual 292, 3) := by decide +kernel
theorem d_MO_put_64 : decode m_MO_put.2.1 64 = .ok (.ifCond .ne 5, 3) := by decide +kernel
theorem d_MO_put_67 : decode m_MO_put.2.1 67 = .ok (.iconst 0, 1) := by decide +kernel
theorem d_MO_put_68 : decode m_MO_put.2.1 68 = .ok (.ireturn, 1) := by decide +kernel
theorem d_MO_put_69 : decode m_MO_put.2.1 69 = .ok (.aload_n 0, 1) := by decide +kernel
theorem d_MO_put_70 : decode m_MO_put.2.1 70 = .ok (.aload_n 0, 1) := by decide +kernel
theorem d_MO_put_71 : decode m_MO_put.2.1 71 = .ok (.iload_n 1, 1) := by decide +kernel
theorem d_MO_put_72 : decode m_MO_put.2.1 72 = .ok (.iload_n 2, 1) := by decide +kernel
theorem d_MO_put_73 : decode m_MO_put.2.1 73 = .ok (.iload_n 3, 1) := by decide +kernel
theorem d_MO_put_74 : decode m_MO_put.2.1 74 = .ok (.iload 4, 2) := by decide +kernel
theorem d_MO_put_76 : decode m_MO_put.2.1 76 = .ok (.invokevirtual 370, 3) := by decide +kernel
theorem d_MO_put_79 : decode m_MO_put.2.1 79 = .ok (.invokevirtual 328, 3) := by decide +kernel
theorem d_MO_put_82 : decode m_MO_put.2.1 82 = .ok (.ireturn, 1) := by decide +kernel
theorem d_MO_reason_0 : decode m_MO_reason.2.1 0 = .ok (.aload_n 0, 1) := by decide +kernel
theorem d_MO_reason_1 : decode m_MO_reason.2.1 1 = .ok (.iconst 0, 1) := by decide +kernel
theorem d_MO_reason_2 : decode m_MO_reason.2.1 2 = .ok (.putfield 187, 3) := by decide +kernel
theorem d_MO_reason_5 : decode m_MO_reason.2.1 5 = .ok (.aload_n 0, 1) := by decide +kernel
theorem d_MO_reason_6 : decode m_MO_reason.2.1 6 = .ok (.getfield 205, 3) := by decide +kernel
theorem d_MO_reason_9 : decode m_MO_reason.2.1 9 = .ok (.ireturn, 1) := by decide +kernel
theorem d_MO_reckonAnew_0 : decode m_MO_reckonAnew.2.1 0 = .ok (.aload_n 0, 1) := by decide +kernel
theorem d_MO_reckonAnew_1 : decode m_MO_reckonAnew.2.1 1 = .ok (.iload_n 1, 1) := by decide +kernel
theorem d_MO_reckonAnew_2 : decode m_MO_reckonAnew.2.1 2 = .ok (.iload_n 2, 1) := by decide +kernel
theorem d_MO_reckonAnew_3 : decode m_MO_reckonAnew.2.1 3 = .ok (.invokevirtual 305, 3) := by decide +kernel
theorem d_MO_reckonAnew_6 : decode m_MO_reckonAnew.2.1 6 = .ok (.istore 7, 2) := by decide +kernel
theorem d_MO_reckonAnew_8 : decode m_MO_reckonAnew.2.1 8 = .ok (.iload 7, 2) := by decide +kernel
theorem d_MO_reckonAnew_10 : decode m_MO_reckonAnew.2.1 10 = .ok (.ifCond .eq 18, 3) := by decide +kernel
theorem d_MO_reckonAnew_13 : decode m_MO_reckonAnew.2.1 13 = .ok (.aload_n 0, 1) := by decide +kernel
theorem d_MO_reckonAnew_14 : decode m_MO_reckonAnew.2.1 14 = .ok (.iload_n 1, 1) := by decide +kernel
theorem d_MO_reckonAnew_15 : decode m_MO_reckonAnew.2.1 15 = .ok (.iload_n 3, 1) := by decide +kernel
theorem d_MO_reckonAnew_16 : decode m_MO_reckonAnew.2.1 16 = .ok (.iload 4, 2) := by decide +kernel
theorem d_MO_reckonAnew_18 : decode m_MO_reckonAnew.2.1 18 = .ok (.iload 5, 2) := by decide +kernel
theorem d_MO_reckonAnew_20 : decode m_MO_reckonAnew.2.1 20 = .ok (.iload 6, 2) := by decide +kernel
theorem d_MO_reckonAnew_22 : decode m_MO_reckonAnew.2.1 22 = .ok (.invokevirtual 314, 3) := by decide +kernel
theorem d_MO_reckonAnew_25 : decode m_MO_reckonAnew.2.1 25 = .ok (.goto 4, 3) := by decide +kernel
theorem d_MO_reckonAnew_28 : decode m_MO_reckonAnew.2.1 28 = .ok (.iconst 1, 1) := by decide +kernel
theorem d_MO_reckonAnew_29 : decode m_MO_reckonAnew.2.1 29 = .ok (.istore 8, 2) := by decide +kernel
theorem d_MO_reckonAnew_31 : decode m_MO_reckonAnew.2.1 31 = .ok (.iload 7, 2) := by decide +kernel
theorem d_MO_reckonAnew_33 : decode m_MO_reckonAnew.2.1 33 = .ok (.ifCond .eq 12, 3) := by decide +kernel
theorem d_MO_reckonAnew_36 : decode m_MO_reckonAnew.2.1 36 = .ok (.bipush 6, 2) := by decide +kernel
theorem d_MO_reckonAnew_38 : decode m_MO_reckonAnew.2.1 38 = .ok (.iload_n 1, 1) := by decide +kernel
theorem d_MO_reckonAnew_39 : decode m_MO_reckonAnew.2.1 39 = .ok (.imul, 1) := by decide +kernel
theorem d_MO_reckonAnew_40 : decode m_MO_reckonAnew.2.1 40 = .ok (.iload_n 2, 1) := by decide +kernel
theorem d_MO_reckonAnew_41 : decode m_MO_reckonAnew.2.1 41 = .ok (.iadd, 1) := by decide +kernel
theorem d_MO_reckonAnew_42 : decode m_MO_reckonAnew.2.1 42 = .ok (.goto 4, 3) := by decide +kernel
theorem d_MO_reckonAnew_45 : decode m_MO_reckonAnew.2.1 45 = .ok (.iconst 0, 1) := by decide +kernel
theorem d_MO_reckonAnew_46 : decode m_MO_reckonAnew.2.1 46 = .ok (.istore 9, 2) := by decide +kernel
theorem d_MO_reckonAnew_48 : decode m_MO_reckonAnew.2.1 48 = .ok (.aload_n 0, 1) := by decide +kernel
theorem d_MO_reckonAnew_49 : decode m_MO_reckonAnew.2.1 49 = .ok (.iload 8, 2) := by decide +kernel
theorem d_MO_reckonAnew_51 : decode m_MO_reckonAnew.2.1 51 = .ok (.ifCond .ne 18, 3) := by decide +kernel
theorem d_MO_reckonAnew_54 : decode m_MO_reckonAnew.2.1 54 = .ok (.aload_n 0, 1) := by decide +kernel
theorem d_MO_reckonAnew_55 : decode m_MO_reckonAnew.2.1 55 = .ok (.getfield 13, 3) := by decide +kernel
theorem d_MO_reckonAnew_58 : decode m_MO_reckonAnew.2.1 58 = .ok (.iload 9, 2) := by decide +kernel
theorem d_MO_reckonAnew_60 : decode m_MO_reckonAnew.2.1 60 = .ok (.iaload, 1) := by decide +kernel
theorem d_MO_reckonAnew_61 : decode m_MO_reckonAnew.2.1 61 = .ok (.iconst 2, 1) := by decide +kernel
theorem d_MO_reckonAnew_62 : decode m_MO_reckonAnew.2.1 62 = .ok (.if_icmp .eq 7, 3) := by decide +kernel
theorem d_MO_reckonAnew_65 : decode m_MO_reckonAnew.2.1 65 = .ok (.iconst 2, 1) := by decide +kernel
theorem d_MO_reckonAnew_66 : decode m_MO_reckonAnew.2.1 66 = .ok (.goto 5, 3) := by decide +kernel
theorem d_MO_reckonAnew_69 : decode m_MO_reckonAnew.2.1 69 = .ok (.iload 8, 2) := by decide +kernel
theorem d_MO_reckonAnew_71 : decode m_MO_reckonAnew.2.1 71 = .ok (.invokevirtual 292, 3) := by decide +kernel
theorem d_MO_reckonAnew_74 : decode m_MO_reckonAnew.2.1 74 = .ok (.ifCond .ne 5, 3) := by decide +kernel
theorem d_MO_reckonAnew_77 : decode m_MO_reckonAnew.2.1 77 = .ok (.iconst 0, 1) := by decide +kernel
theorem d_MO_reckonAnew_78 : decode m_MO_reckonAnew.2.1 78 = .ok (.ireturn, 1) := by decide +kernel
theorem d_MO_reckonAnew_79 : decode m_MO_reckonAnew.2.1 79 = .ok (.aload_n 0, 1) := by decide +kernel
theorem d_MO_reckonAnew_80 : decode m_MO_reckonAnew.2.1 80 = .ok (.getfield 28, 3) := by decide +kernel
theorem d_MO_reckonAnew_83 : decode m_MO_reckonAnew.2.1 83 = .ok (.iload 9, 2) := by decide +kernel
theorem d_MO_reckonAnew_85 : decode m_MO_reckonAnew.2.1 85 = .ok (.iaload, 1) := by decide +kernel
theorem d_MO_reckonAnew_86 : decode m_MO_reckonAnew.2.1 86 = .ok (.istore 10, 2) := by decide +kernel
theorem d_MO_reckonAnew_88 : decode m_MO_reckonAnew.2.1 88 = .ok (.aload_n 0, 1) := by decide +kernel
theorem d_MO_reckonAnew_89 : decode m_MO_reckonAnew.2.1 89 = .ok (.getfield 31, 3) := by decide +kernel
theorem d_MO_reckonAnew_92 : decode m_MO_reckonAnew.2.1 92 = .ok (.iload 9, 2) := by decide +kernel
theorem d_MO_reckonAnew_94 : decode m_MO_reckonAnew.2.1 94 = .ok (.iaload, 1) := by decide +kernel
theorem d_MO_reckonAnew_95 : decode m_MO_reckonAnew.2.1 95 = .ok (.istore 11, 2) := by decide +kernel
theorem d_MO_reckonAnew_97 : decode m_MO_reckonAnew.2.1 97 = .ok (.aload_n 0, 1) := by decide +kernel
theorem d_MO_reckonAnew_98 : decode m_MO_reckonAnew.2.1 98 = .ok (.getfield 34, 3) := by decide +kernel
theorem d_MO_reckonAnew_101 : decode m_MO_reckonAnew.2.1 101 = .ok (.iload 9, 2) := by decide +kernel
theorem d_MO_reckonAnew_103 : decode m_MO_reckonAnew.2.1 103 = .ok (.iaload, 1) := by decide +kernel
theorem d_MO_reckonAnew_104 : decode m_MO_reckonAnew.2.1 104 = .ok (.istore 12, 2) := by decide +kernel
theorem d_MO_reckonAnew_106 : decode m_MO_reckonAnew.2.1 106 = .ok (.aload_n 0, 1) := by decide +kernel
theorem d_MO_reckonAnew_107 : decode m_MO_reckonAnew.2.1 107 = .ok (.getfield 37, 3) := by decide +kernel
theorem d_MO_reckonAnew_110 : decode m_MO_reckonAnew.2.1 110 = .ok (.iload 9, 2) := by decide +kernel
theorem d_MO_reckonAnew_112 : decode m_MO_reckonAnew.2.1 112 = .ok (.iaload, 1) := by decide +kernel
theorem d_MO_reckonAnew_113 : decode m_MO_reckonAnew.2.1 113 = .ok (.istore 13, 2) := by decide +kernel
theorem d_MO_reckonAnew_115 : decode m_MO_reckonAnew.2.1 115 = .ok (.aload_n 0, 1) := by decide +kernel
theorem d_MO_reckonAnew_116 : decode m_MO_reckonAnew.2.1 116 = .ok (.bipush 6, 2) := by decide +kernel
theorem d_MO_reckonAnew_118 : decode m_MO_reckonAnew.2.1 118 = .ok (.invokevirtual 322, 3) := by decide +kernel
theorem d_MO_reckonAnew_121 : decode m_MO_reckonAnew.2.1 121 = .ok (.aload_n 0, 1) := by decide +kernel
theorem d_MO_reckonAnew_122 : decode m_MO_reckonAnew.2.1 122 = .ok (.iload 9, 2) := by decide +kernel
theorem d_MO_reckonAnew_124 : decode m_MO_reckonAnew.2.1 124 = .ok (.iload_n 3, 1) := by decide +kernel
theorem d_MO_reckonAnew_125 : decode m_MO_reckonAnew.2.1 125 = .ok (.iload 4, 2) := by decide +kernel
theorem d_MO_reckonAnew_127 : decode m_MO_reckonAnew.2.1 127 = .ok (.iload 5, 2) := by decide +kernel
theorem d_MO_reckonAnew_129 : decode m_MO_reckonAnew.2.1 129 = .ok (.iload 6, 2) := by decide +kernel
theorem d_MO_reckonAnew_131 : decode m_MO_reckonAnew.2.1 131 = .ok (.invokevirtual 318, 3) := by decide +kernel
theorem d_MO_reckonAnew_134 : decode m_MO_reckonAnew.2.1 134 = .ok (.aload_n 0, 1) := by decide +kernel
theorem d_MO_reckonAnew_135 : decode m_MO_reckonAnew.2.1 135 = .ok (.invokevirtual 244, 3) := by decide +kernel
theorem d_MO_reckonAnew_138 : decode m_MO_reckonAnew.2.1 138 = .ok (.istore 14, 2) := by decide +kernel
theorem d_MO_reckonAnew_140 : decode m_MO_reckonAnew.2.1 140 = .ok (.iload 14, 2) := by decide +kernel
theorem d_MO_reckonAnew_142 : decode m_MO_reckonAnew.2.1 142 = .ok (.ifCond .ne 13, 3) := by decide +kernel
theorem d_MO_reckonAnew_145 : decode m_MO_reckonAnew.2.1 145 = .ok (.aload_n 0, 1) := by decide +kernel
theorem d_MO_reckonAnew_146 : decode m_MO_reckonAnew.2.1 146 = .ok (.bipush 9, 2) := by decide +kernel
theorem d_MO_reckonAnew_148 : decode m_MO_reckonAnew.2.1 148 = .ok (.iload_n 1, 1) := by decide +kernel
theorem d_MO_reckonAnew_149 : decode m_MO_reckonAnew.2.1 149 = .ok (.iconst (-1), 1) := by decide +kernel
theorem d_MO_reckonAnew_150 : decode m_MO_reckonAnew.2.1 150 = .ok (.iload_n 2, 1) := by decide +kernel
theorem d_MO_reckonAnew_151 : decode m_MO_reckonAnew.2.1 151 = .ok (.invokevirtual 261, 3) := by decide +kernel
theorem d_MO_reckonAnew_154 : decode m_MO_reckonAnew.2.1 154 = .ok (.pop, 1) := by decide +kernel
theorem d_MO_reckonAnew_155 : decode m_MO_reckonAnew.2.1 155 = .ok (.iload 14, 2) := by decide +kernel
theorem d_MO_reckonAnew_157 : decode m_MO_reckonAnew.2.1 157 = .ok (.ifCond .eq 10, 3) := by decide +kernel
theorem d_MO_reckonAnew_160 : decode m_MO_reckonAnew.2.1 160 = .ok (.aload_n 0, 1) := by decide +kernel
theorem d_MO_reckonAnew_161 : decode m_MO_reckonAnew.2.1 161 = .ok (.invokevirtual 325, 3) := by decide +kernel
theorem d_MO_reckonAnew_164 : decode m_MO_reckonAnew.2.1 164 = .ok (.ifCond .ne 19, 3) := by decide +kernel
theorem d_MO_reckonAnew_167 : decode m_MO_reckonAnew.2.1 167 = .ok (.aload_n 0, 1) := by decide +kernel
theorem d_MO_reckonAnew_168 : decode m_MO_reckonAnew.2.1 168 = .ok (.iload 9, 2) := by decide +kernel
theorem d_MO_reckonAnew_170 : decode m_MO_reckonAnew.2.1 170 = .ok (.iload 10, 2) := by decide +kernel
theorem d_MO_reckonAnew_172 : decode m_MO_reckonAnew.2.1 172 = .ok (.iload 11, 2) := by decide +kernel
theorem d_MO_reckonAnew_174 : decode m_MO_reckonAnew.2.1 174 = .ok (.iload 12, 2) := by decide +kernel
theorem d_MO_reckonAnew_176 : decode m_MO_reckonAnew.2.1 176 = .ok (.iload 13, 2) := by decide +kernel
theorem d_MO_reckonAnew_178 : decode m_MO_reckonAnew.2.1 178 = .ok (.invokevirtual 318, 3) := by decide +kernel
theorem d_MO_reckonAnew_181 : decode m_MO_reckonAnew.2.1 181 = .ok (.iconst 0, 1) := by decide +kernel
theorem d_MO_reckonAnew_182 : decode m_MO_reckonAnew.2.1 182 = .ok (.ireturn, 1) := by decide +kernel
theorem d_MO_reckonAnew_183 : decode m_MO_reckonAnew.2.1 183 = .ok (.aload_n 0, 1) := by decide +kernel
theorem d_MO_reckonAnew_184 : decode m_MO_reckonAnew.2.1 184 = .ok (.iconst 1, 1) := by decide +kernel
theorem d_MO_reckonAnew_185 : decode m_MO_reckonAnew.2.1 185 = .ok (.invokevirtual 328, 3) := by decide +kernel
theorem d_MO_reckonAnew_188 : decode m_MO_reckonAnew.2.1 188 = .ok (.ireturn, 1) := by decide +kernel
theorem d_MO_reckoned_0 : decode m_MO_reckoned.2.1 0 = .ok (.aload_n 0, 1) := by decide +kernel
theorem d_MO_reckoned_1 : decode m_MO_reckoned.2.1 1 = .ok (.getfield 28, 3) := by decide +kernel
theorem d_MO_reckoned_4 : decode m_MO_reckoned.2.1 4 = .ok (.iload_n 1, 1) := by decide +kernel
theorem d_MO_reckoned_5 : decode m_MO_reckoned.2.1 5 = .ok (.iaload, 1) := by decide +kernel
theorem d_MO_reckoned_6 : decode m_MO_reckoned.2.1 6 = .ok (.iconst 2, 1) := by decide +kernel
theorem d_MO_reckoned_7 : decode m_MO_reckoned.2.1 7 = .ok (.if_icmp .ne 10, 3) := by decide +kernel
theorem d_MO_reckoned_10 : decode m_MO_reckoned.2.1 10 = .ok (.aload_n 0, 1) := by decide +kernel
theorem d_MO_reckoned_11 : decode m_MO_reckoned.2.1 11 = .ok (.iload_n 1, 1) := by decide +kernel
theorem d_MO_reckoned_12 : decode m_MO_reckoned.2.1 12 = .ok (.iload_n 2, 1) := by decide +kernel
theorem d_MO_reckoned_13 : decode m_MO_reckoned.2.1 13 = .ok (.invokevirtual 237, 3) := by decide +kernel
theorem d_MO_reckoned_16 : decode m_MO_reckoned.2.1 16 = .ok (.ireturn, 1) := by decide +kernel
theorem d_MO_reckoned_17 : decode m_MO_reckoned.2.1 17 = .ok (.aload_n 0, 1) := by decide +kernel
theorem d_MO_reckoned_18 : decode m_MO_reckoned.2.1 18 = .ok (.getfield 28, 3) := by decide +kernel
theorem d_MO_reckoned_21 : decode m_MO_reckoned.2.1 21 = .ok (.iload_n 1, 1) := by decide +kernel
theorem d_MO_reckoned_22 : decode m_MO_reckoned.2.1 22 = .ok (.iaload, 1) := by decide +kernel
theorem d_MO_reckoned_23 : decode m_MO_reckoned.2.1 23 = .ok (.iconst 3, 1) := by decide +kernel
theorem d_MO_reckoned_24 : decode m_MO_reckoned.2.1 24 = .ok (.if_icmp .eq 13, 3) := by decide +kernel
theorem d_MO_reckoned_27 : decode m_MO_reckoned.2.1 27 = .ok (.aload_n 0, 1) := by decide +kernel
theorem d_MO_reckoned_28 : decode m_MO_reckoned.2.1 28 = .ok (.getfield 28, 3) := by decide +kernel
theorem d_MO_reckoned_31 : decode m_MO_reckoned.2.1 31 = .ok (.iload_n 1, 1) := by decide +kernel
theorem d_MO_reckoned_32 : decode m_MO_reckoned.2.1 32 = .ok (.iaload, 1) := by decide +kernel
theorem d_MO_reckoned_33 : decode m_MO_reckoned.2.1 33 = .ok (.iconst 4, 1) := by decide +kernel
theorem d_MO_reckoned_34 : decode m_MO_reckoned.2.1 34 = .ok (.if_icmp .ne 10, 3) := by decide +kernel
theorem d_MO_reckoned_37 : decode m_MO_reckoned.2.1 37 = .ok (.aload_n 0, 1) := by decide +kernel
theorem d_MO_reckoned_38 : decode m_MO_reckoned.2.1 38 = .ok (.iload_n 1, 1) := by decide +kernel
theorem d_MO_reckoned_39 : decode m_MO_reckoned.2.1 39 = .ok (.iload_n 2, 1) := by decide +kernel
theorem d_MO_reckoned_40 : decode m_MO_reckoned.2.1 40 = .ok (.invokevirtual 241, 3) := by decide +kernel
theorem d_MO_reckoned_43 : decode m_MO_reckoned.2.1 43 = .ok (.ireturn, 1) := by decide +kernel
theorem d_MO_reckoned_44 : decode m_MO_reckoned.2.1 44 = .ok (.aload_n 0, 1) := by decide +kernel
theorem d_MO_reckoned_45 : decode m_MO_reckoned.2.1 45 = .ok (.getfield 77, 3) := by decide +kernel
theorem d_MO_reckoned_48 : decode m_MO_reckoned.2.1 48 = .ok (.iload_n 1, 1) := by decide +kernel
theorem d_MO_reckoned_49 : decode m_MO_reckoned.2.1 49 = .ok (.bipush 6, 2) := by decide +kernel
theorem d_MO_reckoned_51 : decode m_MO_reckoned.2.1 51 = .ok (.idiv, 1) := by decide +kernel
theorem d_MO_reckoned_52 : decode m_MO_reckoned.2.1 52 = .ok (.iload_n 2, 1) := by decide +kernel
theorem d_MO_reckoned_53 : decode m_MO_reckoned.2.1 53 = .ok (.aload_n 0, 1) := by decide +kernel
theorem d_MO_reckoned_54 : decode m_MO_reckoned.2.1 54 = .ok (.getfield 31, 3) := by decide +kernel
theorem d_MO_reckoned_57 : decode m_MO_reckoned.2.1 57 = .ok (.iload_n 1, 1) := by decide +kernel
theorem d_MO_reckoned_58 : decode m_MO_reckoned.2.1 58 = .ok (.iaload, 1) := by decide +kernel
theorem d_MO_reckoned_59 : decode m_MO_reckoned.2.1 59 = .ok (.invokestatic 225, 3) := by decide +kernel
theorem d_MO_reckoned_62 : decode m_MO_reckoned.2.1 62 = .ok (.iaload, 1) := by decide +kernel
theorem d_MO_reckoned_63 : decode m_MO_reckoned.2.1 63 = .ok (.istore_n 3, 1) := by decide +kernel
theorem d_MO_reckoned_64 : decode m_MO_reckoned.2.1 64 = .ok (.aload_n 0, 1) := by decide +kernel
theorem d_MO_reckoned_65 : decode m_MO_reckoned.2.1 65 = .ok (.getfield 77, 3) := by decide +kernel
theorem d_MO_reckoned_68 : decode m_MO_reckoned.2.1 68 = .ok (.iload_n 1, 1) := by decide +kernel
theorem d_MO_reckoned_69 : decode m_MO_reckoned.2.1 69 = .ok (.bipush 6, 2) := by decide +kernel
theorem d_MO_reckoned_71 : decode m_MO_reckoned.2.1 71 = .ok (.idiv, 1) := by decide +kernel
theorem d_MO_reckoned_72 : decode m_MO_reckoned.2.1 72 = .ok (.iload_n 2, 1) := by decide +kernel
theorem d_MO_reckoned_73 : decode m_MO_reckoned.2.1 73 = .ok (.aload_n 0, 1) := by decide +kernel
theorem d_MO_reckoned_74 : decode m_MO_reckoned.2.1 74 = .ok (.getfield 34, 3) := by decide +kernel
theorem d_MO_reckoned_77 : decode m_MO_reckoned.2.1 77 = .ok (.iload_n 1, 1) := by decide +kernel
theorem d_MO_reckoned_78 : decode m_MO_reckoned.2.1 78 = .ok (.iaload, 1) := by decide +kernel
theorem d_MO_reckoned_79 : decode m_MO_reckoned.2.1 79 = .ok (.invokestatic 225, 3) := by decide +kernel
theorem d_MO_reckoned_82 : decode m_MO_reckoned.2.1 82 = .ok (.iaload, 1) := by decide +kernel
theorem d_MO_reckoned_83 : decode m_MO_reckoned.2.1 83 = .ok (.istore 4, 2) := by decide +kernel
theorem d_MO_reckoned_85 : decode m_MO_reckoned.2.1 85 = .ok (.iload_n 3, 1) := by decide +kernel
theorem d_MO_reckoned_86 : decode m_MO_reckoned.2.1 86 = .ok (.ldc 186, 2) := by decide +kernel
theorem d_MO_reckoned_88 : decode m_MO_reckoned.2.1 88 = .ok (.if_icmp .eq 10, 3) := by decide +kernel
theorem d_MO_reckoned_91 : decode m_MO_reckoned.2.1 91 = .ok (.iload 4, 2) := by decide +kernel
theorem d_MO_reckoned_93 : decode m_MO_reckoned.2.1 93 = .ok (.ldc 186, 2) := by decide +kernel
theorem d_MO_reckoned_95 : decode m_MO_reckoned.2.1 95 = .ok (.if_icmp .ne 8, 3) := by decide +kernel
theorem d_MO_reckoned_98 : decode m_MO_reckoned.2.1 98 = .ok (.ldc 186, 2) := by decide +kernel
theorem d_MO_reckoned_100 : decode m_MO_reckoned.2.1 100 = .ok (.goto 31, 3) := by decide +kernel
theorem d_MO_reckoned_103 : decode m_MO_reckoned.2.1 103 = .ok (.aload_n 0, 1) := by decide +kernel
theorem d_MO_reckoned_104 : decode m_MO_reckoned.2.1 104 = .ok (.getfield 28, 3) := by decide +kernel
theorem d_MO_reckoned_107 : decode m_MO_reckoned.2.1 107 = .ok (.iload_n 1, 1) := by decide +kernel
theorem d_MO_reckoned_108 : decode m_MO_reckoned.2.1 108 = .ok (.iaload, 1) := by decide +kernel
theorem d_MO_reckoned_109 : decode m_MO_reckoned.2.1 109 = .ok (.iconst 1, 1) := by decide +kernel
theorem d_MO_reckoned_110 : decode m_MO_reckoned.2.1 110 = .ok (.if_icmp .ne 12, 3) := by decide +kernel
theorem d_MO_reckoned_113 : decode m_MO_reckoned.2.1 113 = .ok (.iload_n 3, 1) := by decide +kernel
theorem d_MO_reckoned_114 : decode m_MO_reckoned.2.1 114 = .ok (.i2l, 1) := by decide +kernel
theorem d_MO_reckoned_115 : decode m_MO_reckoned.2.1 115 = .ok (.iload 4, 2) := by decide +kernel
theorem d_MO_reckoned_117 : decode m_MO_reckoned.2.1 117 = .ok (.i2l, 1) := by decide +kernel
theorem d_MO_reckoned_118 : decode m_MO_reckoned.2.1 118 = .ok (.lmul, 1) := by decide +kernel
theorem d_MO_reckoned_119 : decode m_MO_reckoned.2.1 119 = .ok (.goto 9, 3) := by decide +kernel
theorem d_MO_reckoned_122 : decode m_MO_reckoned.2.1 122 = .ok (.iload_n 3, 1) := by decide +kernel
theorem d_MO_reckoned_123 : decode m_MO_reckoned.2.1 123 = .ok (.i2l, 1) := by decide +kernel
theorem d_MO_reckoned_124 : decode m_MO_reckoned.2.1 124 = .ok (.iload 4, 2) := by decide +kernel
theorem d_MO_reckoned_126 : decode m_MO_reckoned.2.1 126 = .ok (.i2l, 1) := by decide +kernel
theorem d_MO_reckoned_127 : decode m_MO_reckoned.2.1 127 = .ok (.ladd, 1) := by decide +kernel
theorem d_MO_reckoned_128 : decode m_MO_reckoned.2.1 128 = .ok (.invokestatic 229, 3) := by decide +kernel
theorem d_MO_reckoned_131 : decode m_MO_reckoned.2.1 131 = .ok (.ireturn, 1) := by decide +kernel
theorem d_MO_reckons_0 : decode m_MO_reckons.2.1 0 = .ok (.aload_n 0, 1) := by decide +kernel
theorem d_MO_reckons_1 : decode m_MO_reckons.2.1 1 = .ok (.invokevirtual 244, 3) := by decide +kernel
theorem d_MO_reckons_4 : decode m_MO_reckons.2.1 4 = .ok (.pop, 1) := by decide +kernel
theorem d_MO_reckons_5 : decode m_MO_reckons.2.1 5 = .ok (.iconst 0, 1) := by decide +kernel
theorem d_MO_reckons_6 : decode m_MO_reckons.2.1 6 = .ok (.istore_n 1, 1) := by decide +kernel
theorem d_MO_reckons_7 : decode m_MO_reckons.2.1 7 = .ok (.iload_n 1, 1) := by decide +kernel
theorem d_MO_reckons_8 : decode m_MO_reckons.2.1 8 = .ok (.aload_n 0, 1) := by decide +kernel
theorem d_MO_reckons_9 : decode m_MO_reckons.2.1 9 = .ok (.getfield 218, 3) := by decide +kernel
theorem d_MO_reckons_12 : decode m_MO_reckons.2.1 12 = .ok (.if_icmp .ge 65, 3) := by decide +kernel
theorem d_MO_reckons_15 : decode m_MO_reckons.2.1 15 = .ok (.aload_n 0, 1) := by decide +kernel
theorem d_MO_reckons_16 : decode m_MO_reckons.2.1 16 = .ok (.getfield 47, 3) := by decide +kernel
theorem d_MO_reckons_19 : decode m_MO_reckons.2.1 19 = .ok (.iload_n 1, 1) := by decide +kernel
theorem d_MO_reckons_20 : decode m_MO_reckons.2.1 20 = .ok (.iaload, 1) := by decide +kernel
theorem d_MO_reckons_21 : decode m_MO_reckons.2.1 21 = .ok (.istore_n 2, 1) := by decide +kernel
theorem d_MO_reckons_22 : decode m_MO_reckons.2.1 22 = .ok (.iconst 0, 1) := by decide +kernel
theorem d_MO_reckons_23 : decode m_MO_reckons.2.1 23 = .ok (.istore_n 3, 1) := by decide +kernel
theorem d_MO_reckons_24 : decode m_MO_reckons.2.1 24 = .ok (.iload_n 3, 1) := by decide +kernel
theorem d_MO_reckons_25 : decode m_MO_reckons.2.1 25 = .ok (.aload_n 0, 1) := by decide +kernel
theorem d_MO_reckons_26 : decode m_MO_reckons.2.1 26 = .ok (.getfield 71, 3) := by decide +kernel
theorem d_MO_reckons_29 : decode m_MO_reckons.2.1 29 = .ok (.iload_n 2, 1) := by decide +kernel
theorem d_MO_reckons_30 : decode m_MO_reckons.2.1 30 = .ok (.bipush 6, 2) := by decide +kernel
theorem d_MO_reckons_32 : decode m_MO_reckons.2.1 32 = .ok (.idiv, 1) := by decide +kernel
theorem d_MO_reckons_33 : decode m_MO_reckons.2.1 33 = .ok (.iaload, 1) := by decide +kernel
theorem d_MO_reckons_34 : decode m_MO_reckons.2.1 34 = .ok (.if_icmp .ge 37, 3) := by decide +kernel
theorem d_MO_reckons_37 : decode m_MO_reckons.2.1 37 = .ok (.aload_n 0, 1) := by decide +kernel
theorem d_MO_reckons_38 : decode m_MO_reckons.2.1 38 = .ok (.getfield 77, 3) := by decide +kernel
theorem d_MO_reckons_41 : decode m_MO_reckons.2.1 41 = .ok (.bipush 6, 2) := by decide +kernel
theorem d_MO_reckons_43 : decode m_MO_reckons.2.1 43 = .ok (.bipush 30, 2) := by decide +kernel
theorem d_MO_reckons_45 : decode m_MO_reckons.2.1 45 = .ok (.iload_n 2, 1) := by decide +kernel
theorem d_MO_reckons_46 : decode m_MO_reckons.2.1 46 = .ok (.bipush 6, 2) := by decide +kernel
theorem d_MO_reckons_48 : decode m_MO_reckons.2.1 48 = .ok (.idiv, 1) := by decide +kernel
theorem d_MO_reckons_49 : decode m_MO_reckons.2.1 49 = .ok (.imul, 1) := by decide +kernel
theorem d_MO_reckons_50 : decode m_MO_reckons.2.1 50 = .ok (.iload_n 3, 1) := by decide +kernel
theorem d_MO_reckons_51 : decode m_MO_reckons.2.1 51 = .ok (.iadd, 1) := by decide +kernel
theorem d_MO_reckons_52 : decode m_MO_reckons.2.1 52 = .ok (.imul, 1) := by decide +kernel
theorem d_MO_reckons_53 : decode m_MO_reckons.2.1 53 = .ok (.iload_n 2, 1) := by decide +kernel
theorem d_MO_reckons_54 : decode m_MO_reckons.2.1 54 = .ok (.bipush 6, 2) := by decide +kernel
theorem d_MO_reckons_56 : decode m_MO_reckons.2.1 56 = .ok (.irem, 1) := by decide +kernel
theorem d_MO_reckons_57 : decode m_MO_reckons.2.1 57 = .ok (.iadd, 1) := by decide +kernel
theorem d_MO_reckons_58 : decode m_MO_reckons.2.1 58 = .ok (.aload_n 0, 1) := by decide +kernel
theorem d_MO_reckons_59 : decode m_MO_reckons.2.1 59 = .ok (.iload_n 2, 1) := by decide +kernel
theorem d_MO_reckons_60 : decode m_MO_reckons.2.1 60 = .ok (.iload_n 3, 1) := by decide +kernel
theorem d_MO_reckons_61 : decode m_MO_reckons.2.1 61 = .ok (.invokevirtual 248, 3) := by decide +kernel
theorem d_MO_reckons_64 : decode m_MO_reckons.2.1 64 = .ok (.iastore, 1) := by decide +kernel
theorem d_MO_reckons_65 : decode m_MO_reckons.2.1 65 = .ok (.iinc 3 1, 3) := by decide +kernel
theorem d_MO_reckons_68 : decode m_MO_reckons.2.1 68 = .ok (.goto (-44), 3) := by decide +kernel
theorem d_MO_reckons_71 : decode m_MO_reckons.2.1 71 = .ok (.iinc 1 1, 3) := by decide +kernel
theorem d_MO_reckons_74 : decode m_MO_reckons.2.1 74 = .ok (.goto (-67), 3) := by decide +kernel
theorem d_MO_reckons_77 : decode m_MO_reckons.2.1 77 = .ok (.return_, 1) := by decide +kernel
theorem d_MO_remove_0 : decode m_MO_remove.2.1 0 = .ok (.aload_n 0, 1) := by decide +kernel
theorem d_MO_remove_1 : decode m_MO_remove.2.1 1 = .ok (.aload_n 0, 1) := by decide +kernel
theorem d_MO_remove_2 : decode m_MO_remove.2.1 2 = .ok (.iload_n 1, 1) := by decide +kernel
theorem d_MO_remove_3 : decode m_MO_remove.2.1 3 = .ok (.iload_n 2, 1) := by decide +kernel
theorem d_MO_remove_4 : decode m_MO_remove.2.1 4 = .ok (.invokevirtual 233, 3) := by decide +kernel
theorem d_MO_remove_7 : decode m_MO_remove.2.1 7 = .ok (.ifCond .eq 7, 3) := by decide +kernel
theorem d_MO_remove_10 : decode m_MO_remove.2.1 10 = .ok (.iconst 0, 1) := by decide +kernel
theorem d_MO_remove_11 : decode m_MO_remove.2.1 11 = .ok (.goto 4, 3) := by decide +kernel
theorem d_MO_remove_14 : decode m_MO_remove.2.1 14 = .ok (.iconst 1, 1) := by decide +kernel
theorem d_MO_remove_15 : decode m_MO_remove.2.1 15 = .ok (.invokevirtual 292, 3) := by decide +kernel
theorem d_MO_remove_18 : decode m_MO_remove.2.1 18 = .ok (.ifCond .eq 20, 3) := by decide +kernel
theorem d_MO_remove_21 : decode m_MO_remove.2.1 21 = .ok (.aload_n 0, 1) := by decide +kernel
theorem d_MO_remove_22 : decode m_MO_remove.2.1 22 = .ok (.aload_n 0, 1) := by decide +kernel
theorem d_MO_remove_23 : decode m_MO_remove.2.1 23 = .ok (.iload_n 1, 1) := by decide +kernel
theorem d_MO_remove_24 : decode m_MO_remove.2.1 24 = .ok (.iload_n 2, 1) := by decide +kernel
theorem d_MO_remove_25 : decode m_MO_remove.2.1 25 = .ok (.invokevirtual 382, 3) := by decide +kernel
theorem d_MO_remove_28 : decode m_MO_remove.2.1 28 = .ok (.invokevirtual 328, 3) := by decide +kernel
theorem d_MO_remove_31 : decode m_MO_remove.2.1 31 = .ok (.ifCond .eq 7, 3) := by decide +kernel
theorem d_MO_remove_34 : decode m_MO_remove.2.1 34 = .ok (.iconst 1, 1) := by decide +kernel
theorem d_MO_remove_35 : decode m_MO_remove.2.1 35 = .ok (.goto 4, 3) := by decide +kernel
theorem d_MO_remove_38 : decode m_MO_remove.2.1 38 = .ok (.iconst 0, 1) := by decide +kernel
theorem d_MO_remove_39 : decode m_MO_remove.2.1 39 = .ok (.ireturn, 1) := by decide +kernel
theorem d_MO_removesRow_0 : decode m_MO_removesRow.2.1 0 = .ok (.iconst 0, 1) := by decide +kernel
theorem d_MO_removesRow_1 : decode m_MO_removesRow.2.1 1 = .ok (.istore_n 3, 1) := by decide +kernel
theorem d_MO_removesRow_2 : decode m_MO_removesRow.2.1 2 = .ok (.iload_n 3, 1) := by decide +kernel
theorem d_MO_removesRow_3 : decode m_MO_removesRow.2.1 3 = .ok (.bipush 120, 2) := by decide +kernel
theorem d_MO_removesRow_5 : decode m_MO_removesRow.2.1 5 = .ok (.if_icmp .ge 16, 3) := by decide +kernel
theorem d_MO_removesRow_8 : decode m_MO_removesRow.2.1 8 = .ok (.aload_n 0, 1) := by decide +kernel
theorem d_MO_removesRow_9 : decode m_MO_removesRow.2.1 9 = .ok (.getfield 87, 3) := by decide +kernel
theorem d_MO_removesRow_12 : decode m_MO_removesRow.2.1 12 = .ok (.iload_n 3, 1) := by decide +kernel
theorem d_MO_removesRow_13 : decode m_MO_removesRow.2.1 13 = .ok (.iconst 0, 1) := by decide +kernel
theorem d_MO_removesRow_14 : decode m_MO_removesRow.2.1 14 = .ok (.bastore, 1) := by decide +kernel
theorem d_MO_removesRow_15 : decode m_MO_removesRow.2.1 15 = .ok (.iinc 3 1, 3) := by decide +kernel
theorem d_MO_removesRow_18 : decode m_MO_removesRow.2.1 18 = .ok (.goto (-16), 3) := by decide +kernel
theorem d_MO_removesRow_21 : decode m_MO_removesRow.2.1 21 = .ok (.bipush 30, 2) := by decide +kernel
theorem d_MO_removesRow_23 : decode m_MO_removesRow.2.1 23 = .ok (.iload_n 1, 1) := by decide +kernel
theorem d_MO_removesRow_24 : decode m_MO_removesRow.2.1 24 = .ok (.imul, 1) := by decide +kernel
theorem d_MO_removesRow_25 : decode m_MO_removesRow.2.1 25 = .ok (.iload_n 2, 1) := by decide +kernel
theorem d_MO_removesRow_26 : decode m_MO_removesRow.2.1 26 = .ok (.iadd, 1) := by decide +kernel
theorem d_MO_removesRow_27 : decode m_MO_removesRow.2.1 27 = .ok (.istore_n 3, 1) := by decide +kernel
theorem d_MO_removesRow_28 : decode m_MO_removesRow.2.1 28 = .ok (.iload_n 3, 1) := by decide +kernel
theorem d_MO_removesRow_29 : decode m_MO_removesRow.2.1 29 = .ok (.iconst (-1), 1) := by decide +kernel
theorem d_MO_removesRow_30 : decode m_MO_removesRow.2.1 30 = .ok (.if_icmp .eq 18, 3) := by decide +kernel
theorem d_MO_removesRow_33 : decode m_MO_removesRow.2.1 33 = .ok (.aload_n 0, 1) := by decide +kernel
theorem d_MO_removesRow_34 : decode m_MO_removesRow.2.1 34 = .ok (.getfield 87, 3) := by decide +kernel
theorem d_MO_removesRow_37 : decode m_MO_removesRow.2.1 37 = .ok (.iload_n 3, 1) := by decide +kernel
theorem d_MO_removesRow_38 : decode m_MO_removesRow.2.1 38 = .ok (.iconst 1, 1) := by decide +kernel
theorem d_MO_removesRow_39 : decode m_MO_removesRow.2.1 39 = .ok (.bastore, 1) := by decide +kernel
theorem d_MO_removesRow_40 : decode m_MO_removesRow.2.1 40 = .ok (.aload_n 0, 1) := by decide +kernel
theorem d_MO_removesRow_41 : decode m_MO_removesRow.2.1 41 = .ok (.invokevirtual 376, 3) := by decide +kernel
theorem d_MO_removesRow_44 : decode m_MO_removesRow.2.1 44 = .ok (.istore_n 3, 1) := by decide +kernel
theorem d_MO_removesRow_45 : decode m_MO_removesRow.2.1 45 = .ok (.goto (-17), 3) := by decide +kernel
theorem d_MO_removesRow_48 : decode m_MO_removesRow.2.1 48 = .ok (.aload_n 0, 1) := by decide +kernel
theorem d_MO_removesRow_49 : decode m_MO_removesRow.2.1 49 = .ok (.invokevirtual 379, 3) := by decide +kernel
theorem d_MO_removesRow_52 : decode m_MO_removesRow.2.1 52 = .ok (.ifCond .eq 5, 3) := by decide +kernel
theorem d_MO_removesRow_55 : decode m_MO_removesRow.2.1 55 = .ok (.iconst 0, 1) := by decide +kernel
theorem d_MO_removesRow_56 : decode m_MO_removesRow.2.1 56 = .ok (.ireturn, 1) := by decide +kernel
theorem d_MO_removesRow_57 : decode m_MO_removesRow.2.1 57 = .ok (.aload_n 0, 1) := by decide +kernel
theorem d_MO_removesRow_58 : decode m_MO_removesRow.2.1 58 = .ok (.bipush 6, 2) := by decide +kernel
theorem d_MO_removesRow_60 : decode m_MO_removesRow.2.1 60 = .ok (.invokevirtual 322, 3) := by decide +kernel
theorem d_MO_removesRow_63 : decode m_MO_removesRow.2.1 63 = .ok (.iconst 0, 1) := by decide +kernel
theorem d_MO_removesRow_64 : decode m_MO_removesRow.2.1 64 = .ok (.istore 4, 2) := by decide +kernel
theorem d_MO_removesRow_66 : decode m_MO_removesRow.2.1 66 = .ok (.iload 4, 2) := by decide +kernel
theorem d_MO_removesRow_68 : decode m_MO_removesRow.2.1 68 = .ok (.sipush 720, 3) := by decide +kernel
theorem d_MO_removesRow_71 : decode m_MO_removesRow.2.1 71 = .ok (.if_icmp .ge 71, 3) := by decide +kernel
theorem d_MO_removesRow_74 : decode m_MO_removesRow.2.1 74 = .ok (.aload_n 0, 1) := by decide +kernel
theorem d_MO_removesRow_75 : decode m_MO_removesRow.2.1 75 = .ok (.getfield 87, 3) := by decide +kernel
theorem d_MO_removesRow_78 : decode m_MO_removesRow.2.1 78 = .ok (.iload 4, 2) := by decide +kernel
theorem d_MO_removesRow_80 : decode m_MO_removesRow.2.1 80 = .ok (.bipush 6, 2) := by decide +kernel
theorem d_MO_removesRow_82 : decode m_MO_removesRow.2.1 82 = .ok (.idiv, 1) := by decide +kernel
theorem d_MO_removesRow_83 : decode m_MO_removesRow.2.1 83 = .ok (.baload, 1) := by decide +kernel
theorem d_MO_removesRow_84 : decode m_MO_removesRow.2.1 84 = .ok (.ifCond .ne 25, 3) := by decide +kernel
theorem d_MO_removesRow_87 : decode m_MO_removesRow.2.1 87 = .ok (.aload_n 0, 1) := by decide +kernel
theorem d_MO_removesRow_88 : decode m_MO_removesRow.2.1 88 = .ok (.iload 4, 2) := by decide +kernel
theorem d_MO_removesRow_90 : decode m_MO_removesRow.2.1 90 = .ok (.bipush 6, 2) := by decide +kernel
theorem d_MO_removesRow_92 : decode m_MO_removesRow.2.1 92 = .ok (.idiv, 1) := by decide +kernel
theorem d_MO_removesRow_93 : decode m_MO_removesRow.2.1 93 = .ok (.iload 4, 2) := by decide +kernel
theorem d_MO_removesRow_95 : decode m_MO_removesRow.2.1 95 = .ok (.bipush 6, 2) := by decide +kernel
theorem d_MO_removesRow_97 : decode m_MO_removesRow.2.1 97 = .ok (.irem, 1) := by decide +kernel
theorem d_MO_removesRow_98 : decode m_MO_removesRow.2.1 98 = .ok (.iconst 2, 1) := by decide +kernel
theorem d_MO_removesRow_99 : decode m_MO_removesRow.2.1 99 = .ok (.invokevirtual 373, 3) := by decide +kernel
theorem d_MO_removesRow_102 : decode m_MO_removesRow.2.1 102 = .ok (.ifCond .eq 7, 3) := by decide +kernel
theorem d_MO_removesRow_105 : decode m_MO_removesRow.2.1 105 = .ok (.iconst 1, 1) := by decide +kernel
theorem d_MO_removesRow_106 : decode m_MO_removesRow.2.1 106 = .ok (.goto 4, 3) := by decide +kernel
theorem d_MO_removesRow_109 : decode m_MO_removesRow.2.1 109 = .ok (.iconst 0, 1) := by decide +kernel
theorem d_MO_removesRow_110 : decode m_MO_removesRow.2.1 110 = .ok (.istore 5, 2) := by decide +kernel
theorem d_MO_removesRow_112 : decode m_MO_removesRow.2.1 112 = .ok (.aload_n 0, 1) := by decide +kernel
theorem d_MO_removesRow_113 : decode m_MO_removesRow.2.1 113 = .ok (.getfield 77, 3) := by decide +kernel
theorem d_MO_removesRow_116 : decode m_MO_removesRow.2.1 116 = .ok (.iload 4, 2) := by decide +kernel
theorem d_MO_removesRow_118 : decode m_MO_removesRow.2.1 118 = .ok (.iload 5, 2) := by decide +kernel
theorem d_MO_removesRow_120 : decode m_MO_removesRow.2.1 120 = .ok (.ifCond .eq 8, 3) := by decide +kernel
theorem d_MO_removesRow_123 : decode m_MO_removesRow.2.1 123 = .ok (.ldc 186, 2) := by decide +kernel
theorem d_MO_removesRow_125 : decode m_MO_removesRow.2.1 125 = .ok (.goto 10, 3) := by decide +kernel
theorem d_MO_removesRow_128 : decode m_MO_removesRow.2.1 128 = .ok (.aload_n 0, 1) := by decide +kernel
theorem d_MO_removesRow_129 : decode m_MO_removesRow.2.1 129 = .ok (.getfield 77, 3) := by decide +kernel
theorem d_MO_removesRow_132 : decode m_MO_removesRow.2.1 132 = .ok (.iload 4, 2) := by decide +kernel
theorem d_MO_removesRow_134 : decode m_MO_removesRow.2.1 134 = .ok (.iaload, 1) := by decide +kernel
theorem d_MO_removesRow_135 : decode m_MO_removesRow.2.1 135 = .ok (.iastore, 1) := by decide +kernel
theorem d_MO_removesRow_136 : decode m_MO_removesRow.2.1 136 = .ok (.iinc 4 1, 3) := by decide +kernel
theorem d_MO_removesRow_139 : decode m_MO_removesRow.2.1 139 = .ok (.goto (-73), 3) := by decide +kernel
theorem d_MO_removesRow_142 : decode m_MO_removesRow.2.1 142 = .ok (.iconst 0, 1) := by decide +kernel
theorem d_MO_removesRow_143 : decode m_MO_removesRow.2.1 143 = .ok (.istore 4, 2) := by decide +kernel
theorem d_MO_removesRow_145 : decode m_MO_removesRow.2.1 145 = .ok (.iload 4, 2) := by decide +kernel
theorem d_MO_removesRow_147 : decode m_MO_removesRow.2.1 147 = .ok (.bipush 120, 2) := by decide +kernel
theorem d_MO_removesRow_149 : decode m_MO_removesRow.2.1 149 = .ok (.if_icmp .ge 41, 3) := by decide +kernel
theorem d_MO_removesRow_152 : decode m_MO_removesRow.2.1 152 = .ok (.aload_n 0, 1) := by decide +kernel
theorem d_MO_removesRow_153 : decode m_MO_removesRow.2.1 153 = .ok (.getfield 74, 3) := by decide +kernel
theorem d_MO_removesRow_156 : decode m_MO_removesRow.2.1 156 = .ok (.iload 4, 2) := by decide +kernel
theorem d_MO_removesRow_158 : decode m_MO_removesRow.2.1 158 = .ok (.aload_n 0, 1) := by decide +kernel
theorem d_MO_removesRow_159 : decode m_MO_removesRow.2.1 159 = .ok (.getfield 74, 3) := by decide +kernel
theorem d_MO_removesRow_162 : decode m_MO_removesRow.2.1 162 = .ok (.iload 4, 2) := by decide +kernel
theorem d_MO_removesRow_164 : decode m_MO_removesRow.2.1 164 = .ok (.baload, 1) := by decide +kernel
theorem d_MO_removesRow_165 : decode m_MO_removesRow.2.1 165 = .ok (.ifCond .eq 17, 3) := by decide +kernel
theorem d_MO_removesRow_168 : decode m_MO_removesRow.2.1 168 = .ok (.aload_n 0, 1) := by decide +kernel
theorem d_MO_removesRow_169 : decode m_MO_removesRow.2.1 169 = .ok (.getfield 87, 3) := by decide +kernel
theorem d_MO_removesRow_172 : decode m_MO_removesRow.2.1 172 = .ok (.iload 4, 2) := by decide +kernel
theorem d_MO_removesRow_174 : decode m_MO_removesRow.2.1 174 = .ok (.baload, 1) := by decide +kernel
theorem d_MO_removesRow_175 : decode m_MO_removesRow.2.1 175 = .ok (.ifCond .ne 7, 3) := by decide +kernel
theorem d_MO_removesRow_178 : decode m_MO_removesRow.2.1 178 = .ok (.iconst 1, 1) := by decide +kernel
theorem d_MO_removesRow_179 : decode m_MO_removesRow.2.1 179 = .ok (.goto 4, 3) := by decide +kernel
theorem d_MO_removesRow_182 : decode m_MO_removesRow.2.1 182 = .ok (.iconst 0, 1) := by decide +kernel
theorem d_MO_removesRow_183 : decode m_MO_removesRow.2.1 183 = .ok (.bastore, 1) := by decide +kernel
theorem d_MO_removesRow_184 : decode m_MO_removesRow.2.1 184 = .ok (.iinc 4 1, 3) := by decide +kernel
theorem d_MO_removesRow_187 : decode m_MO_removesRow.2.1 187 = .ok (.goto (-42), 3) := by decide +kernel
theorem d_MO_removesRow_190 : decode m_MO_removesRow.2.1 190 = .ok (.aload_n 0, 1) := by decide +kernel
theorem d_MO_removesRow_191 : decode m_MO_removesRow.2.1 191 = .ok (.invokevirtual 325, 3) := by decide +kernel
theorem d_MO_removesRow_194 : decode m_MO_removesRow.2.1 194 = .ok (.ireturn, 1) := by decide +kernel
theorem d_MO_restores_0 : decode m_MO_restores.2.1 0 = .ok (.iconst 0, 1) := by decide +kernel
theorem d_MO_restores_1 : decode m_MO_restores.2.1 1 = .ok (.istore_n 2, 1) := by decide +kernel
theorem d_MO_restores_2 : decode m_MO_restores.2.1 2 = .ok (.iload_n 2, 1) := by decide +kernel
theorem d_MO_restores_3 : decode m_MO_restores.2.1 3 = .ok (.sipush 720, 3) := by decide +kernel
theorem d_MO_restores_6 : decode m_MO_restores.2.1 6 = .ok (.if_icmp .ge 27, 3) := by decide +kernel
theorem d_MO_restores_9 : decode m_MO_restores.2.1 9 = .ok (.aload_n 0, 1) := by decide +kernel
theorem d_MO_restores_10 : decode m_MO_restores.2.1 10 = .ok (.getfield 77, 3) := by decide +kernel
theorem d_MO_restores_13 : decode m_MO_restores.2.1 13 = .ok (.iload_n 2, 1) := by decide +kernel
theorem d_MO_restores_14 : decode m_MO_restores.2.1 14 = .ok (.aload_n 0, 1) := by decide +kernel
theorem d_MO_restores_15 : decode m_MO_restores.2.1 15 = .ok (.getfield 99, 3) := by decide +kernel
theorem d_MO_restores_18 : decode m_MO_restores.2.1 18 = .ok (.sipush 720, 3) := by decide +kernel
theorem d_MO_restores_21 : decode m_MO_restores.2.1 21 = .ok (.iload_n 1, 1) := by decide +kernel
theorem d_MO_restores_22 : decode m_MO_restores.2.1 22 = .ok (.imul, 1) := by decide +kernel
theorem d_MO_restores_23 : decode m_MO_restores.2.1 23 = .ok (.iload_n 2, 1) := by decide +kernel
theorem d_MO_restores_24 : decode m_MO_restores.2.1 24 = .ok (.iadd, 1) := by decide +kernel
theorem d_MO_restores_25 : decode m_MO_restores.2.1 25 = .ok (.iaload, 1) := by decide +kernel
theorem d_MO_restores_26 : decode m_MO_restores.2.1 26 = .ok (.iastore, 1) := by decide +kernel
theorem d_MO_restores_27 : decode m_MO_restores.2.1 27 = .ok (.iinc 2 1, 3) := by decide +kernel
theorem d_MO_restores_30 : decode m_MO_restores.2.1 30 = .ok (.goto (-28), 3) := by decide +kernel
theorem d_MO_restores_33 : decode m_MO_restores.2.1 33 = .ok (.iconst 0, 1) := by decide +kernel
theorem d_MO_restores_34 : decode m_MO_restores.2.1 34 = .ok (.istore_n 2, 1) := by decide +kernel
theorem d_MO_restores_35 : decode m_MO_restores.2.1 35 = .ok (.iload_n 2, 1) := by decide +kernel
theorem d_MO_restores_36 : decode m_MO_restores.2.1 36 = .ok (.bipush 120, 2) := by decide +kernel
theorem d_MO_restores_38 : decode m_MO_restores.2.1 38 = .ok (.if_icmp .ge 26, 3) := by decide +kernel
theorem d_MO_restores_41 : decode m_MO_restores.2.1 41 = .ok (.aload_n 0, 1) := by decide +kernel
theorem d_MO_restores_42 : decode m_MO_restores.2.1 42 = .ok (.getfield 74, 3) := by decide +kernel
theorem d_MO_restores_45 : decode m_MO_restores.2.1 45 = .ok (.iload_n 2, 1) := by decide +kernel
theorem d_MO_restores_46 : decode m_MO_restores.2.1 46 = .ok (.aload_n 0, 1) := by decide +kernel
theorem d_MO_restores_47 : decode m_MO_restores.2.1 47 = .ok (.getfield 102, 3) := by decide +kernel
theorem d_MO_restores_50 : decode m_MO_restores.2.1 50 = .ok (.bipush 120, 2) := by decide +kernel
theorem d_MO_restores_52 : decode m_MO_restores.2.1 52 = .ok (.iload_n 1, 1) := by decide +kernel
theorem d_MO_restores_53 : decode m_MO_restores.2.1 53 = .ok (.imul, 1) := by decide +kernel
theorem d_MO_restores_54 : decode m_MO_restores.2.1 54 = .ok (.iload_n 2, 1) := by decide +kernel
theorem d_MO_restores_55 : decode m_MO_restores.2.1 55 = .ok (.iadd, 1) := by decide +kernel
theorem d_MO_restores_56 : decode m_MO_restores.2.1 56 = .ok (.baload, 1) := by decide +kernel
theorem d_MO_restores_57 : decode m_MO_restores.2.1 57 = .ok (.bastore, 1) := by decide +kernel
theorem d_MO_restores_58 : decode m_MO_restores.2.1 58 = .ok (.iinc 2 1, 3) := by decide +kernel
theorem d_MO_restores_61 : decode m_MO_restores.2.1 61 = .ok (.goto (-26), 3) := by decide +kernel
theorem d_MO_restores_64 : decode m_MO_restores.2.1 64 = .ok (.iconst 0, 1) := by decide +kernel
theorem d_MO_restores_65 : decode m_MO_restores.2.1 65 = .ok (.istore_n 2, 1) := by decide +kernel
theorem d_MO_restores_66 : decode m_MO_restores.2.1 66 = .ok (.iload_n 2, 1) := by decide +kernel
theorem d_MO_restores_67 : decode m_MO_restores.2.1 67 = .ok (.iconst 4, 1) := by decide +kernel
theorem d_MO_restores_68 : decode m_MO_restores.2.1 68 = .ok (.if_icmp .ge 25, 3) := by decide +kernel
theorem d_MO_restores_71 : decode m_MO_restores.2.1 71 = .ok (.aload_n 0, 1) := by decide +kernel
theorem d_MO_restores_72 : decode m_MO_restores.2.1 72 = .ok (.getfield 71, 3) := by decide +kernel
theorem d_MO_restores_75 : decode m_MO_restores.2.1 75 = .ok (.iload_n 2, 1) := by decide +kernel
theorem d_MO_restores_76 : decode m_MO_restores.2.1 76 = .ok (.aload_n 0, 1) := by decide +kernel
theorem d_MO_restores_77 : decode m_MO_restores.2.1 77 = .ok (.getfield 105, 3) := by decide +kernel
theorem d_MO_restores_80 : decode m_MO_restores.2.1 80 = .ok (.iconst 4, 1) := by decide +kernel
theorem d_MO_restores_81 : decode m_MO_restores.2.1 81 = .ok (.iload_n 1, 1) := by decide +kernel
theorem d_MO_restores_82 : decode m_MO_restores.2.1 82 = .ok (.imul, 1) := by decide +kernel
theorem d_MO_restores_83 : decode m_MO_restores.2.1 83 = .ok (.iload_n 2, 1) := by decide +kernel
theorem d_MO_restores_84 : decode m_MO_restores.2.1 84 = .ok (.iadd, 1) := by decide +kernel
theorem d_MO_restores_85 : decode m_MO_restores.2.1 85 = .ok (.iaload, 1) := by decide +kernel
theorem d_MO_restores_86 : decode m_MO_restores.2.1 86 = .ok (.iastore, 1) := by decide +kernel
theorem d_MO_restores_87 : decode m_MO_restores.2.1 87 = .ok (.iinc 2 1, 3) := by decide +kernel
theorem d_MO_restores_90 : decode m_MO_restores.2.1 90 = .ok (.goto (-24), 3) := by decide +kernel
theorem d_MO_restores_93 : decode m_MO_restores.2.1 93 = .ok (.return_, 1) := by decide +kernel
theorem d_MO_rows_0 : decode m_MO_rows.2.1 0 = .ok (.aload_n 0, 1) := by decide +kernel
theorem d_MO_rows_1 : decode m_MO_rows.2.1 1 = .ok (.aload_n 0, 1) := by decide +kernel
theorem d_MO_rows_2 : decode m_MO_rows.2.1 2 = .ok (.iload_n 1, 1) := by decide +kernel
theorem d_MO_rows_3 : decode m_MO_rows.2.1 3 = .ok (.invokevirtual 201, 3) := by decide +kernel
theorem d_MO_rows_6 : decode m_MO_rows.2.1 6 = .ok (.ifCond .eq 7, 3) := by decide +kernel
theorem d_MO_rows_9 : decode m_MO_rows.2.1 9 = .ok (.iconst 0, 1) := by decide +kernel
theorem d_MO_rows_10 : decode m_MO_rows.2.1 10 = .ok (.goto 4, 3) := by decide +kernel
theorem d_MO_rows_13 : decode m_MO_rows.2.1 13 = .ok (.iconst 1, 1) := by decide +kernel
theorem d_MO_rows_14 : decode m_MO_rows.2.1 14 = .ok (.invokevirtual 292, 3) := by decide +kernel
theorem d_MO_rows_17 : decode m_MO_rows.2.1 17 = .ok (.ifCond .eq 12, 3) := by decide +kernel
theorem d_MO_rows_20 : decode m_MO_rows.2.1 20 = .ok (.aload_n 0, 1) := by decide +kernel
theorem d_MO_rows_21 : decode m_MO_rows.2.1 21 = .ok (.getfield 71, 3) := by decide +kernel
theorem d_MO_rows_24 : decode m_MO_rows.2.1 24 = .ok (.iload_n 1, 1) := by decide +kernel
theorem d_MO_rows_25 : decode m_MO_rows.2.1 25 = .ok (.iaload, 1) := by decide +kernel
theorem d_MO_rows_26 : decode m_MO_rows.2.1 26 = .ok (.goto 4, 3) := by decide +kernel
theorem d_MO_rows_29 : decode m_MO_rows.2.1 29 = .ok (.iconst 0, 1) := by decide +kernel
theorem d_MO_rows_30 : decode m_MO_rows.2.1 30 = .ok (.ireturn, 1) := by decide +kernel
theorem d_MO_run_0 : decode m_MO_run.2.1 0 = .ok (.aload_n 0, 1) := by decide +kernel
theorem d_MO_run_1 : decode m_MO_run.2.1 1 = .ok (.aload_n 0, 1) := by decide +kernel
theorem d_MO_run_2 : decode m_MO_run.2.1 2 = .ok (.iload_n 1, 1) := by decide +kernel
theorem d_MO_run_3 : decode m_MO_run.2.1 3 = .ok (.invokevirtual 470, 3) := by decide +kernel
theorem d_MO_run_6 : decode m_MO_run.2.1 6 = .ok (.ifCond .eq 7, 3) := by decide +kernel
theorem d_MO_run_9 : decode m_MO_run.2.1 9 = .ok (.iconst 0, 1) := by decide +kernel
theorem d_MO_run_10 : decode m_MO_run.2.1 10 = .ok (.goto 4, 3) := by decide +kernel
theorem d_MO_run_13 : decode m_MO_run.2.1 13 = .ok (.iconst 1, 1) := by decide +kernel
theorem d_MO_run_14 : decode m_MO_run.2.1 14 = .ok (.invokevirtual 292, 3) := by decide +kernel
theorem d_MO_run_17 : decode m_MO_run.2.1 17 = .ok (.ifCond .ne 5, 3) := by decide +kernel
theorem d_MO_run_20 : decode m_MO_run.2.1 20 = .ok (.iconst 0, 1) := by decide +kernel
theorem d_MO_run_21 : decode m_MO_run.2.1 21 = .ok (.ireturn, 1) := by decide +kernel
theorem d_MO_run_22 : decode m_MO_run.2.1 22 = .ok (.aload_n 0, 1) := by decide +kernel
theorem d_MO_run_23 : decode m_MO_run.2.1 23 = .ok (.aload_n 0, 1) := by decide +kernel
theorem d_MO_run_24 : decode m_MO_run.2.1 24 = .ok (.getfield 289, 3) := by decide +kernel
theorem d_MO_run_27 : decode m_MO_run.2.1 27 = .ok (.invokevirtual 322, 3) := by decide +kernel
theorem d_MO_run_30 : decode m_MO_run.2.1 30 = .ok (.aload_n 0, 1) := by decide +kernel
theorem d_MO_run_31 : decode m_MO_run.2.1 31 = .ok (.iload_n 1, 1) := by decide +kernel
theorem d_MO_run_32 : decode m_MO_run.2.1 32 = .ok (.invokevirtual 500, 3) := by decide +kernel
theorem d_MO_run_35 : decode m_MO_run.2.1 35 = .ok (.ifCond .ne 13, 3) := by decide +kernel
theorem d_MO_run_38 : decode m_MO_run.2.1 38 = .ok (.aload_n 0, 1) := by decide +kernel
theorem d_MO_run_39 : decode m_MO_run.2.1 39 = .ok (.aload_n 0, 1) := by decide +kernel
theorem d_MO_run_40 : decode m_MO_run.2.1 40 = .ok (.getfield 289, 3) := by decide +kernel
theorem d_MO_run_43 : decode m_MO_run.2.1 43 = .ok (.invokevirtual 285, 3) := by decide +kernel
theorem d_MO_run_46 : decode m_MO_run.2.1 46 = .ok (.iconst 0, 1) := by decide +kernel
theorem d_MO_run_47 : decode m_MO_run.2.1 47 = .ok (.ireturn, 1) := by decide +kernel
theorem d_MO_run_48 : decode m_MO_run.2.1 48 = .ok (.aload_n 0, 1) := by decide +kernel
theorem d_MO_run_49 : decode m_MO_run.2.1 49 = .ok (.iconst 0, 1) := by decide +kernel
theorem d_MO_run_50 : decode m_MO_run.2.1 50 = .ok (.iconst (-1), 1) := by decide +kernel
theorem d_MO_run_51 : decode m_MO_run.2.1 51 = .ok (.iconst (-1), 1) := by decide +kernel
theorem d_MO_run_52 : decode m_MO_run.2.1 52 = .ok (.iconst (-1), 1) := by decide +kernel
theorem d_MO_run_53 : decode m_MO_run.2.1 53 = .ok (.invokevirtual 261, 3) := by decide +kernel
theorem d_MO_run_56 : decode m_MO_run.2.1 56 = .ok (.pop, 1) := by decide +kernel
theorem d_MO_run_57 : decode m_MO_run.2.1 57 = .ok (.aload_n 0, 1) := by decide +kernel
theorem d_MO_run_58 : decode m_MO_run.2.1 58 = .ok (.dup, 1) := by decide +kernel
theorem d_MO_run_59 : decode m_MO_run.2.1 59 = .ok (.getfield 289, 3) := by decide +kernel
theorem d_MO_run_62 : decode m_MO_run.2.1 62 = .ok (.iconst 1, 1) := by decide +kernel
theorem d_MO_run_63 : decode m_MO_run.2.1 63 = .ok (.iadd, 1) := by decide +kernel
theorem d_MO_run_64 : decode m_MO_run.2.1 64 = .ok (.putfield 289, 3) := by decide +kernel
theorem d_MO_run_67 : decode m_MO_run.2.1 67 = .ok (.aload_n 0, 1) := by decide +kernel
theorem d_MO_run_68 : decode m_MO_run.2.1 68 = .ok (.getfield 289, 3) := by decide +kernel
theorem d_MO_run_71 : decode m_MO_run.2.1 71 = .ok (.iconst 5, 1) := by decide +kernel
theorem d_MO_run_72 : decode m_MO_run.2.1 72 = .ok (.if_icmp .le 7, 3) := by decide +kernel
theorem d_MO_run_75 : decode m_MO_run.2.1 75 = .ok (.aload_n 0, 1) := by decide +kernel
theorem d_MO_run_76 : decode m_MO_run.2.1 76 = .ok (.invokevirtual 503, 3) := by decide +kernel
theorem d_MO_run_79 : decode m_MO_run.2.1 79 = .ok (.iconst 1, 1) := by decide +kernel
theorem d_MO_run_80 : decode m_MO_run.2.1 80 = .ok (.ireturn, 1) := by decide +kernel
theorem d_MO_saves_0 : decode m_MO_saves.2.1 0 = .ok (.iconst 0, 1) := by decide +kernel
theorem d_MO_saves_1 : decode m_MO_saves.2.1 1 = .ok (.istore_n 2, 1) := by decide +kernel
theorem d_MO_saves_2 : decode m_MO_saves.2.1 2 = .ok (.iload_n 2, 1) := by decide +kernel
theorem d_MO_saves_3 : decode m_MO_saves.2.1 3 = .ok (.sipush 720, 3) := by decide +kernel
theorem d_MO_saves_6 : decode m_MO_saves.2.1 6 = .ok (.if_icmp .ge 27, 3) := by decide +kernel
theorem d_MO_saves_9 : decode m_MO_saves.2.1 9 = .ok (.aload_n 0, 1) := by decide +kernel
theorem d_MO_saves_10 : decode m_MO_saves.2.1 10 = .ok (.getfield 99, 3) := by decide +kernel
theorem d_MO_saves_13 : decode m_MO_saves.2.1 13 = .ok (.sipush 720, 3) := by decide +kernel
theorem d_MO_saves_16 : decode m_MO_saves.2.1 16 = .ok (.iload_n 1, 1) := by decide +kernel
theorem d_MO_saves_17 : decode m_MO_saves.2.1 17 = .ok (.imul, 1) := by decide +kernel
theorem d_MO_saves_18 : decode m_MO_saves.2.1 18 = .ok (.iload_n 2, 1) := by decide +kernel
theorem d_MO_saves_19 : decode m_MO_saves.2.1 19 = .ok (.iadd, 1) := by decide +kernel
theorem d_MO_saves_20 : decode m_MO_saves.2.1 20 = .ok (.aload_n 0, 1) := by decide +kernel
theorem d_MO_saves_21 : decode m_MO_saves.2.1 21 = .ok (.getfield 77, 3) := by decide +kernel
theorem d_MO_saves_24 : decode m_MO_saves.2.1 24 = .ok (.iload_n 2, 1) := by decide +kernel
theorem d_MO_saves_25 : decode m_MO_saves.2.1 25 = .ok (.iaload, 1) := by decide +kernel
theorem d_MO_saves_26 : decode m_MO_saves.2.1 26 = .ok (.iastore, 1) := by decide +kernel
theorem d_MO_saves_27 : decode m_MO_saves.2.1 27 = .ok (.iinc 2 1, 3) := by decide +kernel
theorem d_MO_saves_30 : decode m_MO_saves.2.1 30 = .ok (.goto (-28), 3) := by decide +kernel
theorem d_MO_saves_33 : decode m_MO_saves.2.1 33 = .ok (.iconst 0, 1) := by decide +kernel
theorem d_MO_saves_34 : decode m_MO_saves.2.1 34 = .ok (.istore_n 2, 1) := by decide +kernel
theorem d_MO_saves_35 : decode m_MO_saves.2.1 35 = .ok (.iload_n 2, 1) := by decide +kernel
theorem d_MO_saves_36 : decode m_MO_saves.2.1 36 = .ok (.bipush 120, 2) := by decide +kernel
theorem d_MO_saves_38 : decode m_MO_saves.2.1 38 = .ok (.if_icmp .ge 26, 3) := by decide +kernel
theorem d_MO_saves_41 : decode m_MO_saves.2.1 41 = .ok (.aload_n 0, 1) := by decide +kernel
theorem d_MO_saves_42 : decode m_MO_saves.2.1 42 = .ok (.getfield 102, 3) := by decide +kernel
theorem d_MO_saves_45 : decode m_MO_saves.2.1 45 = .ok (.bipush 120, 2) := by decide +kernel
theorem d_MO_saves_47 : decode m_MO_saves.2.1 47 = .ok (.iload_n 1, 1) := by decide +kernel
theorem d_MO_saves_48 : decode m_MO_saves.2.1 48 = .ok (.imul, 1) := by decide +kernel
theorem d_MO_saves_49 : decode m_MO_saves.2.1 49 = .ok (.iload_n 2, 1) := by decide +kernel
theorem d_MO_saves_50 : decode m_MO_saves.2.1 50 = .ok (.iadd, 1) := by decide +kernel
theorem d_MO_saves_51 : decode m_MO_saves.2.1 51 = .ok (.aload_n 0, 1) := by decide +kernel
theorem d_MO_saves_52 : decode m_MO_saves.2.1 52 = .ok (.getfield 74, 3) := by decide +kernel
theorem d_MO_saves_55 : decode m_MO_saves.2.1 55 = .ok (.iload_n 2, 1) := by decide +kernel
theorem d_MO_saves_56 : decode m_MO_saves.2.1 56 = .ok (.baload, 1) := by decide +kernel
theorem d_MO_saves_57 : decode m_MO_saves.2.1 57 = .ok (.bastore, 1) := by decide +kernel
theorem d_MO_saves_58 : decode m_MO_saves.2.1 58 = .ok (.iinc 2 1, 3) := by decide +kernel
theorem d_MO_saves_61 : decode m_MO_saves.2.1 61 = .ok (.goto (-26), 3) := by decide +kernel
theorem d_MO_saves_64 : decode m_MO_saves.2.1 64 = .ok (.iconst 0, 1) := by decide +kernel
theorem d_MO_saves_65 : decode m_MO_saves.2.1 65 = .ok (.istore_n 2, 1) := by decide +kernel
theorem d_MO_saves_66 : decode m_MO_saves.2.1 66 = .ok (.iload_n 2, 1) := by decide +kernel
theorem d_MO_saves_67 : decode m_MO_saves.2.1 67 = .ok (.iconst 4, 1) := by decide +kernel
theorem d_MO_saves_68 : decode m_MO_saves.2.1 68 = .ok (.if_icmp .ge 25, 3) := by decide +kernel
theorem d_MO_saves_71 : decode m_MO_saves.2.1 71 = .ok (.aload_n 0, 1) := by decide +kernel
theorem d_MO_saves_72 : decode m_MO_saves.2.1 72 = .ok (.getfield 105, 3) := by decide +kernel
theorem d_MO_saves_75 : decode m_MO_saves.2.1 75 = .ok (.iconst 4, 1) := by decide +kernel
theorem d_MO_saves_76 : decode m_MO_saves.2.1 76 = .ok (.iload_n 1, 1) := by decide +kernel
theorem d_MO_saves_77 : decode m_MO_saves.2.1 77 = .ok (.imul, 1) := by decide +kernel
theorem d_MO_saves_78 : decode m_MO_saves.2.1 78 = .ok (.iload_n 2, 1) := by decide +kernel
theorem d_MO_saves_79 : decode m_MO_saves.2.1 79 = .ok (.iadd, 1) := by decide +kernel
theorem d_MO_saves_80 : decode m_MO_saves.2.1 80 = .ok (.aload_n 0, 1) := by decide +kernel
theorem d_MO_saves_81 : decode m_MO_saves.2.1 81 = .ok (.getfield 71, 3) := by decide +kernel
theorem d_MO_saves_84 : decode m_MO_saves.2.1 84 = .ok (.iload_n 2, 1) := by decide +kernel
theorem d_MO_saves_85 : decode m_MO_saves.2.1 85 = .ok (.iaload, 1) := by decide +kernel
theorem d_MO_saves_86 : decode m_MO_saves.2.1 86 = .ok (.iastore, 1) := by decide +kernel
theorem d_MO_saves_87 : decode m_MO_saves.2.1 87 = .ok (.iinc 2 1, 3) := by decide +kernel
theorem d_MO_saves_90 : decode m_MO_saves.2.1 90 = .ok (.goto (-24), 3) := by decide +kernel
theorem d_MO_saves_93 : decode m_MO_saves.2.1 93 = .ok (.return_, 1) := by decide +kernel
theorem d_MO_secondUsed_0 : decode m_MO_secondUsed.2.1 0 = .ok (.aload_n 0, 1) := by decide +kernel
theorem d_MO_secondUsed_1 : decode m_MO_secondUsed.2.1 1 = .ok (.getfield 28, 3) := by decide +kernel
theorem d_MO_secondUsed_4 : decode m_MO_secondUsed.2.1 4 = .ok (.iload_n 1, 1) := by decide +kernel
theorem d_MO_secondUsed_5 : decode m_MO_secondUsed.2.1 5 = .ok (.iaload, 1) := by decide +kernel
theorem d_MO_secondUsed_6 : decode m_MO_secondUsed.2.1 6 = .ok (.iconst 4, 1) := by decide +kernel
theorem d_MO_secondUsed_7 : decode m_MO_secondUsed.2.1 7 = .ok (.if_icmp .ne 5, 3) := by decide +kernel
theorem d_MO_secondUsed_10 : decode m_MO_secondUsed.2.1 10 = .ok (.iconst (-1), 1) := by decide +kernel
theorem d_MO_secondUsed_11 : decode m_MO_secondUsed.2.1 11 = .ok (.ireturn, 1) := by decide +kernel
theorem d_MO_secondUsed_12 : decode m_MO_secondUsed.2.1 12 = .ok (.aload_n 0, 1) := by decide +kernel
theorem d_MO_secondUsed_13 : decode m_MO_secondUsed.2.1 13 = .ok (.getfield 28, 3) := by decide +kernel
theorem d_MO_secondUsed_16 : decode m_MO_secondUsed.2.1 16 = .ok (.iload_n 1, 1) := by decide +kernel
theorem d_MO_secondUsed_17 : decode m_MO_secondUsed.2.1 17 = .ok (.iaload, 1) := by decide +kernel
theorem d_MO_secondUsed_18 : decode m_MO_secondUsed.2.1 18 = .ok (.iconst 3, 1) := by decide +kernel
theorem d_MO_secondUsed_19 : decode m_MO_secondUsed.2.1 19 = .ok (.if_icmp .ne 12, 3) := by decide +kernel
theorem d_MO_secondUsed_22 : decode m_MO_secondUsed.2.1 22 = .ok (.aload_n 0, 1) := by decide +kernel
theorem d_MO_secondUsed_23 : decode m_MO_secondUsed.2.1 23 = .ok (.getfield 37, 3) := by decide +kernel
theorem d_MO_secondUsed_26 : decode m_MO_secondUsed.2.1 26 = .ok (.iload_n 1, 1) := by decide +kernel
theorem d_MO_secondUsed_27 : decode m_MO_secondUsed.2.1 27 = .ok (.iaload, 1) := by decide +kernel
theorem d_MO_secondUsed_28 : decode m_MO_secondUsed.2.1 28 = .ok (.goto 30, 3) := by decide +kernel
theorem d_MO_secondUsed_31 : decode m_MO_secondUsed.2.1 31 = .ok (.aload_n 0, 1) := by decide +kernel
theorem d_MO_secondUsed_32 : decode m_MO_secondUsed.2.1 32 = .ok (.getfield 28, 3) := by decide +kernel
theorem d_MO_secondUsed_35 : decode m_MO_secondUsed.2.1 35 = .ok (.iload_n 1, 1) := by decide +kernel
theorem d_MO_secondUsed_36 : decode m_MO_secondUsed.2.1 36 = .ok (.iaload, 1) := by decide +kernel
theorem d_MO_secondUsed_37 : decode m_MO_secondUsed.2.1 37 = .ok (.iconst 2, 1) := by decide +kernel
theorem d_MO_secondUsed_38 : decode m_MO_secondUsed.2.1 38 = .ok (.if_icmp .ne 16, 3) := by decide +kernel
theorem d_MO_secondUsed_41 : decode m_MO_secondUsed.2.1 41 = .ok (.aload_n 0, 1) := by decide +kernel
theorem d_MO_secondUsed_42 : decode m_MO_secondUsed.2.1 42 = .ok (.getfield 22, 3) := by decide +kernel
theorem d_MO_secondUsed_45 : decode m_MO_secondUsed.2.1 45 = .ok (.aload_n 0, 1) := by decide +kernel
theorem d_MO_secondUsed_46 : decode m_MO_secondUsed.2.1 46 = .ok (.iload_n 1, 1) := by decide +kernel
theorem d_MO_secondUsed_47 : decode m_MO_secondUsed.2.1 47 = .ok (.invokevirtual 208, 3) := by decide +kernel
theorem d_MO_secondUsed_50 : decode m_MO_secondUsed.2.1 50 = .ok (.iaload, 1) := by decide +kernel
theorem d_MO_secondUsed_51 : decode m_MO_secondUsed.2.1 51 = .ok (.goto 7, 3) := by decide +kernel
theorem d_MO_secondUsed_54 : decode m_MO_secondUsed.2.1 54 = .ok (.iload_n 1, 1) := by decide +kernel
theorem d_MO_secondUsed_55 : decode m_MO_secondUsed.2.1 55 = .ok (.bipush 6, 2) := by decide +kernel
theorem d_MO_secondUsed_57 : decode m_MO_secondUsed.2.1 57 = .ok (.idiv, 1) := by decide +kernel
theorem d_MO_secondUsed_58 : decode m_MO_secondUsed.2.1 58 = .ok (.istore_n 2, 1) := by decide +kernel
theorem d_MO_secondUsed_59 : decode m_MO_secondUsed.2.1 59 = .ok (.bipush 6, 2) := by decide +kernel
theorem d_MO_secondUsed_61 : decode m_MO_secondUsed.2.1 61 = .ok (.iload_n 2, 1) := by decide +kernel
theorem d_MO_secondUsed_62 : decode m_MO_secondUsed.2.1 62 = .ok (.imul, 1) := by decide +kernel
theorem d_MO_secondUsed_63 : decode m_MO_secondUsed.2.1 63 = .ok (.aload_n 0, 1) := by decide +kernel
theorem d_MO_secondUsed_64 : decode m_MO_secondUsed.2.1 64 = .ok (.getfield 34, 3) := by decide +kernel
theorem d_MO_secondUsed_67 : decode m_MO_secondUsed.2.1 67 = .ok (.iload_n 1, 1) := by decide +kernel
theorem d_MO_secondUsed_68 : decode m_MO_secondUsed.2.1 68 = .ok (.iaload, 1) := by decide +kernel
theorem d_MO_secondUsed_69 : decode m_MO_secondUsed.2.1 69 = .ok (.iadd, 1) := by decide +kernel
theorem d_MO_secondUsed_70 : decode m_MO_secondUsed.2.1 70 = .ok (.ireturn, 1) := by decide +kernel
theorem d_MO_setRemoval_0 : decode m_MO_setRemoval.2.1 0 = .ok (.aload_n 0, 1) := by decide +kernel
theorem d_MO_setRemoval_1 : decode m_MO_setRemoval.2.1 1 = .ok (.aload_n 0, 1) := by decide +kernel
theorem d_MO_setRemoval_2 : decode m_MO_setRemoval.2.1 2 = .ok (.iload_n 1, 1) := by decide +kernel
theorem d_MO_setRemoval_3 : decode m_MO_setRemoval.2.1 3 = .ok (.iload_n 2, 1) := by decide +kernel
theorem d_MO_setRemoval_4 : decode m_MO_setRemoval.2.1 4 = .ok (.invokevirtual 305, 3) := by decide +kernel
theorem d_MO_setRemoval_7 : decode m_MO_setRemoval.2.1 7 = .ok (.ifCond .ne 7, 3) := by decide +kernel
theorem d_MO_setRemoval_10 : decode m_MO_setRemoval.2.1 10 = .ok (.iconst 1, 1) := by decide +kernel
theorem d_MO_setRemoval_11 : decode m_MO_setRemoval.2.1 11 = .ok (.goto 27, 3) := by decide +kernel
theorem d_MO_setRemoval_14 : decode m_MO_setRemoval.2.1 14 = .ok (.aload_n 0, 1) := by decide +kernel
theorem d_MO_setRemoval_15 : decode m_MO_setRemoval.2.1 15 = .ok (.iload_n 1, 1) := by decide +kernel
theorem d_MO_setRemoval_16 : decode m_MO_setRemoval.2.1 16 = .ok (.iload_n 2, 1) := by decide +kernel
theorem d_MO_setRemoval_17 : decode m_MO_setRemoval.2.1 17 = .ok (.invokevirtual 308, 3) := by decide +kernel
theorem d_MO_setRemoval_20 : decode m_MO_setRemoval.2.1 20 = .ok (.iconst 1, 1) := by decide +kernel
theorem d_MO_setRemoval_21 : decode m_MO_setRemoval.2.1 21 = .ok (.if_icmp .ne 16, 3) := by decide +kernel
theorem d_MO_setRemoval_24 : decode m_MO_setRemoval.2.1 24 = .ok (.iload_n 3, 1) := by decide +kernel
theorem d_MO_setRemoval_25 : decode m_MO_setRemoval.2.1 25 = .ok (.iconst 0, 1) := by decide +kernel
theorem d_MO_setRemoval_26 : decode m_MO_setRemoval.2.1 26 = .ok (.iconst 2, 1) := by decide +kernel
theorem d_MO_setRemoval_27 : decode m_MO_setRemoval.2.1 27 = .ok (.invokestatic 190, 3) := by decide +kernel
theorem d_MO_setRemoval_30 : decode m_MO_setRemoval.2.1 30 = .ok (.ifCond .eq 7, 3) := by decide +kernel
theorem d_MO_setRemoval_33 : decode m_MO_setRemoval.2.1 33 = .ok (.iconst 0, 1) := by decide +kernel
theorem d_MO_setRemoval_34 : decode m_MO_setRemoval.2.1 34 = .ok (.goto 4, 3) := by decide +kernel
theorem d_MO_setRemoval_37 : decode m_MO_setRemoval.2.1 37 = .ok (.iconst 2, 1) := by decide +kernel
theorem d_MO_setRemoval_38 : decode m_MO_setRemoval.2.1 38 = .ok (.invokevirtual 292, 3) := by decide +kernel
theorem d_MO_setRemoval_41 : decode m_MO_setRemoval.2.1 41 = .ok (.ifCond .ne 5, 3) := by decide +kernel
theorem d_MO_setRemoval_44 : decode m_MO_setRemoval.2.1 44 = .ok (.iconst 0, 1) := by decide +kernel
theorem d_MO_setRemoval_45 : decode m_MO_setRemoval.2.1 45 = .ok (.ireturn, 1) := by decide +kernel
theorem d_MO_setRemoval_46 : decode m_MO_setRemoval.2.1 46 = .ok (.aload_n 0, 1) := by decide +kernel
theorem d_MO_setRemoval_47 : decode m_MO_setRemoval.2.1 47 = .ok (.getfield 25, 3) := by decide +kernel
theorem d_MO_setRemoval_50 : decode m_MO_setRemoval.2.1 50 = .ok (.bipush 6, 2) := by decide +kernel
theorem d_MO_setRemoval_52 : decode m_MO_setRemoval.2.1 52 = .ok (.iload_n 1, 1) := by decide +kernel
theorem d_MO_setRemoval_53 : decode m_MO_setRemoval.2.1 53 = .ok (.imul, 1) := by decide +kernel
theorem d_MO_setRemoval_54 : decode m_MO_setRemoval.2.1 54 = .ok (.iload_n 2, 1) := by decide +kernel
theorem d_MO_setRemoval_55 : decode m_MO_setRemoval.2.1 55 = .ok (.iadd, 1) := by decide +kernel
theorem d_MO_setRemoval_56 : decode m_MO_setRemoval.2.1 56 = .ok (.iaload, 1) := by decide +kernel
theorem d_MO_setRemoval_57 : decode m_MO_setRemoval.2.1 57 = .ok (.istore 4, 2) := by decide +kernel
theorem d_MO_setRemoval_59 : decode m_MO_setRemoval.2.1 59 = .ok (.aload_n 0, 1) := by decide +kernel
theorem d_MO_setRemoval_60 : decode m_MO_setRemoval.2.1 60 = .ok (.getfield 25, 3) := by decide +kernel
theorem d_MO_setRemoval_63 : decode m_MO_setRemoval.2.1 63 = .ok (.bipush 6, 2) := by decide +kernel
theorem d_MO_setRemoval_65 : decode m_MO_setRemoval.2.1 65 = .ok (.iload_n 1, 1) := by decide +kernel
theorem d_MO_setRemoval_66 : decode m_MO_setRemoval.2.1 66 = .ok (.imul, 1) := by decide +kernel
theorem d_MO_setRemoval_67 : decode m_MO_setRemoval.2.1 67 = .ok (.iload_n 2, 1) := by decide +kernel
theorem d_MO_setRemoval_68 : decode m_MO_setRemoval.2.1 68 = .ok (.iadd, 1) := by decide +kernel
theorem d_MO_setRemoval_69 : decode m_MO_setRemoval.2.1 69 = .ok (.iload_n 3, 1) := by decide +kernel
theorem d_MO_setRemoval_70 : decode m_MO_setRemoval.2.1 70 = .ok (.iastore, 1) := by decide +kernel
theorem d_MO_setRemoval_71 : decode m_MO_setRemoval.2.1 71 = .ok (.aload_n 0, 1) := by decide +kernel
theorem d_MO_setRemoval_72 : decode m_MO_setRemoval.2.1 72 = .ok (.iconst 0, 1) := by decide +kernel
theorem d_MO_setRemoval_73 : decode m_MO_setRemoval.2.1 73 = .ok (.putfield 289, 3) := by decide +kernel
theorem d_MO_setRemoval_76 : decode m_MO_setRemoval.2.1 76 = .ok (.iload 4, 2) := by decide +kernel
theorem d_MO_setRemoval_78 : decode m_MO_setRemoval.2.1 78 = .ok (.ireturn, 1) := by decide +kernel
theorem d_MO_single_0 : decode m_MO_single.2.1 0 = .ok (.aload_n 0, 1) := by decide +kernel
theorem d_MO_single_1 : decode m_MO_single.2.1 1 = .ok (.aload_n 0, 1) := by decide +kernel
theorem d_MO_single_2 : decode m_MO_single.2.1 2 = .ok (.iload_n 1, 1) := by decide +kernel
theorem d_MO_single_3 : decode m_MO_single.2.1 3 = .ok (.iload_n 2, 1) := by decide +kernel
theorem d_MO_single_4 : decode m_MO_single.2.1 4 = .ok (.invokevirtual 332, 3) := by decide +kernel
theorem d_MO_single_7 : decode m_MO_single.2.1 7 = .ok (.invokevirtual 292, 3) := by decide +kernel
theorem d_MO_single_10 : decode m_MO_single.2.1 10 = .ok (.ifCond .ne 5, 3) := by decide +kernel
theorem d_MO_single_13 : decode m_MO_single.2.1 13 = .ok (.iconst 0, 1) := by decide +kernel
theorem d_MO_single_14 : decode m_MO_single.2.1 14 = .ok (.ireturn, 1) := by decide +kernel
theorem d_MO_single_15 : decode m_MO_single.2.1 15 = .ok (.bipush 6, 2) := by decide +kernel
theorem d_MO_single_17 : decode m_MO_single.2.1 17 = .ok (.iload_n 1, 1) := by decide +kernel
theorem d_MO_single_18 : decode m_MO_single.2.1 18 = .ok (.imul, 1) := by decide +kernel
theorem d_MO_single_19 : decode m_MO_single.2.1 19 = .ok (.iload_n 2, 1) := by decide +kernel
theorem d_MO_single_20 : decode m_MO_single.2.1 20 = .ok (.iadd, 1) := by decide +kernel
theorem d_MO_single_21 : decode m_MO_single.2.1 21 = .ok (.istore 4, 2) := by decide +kernel
theorem d_MO_single_23 : decode m_MO_single.2.1 23 = .ok (.aload_n 0, 1) := by decide +kernel
theorem d_MO_single_24 : decode m_MO_single.2.1 24 = .ok (.getfield 44, 3) := by decide +kernel
theorem d_MO_single_27 : decode m_MO_single.2.1 27 = .ok (.iload 4, 2) := by decide +kernel
theorem d_MO_single_29 : decode m_MO_single.2.1 29 = .ok (.baload, 1) := by decide +kernel
theorem d_MO_single_30 : decode m_MO_single.2.1 30 = .ok (.istore 5, 2) := by decide +kernel
theorem d_MO_single_32 : decode m_MO_single.2.1 32 = .ok (.aload_n 0, 1) := by decide +kernel
theorem d_MO_single_33 : decode m_MO_single.2.1 33 = .ok (.bipush 6, 2) := by decide +kernel
theorem d_MO_single_35 : decode m_MO_single.2.1 35 = .ok (.invokevirtual 322, 3) := by decide +kernel
theorem d_MO_single_38 : decode m_MO_single.2.1 38 = .ok (.aload_n 0, 1) := by decide +kernel
theorem d_MO_single_39 : decode m_MO_single.2.1 39 = .ok (.getfield 44, 3) := by decide +kernel
theorem d_MO_single_42 : decode m_MO_single.2.1 42 = .ok (.iload 4, 2) := by decide +kernel
theorem d_MO_single_44 : decode m_MO_single.2.1 44 = .ok (.iload_n 3, 1) := by decide +kernel
theorem d_MO_single_45 : decode m_MO_single.2.1 45 = .ok (.bastore, 1) := by decide +kernel
theorem d_MO_single_46 : decode m_MO_single.2.1 46 = .ok (.aload_n 0, 1) := by decide +kernel
theorem d_MO_single_47 : decode m_MO_single.2.1 47 = .ok (.invokevirtual 325, 3) := by decide +kernel
theorem d_MO_single_50 : decode m_MO_single.2.1 50 = .ok (.istore 6, 2) := by decide +kernel
theorem d_MO_single_52 : decode m_MO_single.2.1 52 = .ok (.aload_n 0, 1) := by decide +kernel
theorem d_MO_single_53 : decode m_MO_single.2.1 53 = .ok (.getfield 44, 3) := by decide +kernel
theorem d_MO_single_56 : decode m_MO_single.2.1 56 = .ok (.iload 4, 2) := by decide +kernel
theorem d_MO_single_58 : decode m_MO_single.2.1 58 = .ok (.iload 6, 2) := by decide +kernel
theorem d_MO_single_60 : decode m_MO_single.2.1 60 = .ok (.ifCond .eq 7, 3) := by decide +kernel
theorem d_MO_single_63 : decode m_MO_single.2.1 63 = .ok (.iload_n 3, 1) := by decide +kernel
theorem d_MO_single_64 : decode m_MO_single.2.1 64 = .ok (.goto 5, 3) := by decide +kernel
theorem d_MO_single_67 : decode m_MO_single.2.1 67 = .ok (.iload 5, 2) := by decide +kernel
theorem d_MO_single_69 : decode m_MO_single.2.1 69 = .ok (.bastore, 1) := by decide +kernel
theorem d_MO_single_70 : decode m_MO_single.2.1 70 = .ok (.aload_n 0, 1) := by decide +kernel
theorem d_MO_single_71 : decode m_MO_single.2.1 71 = .ok (.iload 6, 2) := by decide +kernel
theorem d_MO_single_73 : decode m_MO_single.2.1 73 = .ok (.invokevirtual 328, 3) := by decide +kernel
theorem d_MO_single_76 : decode m_MO_single.2.1 76 = .ok (.ireturn, 1) := by decide +kernel
theorem d_MO_slotOf_0 : decode m_MO_slotOf.2.1 0 = .ok (.iload_n 0, 1) := by decide +kernel
theorem d_MO_slotOf_1 : decode m_MO_slotOf.2.1 1 = .ok (.bipush 10, 2) := by decide +kernel
theorem d_MO_slotOf_3 : decode m_MO_slotOf.2.1 3 = .ok (.if_icmp .ge 10, 3) := by decide +kernel
theorem d_MO_slotOf_6 : decode m_MO_slotOf.2.1 6 = .ok (.bipush 8, 2) := by decide +kernel
theorem d_MO_slotOf_8 : decode m_MO_slotOf.2.1 8 = .ok (.iload_n 0, 1) := by decide +kernel
theorem d_MO_slotOf_9 : decode m_MO_slotOf.2.1 9 = .ok (.iadd, 1) := by decide +kernel
theorem d_MO_slotOf_10 : decode m_MO_slotOf.2.1 10 = .ok (.goto 7, 3) := by decide +kernel
theorem d_MO_slotOf_13 : decode m_MO_slotOf.2.1 13 = .ok (.iload_n 0, 1) := by decide +kernel
theorem d_MO_slotOf_14 : decode m_MO_slotOf.2.1 14 = .ok (.bipush 10, 2) := by decide +kernel
theorem d_MO_slotOf_16 : decode m_MO_slotOf.2.1 16 = .ok (.isub, 1) := by decide +kernel
theorem d_MO_slotOf_17 : decode m_MO_slotOf.2.1 17 = .ok (.ireturn, 1) := by decide +kernel
theorem d_MO_stepAdd_0 : decode m_MO_stepAdd.2.1 0 = .ok (.aload_n 0, 1) := by decide +kernel
theorem d_MO_stepAdd_1 : decode m_MO_stepAdd.2.1 1 = .ok (.aload_n 0, 1) := by decide +kernel
theorem d_MO_stepAdd_2 : decode m_MO_stepAdd.2.1 2 = .ok (.iload_n 1, 1) := by decide +kernel
theorem d_MO_stepAdd_3 : decode m_MO_stepAdd.2.1 3 = .ok (.invokevirtual 470, 3) := by decide +kernel
theorem d_MO_stepAdd_6 : decode m_MO_stepAdd.2.1 6 = .ok (.ifCond .eq 11, 3) := by decide +kernel
theorem d_MO_stepAdd_9 : decode m_MO_stepAdd.2.1 9 = .ok (.aload_n 0, 1) := by decide +kernel
theorem d_MO_stepAdd_10 : decode m_MO_stepAdd.2.1 10 = .ok (.iload_n 2, 1) := by decide +kernel
theorem d_MO_stepAdd_11 : decode m_MO_stepAdd.2.1 11 = .ok (.invokevirtual 201, 3) := by decide +kernel
theorem d_MO_stepAdd_14 : decode m_MO_stepAdd.2.1 14 = .ok (.ifCond .ne 7, 3) := by decide +kernel
theorem d_MO_stepAdd_17 : decode m_MO_stepAdd.2.1 17 = .ok (.iconst 1, 1) := by decide +kernel
theorem d_MO_stepAdd_18 : decode m_MO_stepAdd.2.1 18 = .ok (.goto 19, 3) := by decide +kernel
theorem d_MO_stepAdd_21 : decode m_MO_stepAdd.2.1 21 = .ok (.aload_n 0, 1) := by decide +kernel
theorem d_MO_stepAdd_22 : decode m_MO_stepAdd.2.1 22 = .ok (.getfield 165, 3) := by decide +kernel
theorem d_MO_stepAdd_25 : decode m_MO_stepAdd.2.1 25 = .ok (.iload_n 1, 1) := by decide +kernel
theorem d_MO_stepAdd_26 : decode m_MO_stepAdd.2.1 26 = .ok (.iaload, 1) := by decide +kernel
theorem d_MO_stepAdd_27 : decode m_MO_stepAdd.2.1 27 = .ok (.bipush 6, 2) := by decide +kernel
theorem d_MO_stepAdd_29 : decode m_MO_stepAdd.2.1 29 = .ok (.if_icmp .ne 7, 3) := by decide +kernel
theorem d_MO_stepAdd_32 : decode m_MO_stepAdd.2.1 32 = .ok (.iconst 2, 1) := by decide +kernel
theorem d_MO_stepAdd_33 : decode m_MO_stepAdd.2.1 33 = .ok (.goto 4, 3) := by decide +kernel
theorem d_MO_stepAdd_36 : decode m_MO_stepAdd.2.1 36 = .ok (.iconst 0, 1) := by decide +kernel
theorem d_MO_stepAdd_37 : decode m_MO_stepAdd.2.1 37 = .ok (.invokevirtual 292, 3) := by decide +kernel
theorem d_MO_stepAdd_40 : decode m_MO_stepAdd.2.1 40 = .ok (.ifCond .eq 15, 3) := by decide +kernel
theorem d_MO_stepAdd_43 : decode m_MO_stepAdd.2.1 43 = .ok (.aload_n 0, 1) := by decide +kernel
theorem d_MO_stepAdd_44 : decode m_MO_stepAdd.2.1 44 = .ok (.iload_n 1, 1) := by decide +kernel
theorem d_MO_stepAdd_45 : decode m_MO_stepAdd.2.1 45 = .ok (.iconst 1, 1) := by decide +kernel
theorem d_MO_stepAdd_46 : decode m_MO_stepAdd.2.1 46 = .ok (.iload_n 2, 1) := by decide +kernel
theorem d_MO_stepAdd_47 : decode m_MO_stepAdd.2.1 47 = .ok (.iconst 0, 1) := by decide +kernel
theorem d_MO_stepAdd_48 : decode m_MO_stepAdd.2.1 48 = .ok (.iconst 0, 1) := by decide +kernel
theorem d_MO_stepAdd_49 : decode m_MO_stepAdd.2.1 49 = .ok (.invokevirtual 476, 3) := by decide +kernel
theorem d_MO_stepAdd_52 : decode m_MO_stepAdd.2.1 52 = .ok (.goto 4, 3) := by decide +kernel
theorem d_MO_stepAdd_55 : decode m_MO_stepAdd.2.1 55 = .ok (.iconst 0, 1) := by decide +kernel
theorem d_MO_stepAdd_56 : decode m_MO_stepAdd.2.1 56 = .ok (.ireturn, 1) := by decide +kernel
theorem d_MO_stepIf_0 : decode m_MO_stepIf.2.1 0 = .ok (.aload_n 0, 1) := by decide +kernel
theorem d_MO_stepIf_1 : decode m_MO_stepIf.2.1 1 = .ok (.iload_n 1, 1) := by decide +kernel
theorem d_MO_stepIf_2 : decode m_MO_stepIf.2.1 2 = .ok (.invokevirtual 470, 3) := by decide +kernel
theorem d_MO_stepIf_5 : decode m_MO_stepIf.2.1 5 = .ok (.ifCond .eq 15, 3) := by decide +kernel
theorem d_MO_stepIf_8 : decode m_MO_stepIf.2.1 8 = .ok (.aload_n 0, 1) := by decide +kernel
theorem d_MO_stepIf_9 : decode m_MO_stepIf.2.1 9 = .ok (.iload_n 2, 1) := by decide +kernel
theorem d_MO_stepIf_10 : decode m_MO_stepIf.2.1 10 = .ok (.invokevirtual 426, 3) := by decide +kernel
theorem d_MO_stepIf_13 : decode m_MO_stepIf.2.1 13 = .ok (.ifCond .eq 7, 3) := by decide +kernel
theorem d_MO_stepIf_16 : decode m_MO_stepIf.2.1 16 = .ok (.iconst 1, 1) := by decide +kernel
theorem d_MO_stepIf_17 : decode m_MO_stepIf.2.1 17 = .ok (.goto 4, 3) := by decide +kernel
theorem d_MO_stepIf_20 : decode m_MO_stepIf.2.1 20 = .ok (.iconst 0, 1) := by decide +kernel
theorem d_MO_stepIf_21 : decode m_MO_stepIf.2.1 21 = .ok (.istore 4, 2) := by decide +kernel
theorem d_MO_stepIf_23 : decode m_MO_stepIf.2.1 23 = .ok (.aload_n 0, 1) := by decide +kernel
theorem d_MO_stepIf_24 : decode m_MO_stepIf.2.1 24 = .ok (.iload 4, 2) := by decide +kernel
theorem d_MO_stepIf_26 : decode m_MO_stepIf.2.1 26 = .ok (.ifCond .ne 7, 3) := by decide +kernel
theorem d_MO_stepIf_29 : decode m_MO_stepIf.2.1 29 = .ok (.iconst 1, 1) := by decide +kernel
theorem d_MO_stepIf_30 : decode m_MO_stepIf.2.1 30 = .ok (.goto 32, 3) := by decide +kernel
theorem d_MO_stepIf_33 : decode m_MO_stepIf.2.1 33 = .ok (.iload_n 3, 1) := by decide +kernel
theorem d_MO_stepIf_34 : decode m_MO_stepIf.2.1 34 = .ok (.iconst 1, 1) := by decide +kernel
theorem d_MO_stepIf_35 : decode m_MO_stepIf.2.1 35 = .ok (.iconst 5, 1) := by decide +kernel
theorem d_MO_stepIf_36 : decode m_MO_stepIf.2.1 36 = .ok (.invokestatic 190, 3) := by decide +kernel
theorem d_MO_stepIf_39 : decode m_MO_stepIf.2.1 39 = .ok (.ifCond .ne 7, 3) := by decide +kernel
theorem d_MO_stepIf_42 : decode m_MO_stepIf.2.1 42 = .ok (.iconst 2, 1) := by decide +kernel
theorem d_MO_stepIf_43 : decode m_MO_stepIf.2.1 43 = .ok (.goto 19, 3) := by decide +kernel
theorem d_MO_stepIf_46 : decode m_MO_stepIf.2.1 46 = .ok (.aload_n 0, 1) := by decide +kernel
theorem d_MO_stepIf_47 : decode m_MO_stepIf.2.1 47 = .ok (.getfield 165, 3) := by decide +kernel
theorem d_MO_stepIf_50 : decode m_MO_stepIf.2.1 50 = .ok (.iload_n 1, 1) := by decide +kernel
theorem d_MO_stepIf_51 : decode m_MO_stepIf.2.1 51 = .ok (.iaload, 1) := by decide +kernel
theorem d_MO_stepIf_52 : decode m_MO_stepIf.2.1 52 = .ok (.bipush 6, 2) := by decide +kernel
theorem d_MO_stepIf_54 : decode m_MO_stepIf.2.1 54 = .ok (.if_icmp .ne 7, 3) := by decide +kernel
theorem d_MO_stepIf_57 : decode m_MO_stepIf.2.1 57 = .ok (.iconst 3, 1) := by decide +kernel
theorem d_MO_stepIf_58 : decode m_MO_stepIf.2.1 58 = .ok (.goto 4, 3) := by decide +kernel
theorem d_MO_stepIf_61 : decode m_MO_stepIf.2.1 61 = .ok (.iconst 0, 1) := by decide +kernel
theorem d_MO_stepIf_62 : decode m_MO_stepIf.2.1 62 = .ok (.invokevirtual 292, 3) := by decide +kernel
theorem d_MO_stepIf_65 : decode m_MO_stepIf.2.1 65 = .ok (.ifCond .eq 15, 3) := by decide +kernel
theorem d_MO_stepIf_68 : decode m_MO_stepIf.2.1 68 = .ok (.aload_n 0, 1) := by decide +kernel
theorem d_MO_stepIf_69 : decode m_MO_stepIf.2.1 69 = .ok (.iload_n 1, 1) := by decide +kernel
theorem d_MO_stepIf_70 : decode m_MO_stepIf.2.1 70 = .ok (.iconst 3, 1) := by decide +kernel
theorem d_MO_stepIf_71 : decode m_MO_stepIf.2.1 71 = .ok (.iload_n 2, 1) := by decide +kernel
theorem d_MO_stepIf_72 : decode m_MO_stepIf.2.1 72 = .ok (.iconst 0, 1) := by decide +kernel
theorem d_MO_stepIf_73 : decode m_MO_stepIf.2.1 73 = .ok (.iload_n 3, 1) := by decide +kernel
theorem d_MO_stepIf_74 : decode m_MO_stepIf.2.1 74 = .ok (.invokevirtual 476, 3) := by decide +kernel
theorem d_MO_stepIf_77 : decode m_MO_stepIf.2.1 77 = .ok (.goto 4, 3) := by decide +kernel
theorem d_MO_stepIf_80 : decode m_MO_stepIf.2.1 80 = .ok (.iconst 0, 1) := by decide +kernel
theorem d_MO_stepIf_81 : decode m_MO_stepIf.2.1 81 = .ok (.ireturn, 1) := by decide +kernel
theorem d_MO_stepPut_0 : decode m_MO_stepPut.2.1 0 = .ok (.aload_n 0, 1) := by decide +kernel
theorem d_MO_stepPut_1 : decode m_MO_stepPut.2.1 1 = .ok (.aload_n 0, 1) := by decide +kernel
theorem d_MO_stepPut_2 : decode m_MO_stepPut.2.1 2 = .ok (.iload_n 1, 1) := by decide +kernel
theorem d_MO_stepPut_3 : decode m_MO_stepPut.2.1 3 = .ok (.iload_n 2, 1) := by decide +kernel
theorem d_MO_stepPut_4 : decode m_MO_stepPut.2.1 4 = .ok (.iload_n 3, 1) := by decide +kernel
theorem d_MO_stepPut_5 : decode m_MO_stepPut.2.1 5 = .ok (.iload 4, 2) := by decide +kernel
theorem d_MO_stepPut_7 : decode m_MO_stepPut.2.1 7 = .ok (.invokevirtual 473, 3) := by decide +kernel
theorem d_MO_stepPut_10 : decode m_MO_stepPut.2.1 10 = .ok (.invokevirtual 292, 3) := by decide +kernel
theorem d_MO_stepPut_13 : decode m_MO_stepPut.2.1 13 = .ok (.ifCond .eq 16, 3) := by decide +kernel
theorem d_MO_stepPut_16 : decode m_MO_stepPut.2.1 16 = .ok (.aload_n 0, 1) := by decide +kernel
theorem d_MO_stepPut_17 : decode m_MO_stepPut.2.1 17 = .ok (.iload_n 1, 1) := by decide +kernel
theorem d_MO_stepPut_18 : decode m_MO_stepPut.2.1 18 = .ok (.iconst 0, 1) := by decide +kernel
theorem d_MO_stepPut_19 : decode m_MO_stepPut.2.1 19 = .ok (.iload_n 2, 1) := by decide +kernel
theorem d_MO_stepPut_20 : decode m_MO_stepPut.2.1 20 = .ok (.iload_n 3, 1) := by decide +kernel
theorem d_MO_stepPut_21 : decode m_MO_stepPut.2.1 21 = .ok (.iload 4, 2) := by decide +kernel
theorem d_MO_stepPut_23 : decode m_MO_stepPut.2.1 23 = .ok (.invokevirtual 476, 3) := by decide +kernel
theorem d_MO_stepPut_26 : decode m_MO_stepPut.2.1 26 = .ok (.goto 4, 3) := by decide +kernel
theorem d_MO_stepPut_29 : decode m_MO_stepPut.2.1 29 = .ok (.iconst 0, 1) := by decide +kernel
theorem d_MO_stepPut_30 : decode m_MO_stepPut.2.1 30 = .ok (.ireturn, 1) := by decide +kernel
theorem d_MO_stepRemove_0 : decode m_MO_stepRemove.2.1 0 = .ok (.aload_n 0, 1) := by decide +kernel
theorem d_MO_stepRemove_1 : decode m_MO_stepRemove.2.1 1 = .ok (.aload_n 0, 1) := by decide +kernel
theorem d_MO_stepRemove_2 : decode m_MO_stepRemove.2.1 2 = .ok (.iload_n 1, 1) := by decide +kernel
theorem d_MO_stepRemove_3 : decode m_MO_stepRemove.2.1 3 = .ok (.iload_n 2, 1) := by decide +kernel
theorem d_MO_stepRemove_4 : decode m_MO_stepRemove.2.1 4 = .ok (.iload_n 3, 1) := by decide +kernel
theorem d_MO_stepRemove_5 : decode m_MO_stepRemove.2.1 5 = .ok (.iconst 0, 1) := by decide +kernel
theorem d_MO_stepRemove_6 : decode m_MO_stepRemove.2.1 6 = .ok (.invokevirtual 473, 3) := by decide +kernel
theorem d_MO_stepRemove_9 : decode m_MO_stepRemove.2.1 9 = .ok (.invokevirtual 292, 3) := by decide +kernel
theorem d_MO_stepRemove_12 : decode m_MO_stepRemove.2.1 12 = .ok (.ifCond .eq 15, 3) := by decide +kernel
theorem d_MO_stepRemove_15 : decode m_MO_stepRemove.2.1 15 = .ok (.aload_n 0, 1) := by decide +kernel
theorem d_MO_stepRemove_16 : decode m_MO_stepRemove.2.1 16 = .ok (.iload_n 1, 1) := by decide +kernel
theorem d_MO_stepRemove_17 : decode m_MO_stepRemove.2.1 17 = .ok (.iconst 2, 1) := by decide +kernel
theorem d_MO_stepRemove_18 : decode m_MO_stepRemove.2.1 18 = .ok (.iload_n 2, 1) := by decide +kernel
theorem d_MO_stepRemove_19 : decode m_MO_stepRemove.2.1 19 = .ok (.iload_n 3, 1) := by decide +kernel
theorem d_MO_stepRemove_20 : decode m_MO_stepRemove.2.1 20 = .ok (.iconst 0, 1) := by decide +kernel
theorem d_MO_stepRemove_21 : decode m_MO_stepRemove.2.1 21 = .ok (.invokevirtual 476, 3) := by decide +kernel
theorem d_MO_stepRemove_24 : decode m_MO_stepRemove.2.1 24 = .ok (.goto 4, 3) := by decide +kernel
theorem d_MO_stepRemove_27 : decode m_MO_stepRemove.2.1 27 = .ok (.iconst 0, 1) := by decide +kernel
theorem d_MO_stepRemove_28 : decode m_MO_stepRemove.2.1 28 = .ok (.ireturn, 1) := by decide +kernel
theorem d_MO_sumOf_0 : decode m_MO_sumOf.2.1 0 = .ok (.iconst 0, 1) := by decide +kernel
theorem d_MO_sumOf_1 : decode m_MO_sumOf.2.1 1 = .ok (.istore 5, 2) := by decide +kernel
theorem d_MO_sumOf_3 : decode m_MO_sumOf.2.1 3 = .ok (.iconst 0, 1) := by decide +kernel
theorem d_MO_sumOf_4 : decode m_MO_sumOf.2.1 4 = .ok (.istore 6, 2) := by decide +kernel
theorem d_MO_sumOf_6 : decode m_MO_sumOf.2.1 6 = .ok (.iconst 0, 1) := by decide +kernel
theorem d_MO_sumOf_7 : decode m_MO_sumOf.2.1 7 = .ok (.istore 7, 2) := by decide +kernel
theorem d_MO_sumOf_9 : decode m_MO_sumOf.2.1 9 = .ok (.iload 7, 2) := by decide +kernel
theorem d_MO_sumOf_11 : decode m_MO_sumOf.2.1 11 = .ok (.aload_n 0, 1) := by decide +kernel
theorem d_MO_sumOf_12 : decode m_MO_sumOf.2.1 12 = .ok (.getfield 144, 3) := by decide +kernel
theorem d_MO_sumOf_15 : decode m_MO_sumOf.2.1 15 = .ok (.iload_n 2, 1) := by decide +kernel
theorem d_MO_sumOf_16 : decode m_MO_sumOf.2.1 16 = .ok (.iaload, 1) := by decide +kernel
theorem d_MO_sumOf_17 : decode m_MO_sumOf.2.1 17 = .ok (.if_icmp .ge 132, 3) := by decide +kernel
theorem d_MO_sumOf_20 : decode m_MO_sumOf.2.1 20 = .ok (.sipush 1620, 3) := by decide +kernel
theorem d_MO_sumOf_23 : decode m_MO_sumOf.2.1 23 = .ok (.iload_n 2, 1) := by decide +kernel
theorem d_MO_sumOf_24 : decode m_MO_sumOf.2.1 24 = .ok (.imul, 1) := by decide +kernel
theorem d_MO_sumOf_25 : decode m_MO_sumOf.2.1 25 = .ok (.bipush 54, 2) := by decide +kernel
theorem d_MO_sumOf_27 : decode m_MO_sumOf.2.1 27 = .ok (.iload 7, 2) := by decide +kernel
theorem d_MO_sumOf_29 : decode m_MO_sumOf.2.1 29 = .ok (.imul, 1) := by decide +kernel
theorem d_MO_sumOf_30 : decode m_MO_sumOf.2.1 30 = .ok (.iadd, 1) := by decide +kernel
theorem d_MO_sumOf_31 : decode m_MO_sumOf.2.1 31 = .ok (.istore 8, 2) := by decide +kernel
theorem d_MO_sumOf_33 : decode m_MO_sumOf.2.1 33 = .ok (.aload_n 0, 1) := by decide +kernel
theorem d_MO_sumOf_34 : decode m_MO_sumOf.2.1 34 = .ok (.getfield 150, 3) := by decide +kernel
theorem d_MO_sumOf_37 : decode m_MO_sumOf.2.1 37 = .ok (.iload 8, 2) := by decide +kernel
theorem d_MO_sumOf_39 : decode m_MO_sumOf.2.1 39 = .ok (.aload_n 0, 1) := by decide +kernel
theorem d_MO_sumOf_40 : decode m_MO_sumOf.2.1 40 = .ok (.getfield 120, 3) := by decide +kernel
theorem d_MO_sumOf_43 : decode m_MO_sumOf.2.1 43 = .ok (.iload_n 1, 1) := by decide +kernel
theorem d_MO_sumOf_44 : decode m_MO_sumOf.2.1 44 = .ok (.iaload, 1) := by decide +kernel
theorem d_MO_sumOf_45 : decode m_MO_sumOf.2.1 45 = .ok (.iadd, 1) := by decide +kernel
theorem d_MO_sumOf_46 : decode m_MO_sumOf.2.1 46 = .ok (.iaload, 1) := by decide +kernel
theorem d_MO_sumOf_47 : decode m_MO_sumOf.2.1 47 = .ok (.iload_n 3, 1) := by decide +kernel
theorem d_MO_sumOf_48 : decode m_MO_sumOf.2.1 48 = .ok (.if_icmp .ne 36, 3) := by decide +kernel
theorem d_MO_sumOf_51 : decode m_MO_sumOf.2.1 51 = .ok (.aload_n 0, 1) := by decide +kernel
theorem d_MO_sumOf_52 : decode m_MO_sumOf.2.1 52 = .ok (.getfield 108, 3) := by decide +kernel
theorem d_MO_sumOf_55 : decode m_MO_sumOf.2.1 55 = .ok (.iload_n 1, 1) := by decide +kernel
theorem d_MO_sumOf_56 : decode m_MO_sumOf.2.1 56 = .ok (.iaload, 1) := by decide +kernel
theorem d_MO_sumOf_57 : decode m_MO_sumOf.2.1 57 = .ok (.iconst 1, 1) := by decide +kernel
theorem d_MO_sumOf_58 : decode m_MO_sumOf.2.1 58 = .ok (.if_icmp .eq 22, 3) := by decide +kernel
theorem d_MO_sumOf_61 : decode m_MO_sumOf.2.1 61 = .ok (.aload_n 0, 1) := by decide +kernel
theorem d_MO_sumOf_62 : decode m_MO_sumOf.2.1 62 = .ok (.getfield 150, 3) := by decide +kernel
theorem d_MO_sumOf_65 : decode m_MO_sumOf.2.1 65 = .ok (.iload 8, 2) := by decide +kernel
theorem d_MO_sumOf_67 : decode m_MO_sumOf.2.1 67 = .ok (.aload_n 0, 1) := by decide +kernel
theorem d_MO_sumOf_68 : decode m_MO_sumOf.2.1 68 = .ok (.getfield 123, 3) := by decide +kernel
theorem d_MO_sumOf_71 : decode m_MO_sumOf.2.1 71 = .ok (.iload_n 1, 1) := by decide +kernel
theorem d_MO_sumOf_72 : decode m_MO_sumOf.2.1 72 = .ok (.iaload, 1) := by decide +kernel
theorem d_MO_sumOf_73 : decode m_MO_sumOf.2.1 73 = .ok (.iadd, 1) := by decide +kernel
theorem d_MO_sumOf_74 : decode m_MO_sumOf.2.1 74 = .ok (.iaload, 1) := by decide +kernel
theorem d_MO_sumOf_75 : decode m_MO_sumOf.2.1 75 = .ok (.iload 4, 2) := by decide +kernel
theorem d_MO_sumOf_77 : decode m_MO_sumOf.2.1 77 = .ok (.if_icmp .ne 7, 3) := by decide +kernel
theorem d_MO_sumOf_80 : decode m_MO_sumOf.2.1 80 = .ok (.iconst 1, 1) := by decide +kernel
theorem d_MO_sumOf_81 : decode m_MO_sumOf.2.1 81 = .ok (.goto 4, 3) := by decide +kernel
theorem d_MO_sumOf_84 : decode m_MO_sumOf.2.1 84 = .ok (.iconst 0, 1) := by decide +kernel
theorem d_MO_sumOf_85 : decode m_MO_sumOf.2.1 85 = .ok (.istore 9, 2) := by decide +kernel
theorem d_MO_sumOf_87 : decode m_MO_sumOf.2.1 87 = .ok (.aload_n 0, 1) := by decide +kernel
theorem d_MO_sumOf_88 : decode m_MO_sumOf.2.1 88 = .ok (.getfield 150, 3) := by decide +kernel
theorem d_MO_sumOf_91 : decode m_MO_sumOf.2.1 91 = .ok (.iload 8, 2) := by decide +kernel
theorem d_MO_sumOf_93 : decode m_MO_sumOf.2.1 93 = .ok (.aload_n 0, 1) := by decide +kernel
theorem d_MO_sumOf_94 : decode m_MO_sumOf.2.1 94 = .ok (.getfield 126, 3) := by decide +kernel
theorem d_MO_sumOf_97 : decode m_MO_sumOf.2.1 97 = .ok (.iload_n 1, 1) := by decide +kernel
theorem d_MO_sumOf_98 : decode m_MO_sumOf.2.1 98 = .ok (.iaload, 1) := by decide +kernel
theorem d_MO_sumOf_99 : decode m_MO_sumOf.2.1 99 = .ok (.iadd, 1) := by decide +kernel
theorem d_MO_sumOf_100 : decode m_MO_sumOf.2.1 100 = .ok (.iaload, 1) := by decide +kernel
theorem d_MO_sumOf_101 : decode m_MO_sumOf.2.1 101 = .ok (.istore 10, 2) := by decide +kernel
theorem d_MO_sumOf_103 : decode m_MO_sumOf.2.1 103 = .ok (.iload 6, 2) := by decide +kernel
theorem d_MO_sumOf_105 : decode m_MO_sumOf.2.1 105 = .ok (.ifCond .ne 8, 3) := by decide +kernel
theorem d_MO_sumOf_108 : decode m_MO_sumOf.2.1 108 = .ok (.iload 9, 2) := by decide +kernel
theorem d_MO_sumOf_110 : decode m_MO_sumOf.2.1 110 = .ok (.ifCond .eq 7, 3) := by decide +kernel
theorem d_MO_sumOf_113 : decode m_MO_sumOf.2.1 113 = .ok (.iconst 1, 1) := by decide +kernel
theorem d_MO_sumOf_114 : decode m_MO_sumOf.2.1 114 = .ok (.goto 4, 3) := by decide +kernel
theorem d_MO_sumOf_117 : decode m_MO_sumOf.2.1 117 = .ok (.iconst 0, 1) := by decide +kernel
theorem d_MO_sumOf_118 : decode m_MO_sumOf.2.1 118 = .ok (.istore 6, 2) := by decide +kernel
theorem d_MO_sumOf_120 : decode m_MO_sumOf.2.1 120 = .ok (.iload 5, 2) := by decide +kernel
theorem d_MO_sumOf_122 : decode m_MO_sumOf.2.1 122 = .ok (.iload 9, 2) := by decide +kernel
theorem d_MO_sumOf_124 : decode m_MO_sumOf.2.1 124 = .ok (.ifCond .eq 15, 3) := by decide +kernel
theorem d_MO_sumOf_127 : decode m_MO_sumOf.2.1 127 = .ok (.iload 10, 2) := by decide +kernel
theorem d_MO_sumOf_129 : decode m_MO_sumOf.2.1 129 = .ok (.ldc 186, 2) := by decide +kernel
theorem d_MO_sumOf_131 : decode m_MO_sumOf.2.1 131 = .ok (.if_icmp .eq 8, 3) := by decide +kernel
theorem d_MO_sumOf_134 : decode m_MO_sumOf.2.1 134 = .ok (.iload 10, 2) := by decide +kernel
theorem d_MO_sumOf_136 : decode m_MO_sumOf.2.1 136 = .ok (.goto 4, 3) := by decide +kernel
theorem d_MO_sumOf_139 : decode m_MO_sumOf.2.1 139 = .ok (.iconst 0, 1) := by decide +kernel
theorem d_MO_sumOf_140 : decode m_MO_sumOf.2.1 140 = .ok (.iadd, 1) := by decide +kernel
theorem d_MO_sumOf_141 : decode m_MO_sumOf.2.1 141 = .ok (.istore 5, 2) := by decide +kernel
theorem d_MO_sumOf_143 : decode m_MO_sumOf.2.1 143 = .ok (.iinc 7 1, 3) := by decide +kernel
theorem d_MO_sumOf_146 : decode m_MO_sumOf.2.1 146 = .ok (.goto (-137), 3) := by decide +kernel
theorem d_MO_sumOf_149 : decode m_MO_sumOf.2.1 149 = .ok (.iload 6, 2) := by decide +kernel
theorem d_MO_sumOf_151 : decode m_MO_sumOf.2.1 151 = .ok (.ifCond .eq 12, 3) := by decide +kernel
theorem d_MO_sumOf_154 : decode m_MO_sumOf.2.1 154 = .ok (.iload 5, 2) := by decide +kernel
theorem d_MO_sumOf_156 : decode m_MO_sumOf.2.1 156 = .ok (.i2l, 1) := by decide +kernel
theorem d_MO_sumOf_157 : decode m_MO_sumOf.2.1 157 = .ok (.invokestatic 229, 3) := by decide +kernel
theorem d_MO_sumOf_160 : decode m_MO_sumOf.2.1 160 = .ok (.goto 5, 3) := by decide +kernel
theorem d_MO_sumOf_163 : decode m_MO_sumOf.2.1 163 = .ok (.ldc 186, 2) := by decide +kernel
theorem d_MO_sumOf_165 : decode m_MO_sumOf.2.1 165 = .ok (.ireturn, 1) := by decide +kernel
theorem d_MO_target_0 : decode m_MO_target.2.1 0 = .ok (.aload_n 0, 1) := by decide +kernel
theorem d_MO_target_1 : decode m_MO_target.2.1 1 = .ok (.aload_n 0, 1) := by decide +kernel
theorem d_MO_target_2 : decode m_MO_target.2.1 2 = .ok (.iload_n 1, 1) := by decide +kernel
theorem d_MO_target_3 : decode m_MO_target.2.1 3 = .ok (.iload_n 2, 1) := by decide +kernel
theorem d_MO_target_4 : decode m_MO_target.2.1 4 = .ok (.iload_n 3, 1) := by decide +kernel
theorem d_MO_target_5 : decode m_MO_target.2.1 5 = .ok (.invokevirtual 461, 3) := by decide +kernel
theorem d_MO_target_8 : decode m_MO_target.2.1 8 = .ok (.ifCond .eq 7, 3) := by decide +kernel
theorem d_MO_target_11 : decode m_MO_target.2.1 11 = .ok (.iconst 0, 1) := by decide +kernel
theorem d_MO_target_12 : decode m_MO_target.2.1 12 = .ok (.goto 4, 3) := by decide +kernel
theorem d_MO_target_15 : decode m_MO_target.2.1 15 = .ok (.iconst 1, 1) := by decide +kernel
theorem d_MO_target_16 : decode m_MO_target.2.1 16 = .ok (.invokevirtual 292, 3) := by decide +kernel
theorem d_MO_target_19 : decode m_MO_target.2.1 19 = .ok (.ifCond .ne 5, 3) := by decide +kernel
theorem d_MO_target_22 : decode m_MO_target.2.1 22 = .ok (.iconst 0, 1) := by decide +kernel
theorem d_MO_target_23 : decode m_MO_target.2.1 23 = .ok (.ireturn, 1) := by decide +kernel
theorem d_MO_target_24 : decode m_MO_target.2.1 24 = .ok (.aload_n 0, 1) := by decide +kernel
theorem d_MO_target_25 : decode m_MO_target.2.1 25 = .ok (.iload_n 1, 1) := by decide +kernel
theorem d_MO_target_26 : decode m_MO_target.2.1 26 = .ok (.iload_n 3, 1) := by decide +kernel
theorem d_MO_target_27 : decode m_MO_target.2.1 27 = .ok (.invokevirtual 464, 3) := by decide +kernel
theorem d_MO_target_30 : decode m_MO_target.2.1 30 = .ok (.istore 4, 2) := by decide +kernel
theorem d_MO_target_32 : decode m_MO_target.2.1 32 = .ok (.iload 4, 2) := by decide +kernel
theorem d_MO_target_34 : decode m_MO_target.2.1 34 = .ok (.iconst (-1), 1) := by decide +kernel
theorem d_MO_target_35 : decode m_MO_target.2.1 35 = .ok (.if_icmp .ne 7, 3) := by decide +kernel
theorem d_MO_target_38 : decode m_MO_target.2.1 38 = .ok (.iconst (-1), 1) := by decide +kernel
theorem d_MO_target_39 : decode m_MO_target.2.1 39 = .ok (.goto 39, 3) := by decide +kernel
theorem d_MO_target_42 : decode m_MO_target.2.1 42 = .ok (.sipush 1000, 3) := by decide +kernel
theorem d_MO_target_45 : decode m_MO_target.2.1 45 = .ok (.iload 4, 2) := by decide +kernel
theorem d_MO_target_47 : decode m_MO_target.2.1 47 = .ok (.bipush 6, 2) := by decide +kernel
theorem d_MO_target_49 : decode m_MO_target.2.1 49 = .ok (.idiv, 1) := by decide +kernel
theorem d_MO_target_50 : decode m_MO_target.2.1 50 = .ok (.imul, 1) := by decide +kernel
theorem d_MO_target_51 : decode m_MO_target.2.1 51 = .ok (.bipush 10, 2) := by decide +kernel
theorem d_MO_target_53 : decode m_MO_target.2.1 53 = .ok (.aload_n 0, 1) := by decide +kernel
theorem d_MO_target_54 : decode m_MO_target.2.1 54 = .ok (.getfield 153, 3) := by decide +kernel
theorem d_MO_target_57 : decode m_MO_target.2.1 57 = .ok (.sipush 1620, 3) := by decide +kernel
theorem d_MO_target_60 : decode m_MO_target.2.1 60 = .ok (.iload_n 1, 1) := by decide +kernel
theorem d_MO_target_61 : decode m_MO_target.2.1 61 = .ok (.imul, 1) := by decide +kernel
theorem d_MO_target_62 : decode m_MO_target.2.1 62 = .ok (.bipush 54, 2) := by decide +kernel
theorem d_MO_target_64 : decode m_MO_target.2.1 64 = .ok (.iload_n 2, 1) := by decide +kernel
theorem d_MO_target_65 : decode m_MO_target.2.1 65 = .ok (.imul, 1) := by decide +kernel
theorem d_MO_target_66 : decode m_MO_target.2.1 66 = .ok (.iadd, 1) := by decide +kernel
theorem d_MO_target_67 : decode m_MO_target.2.1 67 = .ok (.iload_n 3, 1) := by decide +kernel
theorem d_MO_target_68 : decode m_MO_target.2.1 68 = .ok (.iadd, 1) := by decide +kernel
theorem d_MO_target_69 : decode m_MO_target.2.1 69 = .ok (.iaload, 1) := by decide +kernel
theorem d_MO_target_70 : decode m_MO_target.2.1 70 = .ok (.imul, 1) := by decide +kernel
theorem d_MO_target_71 : decode m_MO_target.2.1 71 = .ok (.iadd, 1) := by decide +kernel
theorem d_MO_target_72 : decode m_MO_target.2.1 72 = .ok (.iload 4, 2) := by decide +kernel
theorem d_MO_target_74 : decode m_MO_target.2.1 74 = .ok (.bipush 6, 2) := by decide +kernel
theorem d_MO_target_76 : decode m_MO_target.2.1 76 = .ok (.irem, 1) := by decide +kernel
theorem d_MO_target_77 : decode m_MO_target.2.1 77 = .ok (.iadd, 1) := by decide +kernel
theorem d_MO_target_78 : decode m_MO_target.2.1 78 = .ok (.ireturn, 1) := by decide +kernel
theorem d_MO_thrown_0 : decode m_MO_thrown.2.1 0 = .ok (.aload_n 0, 1) := by decide +kernel
theorem d_MO_thrown_1 : decode m_MO_thrown.2.1 1 = .ok (.getfield 187, 3) := by decide +kernel
theorem d_MO_thrown_4 : decode m_MO_thrown.2.1 4 = .ok (.ireturn, 1) := by decide +kernel
theorem d_MO_told_0 : decode m_MO_told.2.1 0 = .ok (.aload_n 0, 1) := by decide +kernel
theorem d_MO_told_1 : decode m_MO_told.2.1 1 = .ok (.iload_n 1, 1) := by decide +kernel
theorem d_MO_told_2 : decode m_MO_told.2.1 2 = .ok (.putfield 205, 3) := by decide +kernel
theorem d_MO_told_5 : decode m_MO_told.2.1 5 = .ok (.aload_n 0, 1) := by decide +kernel
theorem d_MO_told_6 : decode m_MO_told.2.1 6 = .ok (.iload_n 2, 1) := by decide +kernel
theorem d_MO_told_7 : decode m_MO_told.2.1 7 = .ok (.putfield 90, 3) := by decide +kernel
theorem d_MO_told_10 : decode m_MO_told.2.1 10 = .ok (.aload_n 0, 1) := by decide +kernel
theorem d_MO_told_11 : decode m_MO_told.2.1 11 = .ok (.iload_n 3, 1) := by decide +kernel
theorem d_MO_told_12 : decode m_MO_told.2.1 12 = .ok (.putfield 93, 3) := by decide +kernel
theorem d_MO_told_15 : decode m_MO_told.2.1 15 = .ok (.aload_n 0, 1) := by decide +kernel
theorem d_MO_told_16 : decode m_MO_told.2.1 16 = .ok (.iload 4, 2) := by decide +kernel
theorem d_MO_told_18 : decode m_MO_told.2.1 18 = .ok (.putfield 96, 3) := by decide +kernel
theorem d_MO_told_21 : decode m_MO_told.2.1 21 = .ok (.iload_n 1, 1) := by decide +kernel
theorem d_MO_told_22 : decode m_MO_told.2.1 22 = .ok (.ireturn, 1) := by decide +kernel
theorem d_MO_total_0 : decode m_MO_total.2.1 0 = .ok (.lconst 0, 1) := by decide +kernel
theorem d_MO_total_1 : decode m_MO_total.2.1 1 = .ok (.lstore_n 3, 1) := by decide +kernel
theorem d_MO_total_2 : decode m_MO_total.2.1 2 = .ok (.aload_n 0, 1) := by decide +kernel
theorem d_MO_total_3 : decode m_MO_total.2.1 3 = .ok (.iload_n 1, 1) := by decide +kernel
theorem d_MO_total_4 : decode m_MO_total.2.1 4 = .ok (.invokevirtual 208, 3) := by decide +kernel
theorem d_MO_total_7 : decode m_MO_total.2.1 7 = .ok (.istore 5, 2) := by decide +kernel
theorem d_MO_total_9 : decode m_MO_total.2.1 9 = .ok (.iconst 0, 1) := by decide +kernel
theorem d_MO_total_10 : decode m_MO_total.2.1 10 = .ok (.istore 6, 2) := by decide +kernel
theorem d_MO_total_12 : decode m_MO_total.2.1 12 = .ok (.iload 6, 2) := by decide +kernel
theorem d_MO_total_14 : decode m_MO_total.2.1 14 = .ok (.aload_n 0, 1) := by decide +kernel
theorem d_MO_total_15 : decode m_MO_total.2.1 15 = .ok (.getfield 71, 3) := by decide +kernel
theorem d_MO_total_18 : decode m_MO_total.2.1 18 = .ok (.aload_n 0, 1) := by decide +kernel
theorem d_MO_total_19 : decode m_MO_total.2.1 19 = .ok (.getfield 37, 3) := by decide +kernel
theorem d_MO_total_22 : decode m_MO_total.2.1 22 = .ok (.iload_n 1, 1) := by decide +kernel
theorem d_MO_total_23 : decode m_MO_total.2.1 23 = .ok (.iaload, 1) := by decide +kernel
theorem d_MO_total_24 : decode m_MO_total.2.1 24 = .ok (.iaload, 1) := by decide +kernel
theorem d_MO_total_25 : decode m_MO_total.2.1 25 = .ok (.if_icmp .ge 124, 3) := by decide +kernel
theorem d_MO_total_28 : decode m_MO_total.2.1 28 = .ok (.aload_n 0, 1) := by decide +kernel
theorem d_MO_total_29 : decode m_MO_total.2.1 29 = .ok (.getfield 74, 3) := by decide +kernel
theorem d_MO_total_32 : decode m_MO_total.2.1 32 = .ok (.bipush 30, 2) := by decide +kernel
theorem d_MO_total_34 : decode m_MO_total.2.1 34 = .ok (.aload_n 0, 1) := by decide +kernel
theorem d_MO_total_35 : decode m_MO_total.2.1 35 = .ok (.getfield 37, 3) := by decide +kernel
theorem d_MO_total_38 : decode m_MO_total.2.1 38 = .ok (.iload_n 1, 1) := by decide +kernel
theorem d_MO_total_39 : decode m_MO_total.2.1 39 = .ok (.iaload, 1) := by decide +kernel
theorem d_MO_total_40 : decode m_MO_total.2.1 40 = .ok (.imul, 1) := by decide +kernel
theorem d_MO_total_41 : decode m_MO_total.2.1 41 = .ok (.iload 6, 2) := by decide +kernel
theorem d_MO_total_43 : decode m_MO_total.2.1 43 = .ok (.iadd, 1) := by decide +kernel
theorem d_MO_total_44 : decode m_MO_total.2.1 44 = .ok (.baload, 1) := by decide +kernel
theorem d_MO_total_45 : decode m_MO_total.2.1 45 = .ok (.ifCond .eq 98, 3) := by decide +kernel
theorem d_MO_total_48 : decode m_MO_total.2.1 48 = .ok (.aload_n 0, 1) := by decide +kernel
theorem d_MO_total_49 : decode m_MO_total.2.1 49 = .ok (.getfield 77, 3) := by decide +kernel
theorem d_MO_total_52 : decode m_MO_total.2.1 52 = .ok (.aload_n 0, 1) := by decide +kernel
theorem d_MO_total_53 : decode m_MO_total.2.1 53 = .ok (.getfield 37, 3) := by decide +kernel
theorem d_MO_total_56 : decode m_MO_total.2.1 56 = .ok (.iload_n 1, 1) := by decide +kernel
theorem d_MO_total_57 : decode m_MO_total.2.1 57 = .ok (.iaload, 1) := by decide +kernel
theorem d_MO_total_58 : decode m_MO_total.2.1 58 = .ok (.iload 6, 2) := by decide +kernel
theorem d_MO_total_60 : decode m_MO_total.2.1 60 = .ok (.aload_n 0, 1) := by decide +kernel
theorem d_MO_total_61 : decode m_MO_total.2.1 61 = .ok (.getfield 31, 3) := by decide +kernel
theorem d_MO_total_64 : decode m_MO_total.2.1 64 = .ok (.iload_n 1, 1) := by decide +kernel
theorem d_MO_total_65 : decode m_MO_total.2.1 65 = .ok (.iaload, 1) := by decide +kernel
theorem d_MO_total_66 : decode m_MO_total.2.1 66 = .ok (.invokestatic 225, 3) := by decide +kernel
theorem d_MO_total_69 : decode m_MO_total.2.1 69 = .ok (.iaload, 1) := by decide +kernel
theorem d_MO_total_70 : decode m_MO_total.2.1 70 = .ok (.iload_n 2, 1) := by decide +kernel
theorem d_MO_total_71 : decode m_MO_total.2.1 71 = .ok (.if_icmp .ne 72, 3) := by decide +kernel
theorem d_MO_total_74 : decode m_MO_total.2.1 74 = .ok (.aload_n 0, 1) := by decide +kernel
theorem d_MO_total_75 : decode m_MO_total.2.1 75 = .ok (.getfield 22, 3) := by decide +kernel
theorem d_MO_total_78 : decode m_MO_total.2.1 78 = .ok (.iload 5, 2) := by decide +kernel
theorem d_MO_total_80 : decode m_MO_total.2.1 80 = .ok (.iaload, 1) := by decide +kernel
theorem d_MO_total_81 : decode m_MO_total.2.1 81 = .ok (.iload_n 1, 1) := by decide +kernel
theorem d_MO_total_82 : decode m_MO_total.2.1 82 = .ok (.bipush 6, 2) := by decide +kernel
theorem d_MO_total_84 : decode m_MO_total.2.1 84 = .ok (.idiv, 1) := by decide +kernel
theorem d_MO_total_85 : decode m_MO_total.2.1 85 = .ok (.if_icmp .ne 58, 3) := by decide +kernel
theorem d_MO_total_88 : decode m_MO_total.2.1 88 = .ok (.aload_n 0, 1) := by decide +kernel
theorem d_MO_total_89 : decode m_MO_total.2.1 89 = .ok (.getfield 28, 3) := by decide +kernel
theorem d_MO_total_92 : decode m_MO_total.2.1 92 = .ok (.iload_n 1, 1) := by decide +kernel
theorem d_MO_total_93 : decode m_MO_total.2.1 93 = .ok (.iaload, 1) := by decide +kernel
theorem d_MO_total_94 : decode m_MO_total.2.1 94 = .ok (.iconst 4, 1) := by decide +kernel
theorem d_MO_total_95 : decode m_MO_total.2.1 95 = .ok (.if_icmp .ne 7, 3) := by decide +kernel
theorem d_MO_total_98 : decode m_MO_total.2.1 98 = .ok (.iconst 1, 1) := by decide +kernel
theorem d_MO_total_99 : decode m_MO_total.2.1 99 = .ok (.goto 25, 3) := by decide +kernel
theorem d_MO_total_102 : decode m_MO_total.2.1 102 = .ok (.aload_n 0, 1) := by decide +kernel
theorem d_MO_total_103 : decode m_MO_total.2.1 103 = .ok (.getfield 77, 3) := by decide +kernel
theorem d_MO_total_106 : decode m_MO_total.2.1 106 = .ok (.aload_n 0, 1) := by decide +kernel
theorem d_MO_total_107 : decode m_MO_total.2.1 107 = .ok (.getfield 37, 3) := by decide +kernel
theorem d_MO_total_110 : decode m_MO_total.2.1 110 = .ok (.iload_n 1, 1) := by decide +kernel
theorem d_MO_total_111 : decode m_MO_total.2.1 111 = .ok (.iaload, 1) := by decide +kernel
theorem d_MO_total_112 : decode m_MO_total.2.1 112 = .ok (.iload 6, 2) := by decide +kernel
theorem d_MO_total_114 : decode m_MO_total.2.1 114 = .ok (.aload_n 0, 1) := by decide +kernel
theorem d_MO_total_115 : decode m_MO_total.2.1 115 = .ok (.getfield 34, 3) := by decide +kernel
theorem d_MO_total_118 : decode m_MO_total.2.1 118 = .ok (.iload_n 1, 1) := by decide +kernel
theorem d_MO_total_119 : decode m_MO_total.2.1 119 = .ok (.iaload, 1) := by decide +kernel
theorem d_MO_total_120 : decode m_MO_total.2.1 120 = .ok (.invokestatic 225, 3) := by decide +kernel
theorem d_MO_total_123 : decode m_MO_total.2.1 123 = .ok (.iaload, 1) := by decide +kernel
theorem d_MO_total_124 : decode m_MO_total.2.1 124 = .ok (.istore 7, 2) := by decide +kernel
theorem d_MO_total_126 : decode m_MO_total.2.1 126 = .ok (.lload_n 3, 1) := by decide +kernel
theorem d_MO_total_127 : decode m_MO_total.2.1 127 = .ok (.iload 7, 2) := by decide +kernel
theorem d_MO_total_129 : decode m_MO_total.2.1 129 = .ok (.ldc 186, 2) := by decide +kernel
theorem d_MO_total_131 : decode m_MO_total.2.1 131 = .ok (.if_icmp .ne 7, 3) := by decide +kernel
theorem d_MO_total_134 : decode m_MO_total.2.1 134 = .ok (.lconst 0, 1) := by decide +kernel
theorem d_MO_total_135 : decode m_MO_total.2.1 135 = .ok (.goto 6, 3) := by decide +kernel
theorem d_MO_total_138 : decode m_MO_total.2.1 138 = .ok (.iload 7, 2) := by decide +kernel
theorem d_MO_total_140 : decode m_MO_total.2.1 140 = .ok (.i2l, 1) := by decide +kernel
theorem d_MO_total_141 : decode m_MO_total.2.1 141 = .ok (.ladd, 1) := by decide +kernel
theorem d_MO_total_142 : decode m_MO_total.2.1 142 = .ok (.lstore_n 3, 1) := by decide +kernel
theorem d_MO_total_143 : decode m_MO_total.2.1 143 = .ok (.iinc 6 1, 3) := by decide +kernel
theorem d_MO_total_146 : decode m_MO_total.2.1 146 = .ok (.goto (-134), 3) := by decide +kernel
theorem d_MO_total_149 : decode m_MO_total.2.1 149 = .ok (.lload_n 3, 1) := by decide +kernel
theorem d_MO_total_150 : decode m_MO_total.2.1 150 = .ok (.invokestatic 229, 3) := by decide +kernel
theorem d_MO_total_153 : decode m_MO_total.2.1 153 = .ok (.ireturn, 1) := by decide +kernel
theorem d_MO_type_0 : decode m_MO_type.2.1 0 = .ok (.aload_n 0, 1) := by decide +kernel
theorem d_MO_type_1 : decode m_MO_type.2.1 1 = .ok (.iload_n 1, 1) := by decide +kernel
theorem d_MO_type_2 : decode m_MO_type.2.1 2 = .ok (.iconst 0, 1) := by decide +kernel
theorem d_MO_type_3 : decode m_MO_type.2.1 3 = .ok (.iconst 5, 1) := by decide +kernel
theorem d_MO_type_4 : decode m_MO_type.2.1 4 = .ok (.invokestatic 190, 3) := by decide +kernel
theorem d_MO_type_7 : decode m_MO_type.2.1 7 = .ok (.ifCond .eq 14, 3) := by decide +kernel
theorem d_MO_type_10 : decode m_MO_type.2.1 10 = .ok (.iload_n 2, 1) := by decide +kernel
theorem d_MO_type_11 : decode m_MO_type.2.1 11 = .ok (.invokestatic 354, 3) := by decide +kernel
theorem d_MO_type_14 : decode m_MO_type.2.1 14 = .ok (.ifCond .eq 7, 3) := by decide +kernel
theorem d_MO_type_17 : decode m_MO_type.2.1 17 = .ok (.iconst 0, 1) := by decide +kernel
theorem d_MO_type_18 : decode m_MO_type.2.1 18 = .ok (.goto 4, 3) := by decide +kernel
theorem d_MO_type_21 : decode m_MO_type.2.1 21 = .ok (.iconst 1, 1) := by decide +kernel
theorem d_MO_type_22 : decode m_MO_type.2.1 22 = .ok (.invokevirtual 292, 3) := by decide +kernel
theorem d_MO_type_25 : decode m_MO_type.2.1 25 = .ok (.ifCond .ne 5, 3) := by decide +kernel
theorem d_MO_type_28 : decode m_MO_type.2.1 28 = .ok (.iconst 0, 1) := by decide +kernel
theorem d_MO_type_29 : decode m_MO_type.2.1 29 = .ok (.ireturn, 1) := by decide +kernel
theorem d_MO_type_30 : decode m_MO_type.2.1 30 = .ok (.aload_n 0, 1) := by decide +kernel
theorem d_MO_type_31 : decode m_MO_type.2.1 31 = .ok (.getfield 80, 3) := by decide +kernel
theorem d_MO_type_34 : decode m_MO_type.2.1 34 = .ok (.iload_n 1, 1) := by decide +kernel
theorem d_MO_type_35 : decode m_MO_type.2.1 35 = .ok (.iaload, 1) := by decide +kernel
theorem d_MO_type_36 : decode m_MO_type.2.1 36 = .ok (.istore_n 3, 1) := by decide +kernel
theorem d_MO_type_37 : decode m_MO_type.2.1 37 = .ok (.aload_n 0, 1) := by decide +kernel
theorem d_MO_type_38 : decode m_MO_type.2.1 38 = .ok (.getfield 80, 3) := by decide +kernel
theorem d_MO_type_41 : decode m_MO_type.2.1 41 = .ok (.iload_n 1, 1) := by decide +kernel
theorem d_MO_type_42 : decode m_MO_type.2.1 42 = .ok (.iload_n 2, 1) := by decide +kernel
theorem d_MO_type_43 : decode m_MO_type.2.1 43 = .ok (.iastore, 1) := by decide +kernel
theorem d_MO_type_44 : decode m_MO_type.2.1 44 = .ok (.iload_n 3, 1) := by decide +kernel
theorem d_MO_type_45 : decode m_MO_type.2.1 45 = .ok (.ireturn, 1) := by decide +kernel
theorem d_MO_undo_0 : decode m_MO_undo.2.1 0 = .ok (.aload_n 0, 1) := by decide +kernel
theorem d_MO_undo_1 : decode m_MO_undo.2.1 1 = .ok (.aload_n 0, 1) := by decide +kernel
theorem d_MO_undo_2 : decode m_MO_undo.2.1 2 = .ok (.getfield 289, 3) := by decide +kernel
theorem d_MO_undo_5 : decode m_MO_undo.2.1 5 = .ok (.ifCond .ne 7, 3) := by decide +kernel
theorem d_MO_undo_8 : decode m_MO_undo.2.1 8 = .ok (.iconst 1, 1) := by decide +kernel
theorem d_MO_undo_9 : decode m_MO_undo.2.1 9 = .ok (.goto 4, 3) := by decide +kernel
theorem d_MO_undo_12 : decode m_MO_undo.2.1 12 = .ok (.iconst 0, 1) := by decide +kernel
theorem d_MO_undo_13 : decode m_MO_undo.2.1 13 = .ok (.invokevirtual 292, 3) := by decide +kernel
theorem d_MO_undo_16 : decode m_MO_undo.2.1 16 = .ok (.ifCond .ne 5, 3) := by decide +kernel
theorem d_MO_undo_19 : decode m_MO_undo.2.1 19 = .ok (.iconst 0, 1) := by decide +kernel
theorem d_MO_undo_20 : decode m_MO_undo.2.1 20 = .ok (.ireturn, 1) := by decide +kernel
theorem d_MO_undo_21 : decode m_MO_undo.2.1 21 = .ok (.aload_n 0, 1) := by decide +kernel
theorem d_MO_undo_22 : decode m_MO_undo.2.1 22 = .ok (.dup, 1) := by decide +kernel
theorem d_MO_undo_23 : decode m_MO_undo.2.1 23 = .ok (.getfield 289, 3) := by decide +kernel
theorem d_MO_undo_26 : decode m_MO_undo.2.1 26 = .ok (.iconst 1, 1) := by decide +kernel
theorem d_MO_undo_27 : decode m_MO_undo.2.1 27 = .ok (.isub, 1) := by decide +kernel
theorem d_MO_undo_28 : decode m_MO_undo.2.1 28 = .ok (.putfield 289, 3) := by decide +kernel
theorem d_MO_undo_31 : decode m_MO_undo.2.1 31 = .ok (.aload_n 0, 1) := by decide +kernel
theorem d_MO_undo_32 : decode m_MO_undo.2.1 32 = .ok (.aload_n 0, 1) := by decide +kernel
theorem d_MO_undo_33 : decode m_MO_undo.2.1 33 = .ok (.getfield 289, 3) := by decide +kernel
theorem d_MO_undo_36 : decode m_MO_undo.2.1 36 = .ok (.invokevirtual 285, 3) := by decide +kernel
theorem d_MO_undo_39 : decode m_MO_undo.2.1 39 = .ok (.aload_n 0, 1) := by decide +kernel
theorem d_MO_undo_40 : decode m_MO_undo.2.1 40 = .ok (.aload_n 0, 1) := by decide +kernel
theorem d_MO_undo_41 : decode m_MO_undo.2.1 41 = .ok (.getfield 83, 3) := by decide +kernel
theorem d_MO_undo_44 : decode m_MO_undo.2.1 44 = .ok (.iconst (-1), 1) := by decide +kernel
theorem d_MO_undo_45 : decode m_MO_undo.2.1 45 = .ok (.if_icmp .eq 23, 3) := by decide +kernel
theorem d_MO_undo_48 : decode m_MO_undo.2.1 48 = .ok (.aload_n 0, 1) := by decide +kernel
theorem d_MO_undo_49 : decode m_MO_undo.2.1 49 = .ok (.getfield 360, 3) := by decide +kernel
theorem d_MO_undo_52 : decode m_MO_undo.2.1 52 = .ok (.aload_n 0, 1) := by decide +kernel
theorem d_MO_undo_53 : decode m_MO_undo.2.1 53 = .ok (.getfield 71, 3) := by decide +kernel
theorem d_MO_undo_56 : decode m_MO_undo.2.1 56 = .ok (.aload_n 0, 1) := by decide +kernel
theorem d_MO_undo_57 : decode m_MO_undo.2.1 57 = .ok (.getfield 83, 3) := by decide +kernel
theorem d_MO_undo_60 : decode m_MO_undo.2.1 60 = .ok (.iaload, 1) := by decide +kernel
theorem d_MO_undo_61 : decode m_MO_undo.2.1 61 = .ok (.if_icmp .lt 7, 3) := by decide +kernel
theorem d_MO_undo_64 : decode m_MO_undo.2.1 64 = .ok (.iconst (-1), 1) := by decide +kernel
theorem d_MO_undo_65 : decode m_MO_undo.2.1 65 = .ok (.goto 7, 3) := by decide +kernel
theorem d_MO_undo_68 : decode m_MO_undo.2.1 68 = .ok (.aload_n 0, 1) := by decide +kernel
theorem d_MO_undo_69 : decode m_MO_undo.2.1 69 = .ok (.getfield 83, 3) := by decide +kernel
theorem d_MO_undo_72 : decode m_MO_undo.2.1 72 = .ok (.putfield 83, 3) := by decide +kernel
theorem d_MO_undo_75 : decode m_MO_undo.2.1 75 = .ok (.aload_n 0, 1) := by decide +kernel
theorem d_MO_undo_76 : decode m_MO_undo.2.1 76 = .ok (.getfield 289, 3) := by decide +kernel
theorem d_MO_undo_79 : decode m_MO_undo.2.1 79 = .ok (.ireturn, 1) := by decide +kernel
theorem d_MO_undoable_0 : decode m_MO_undoable.2.1 0 = .ok (.aload_n 0, 1) := by decide +kernel
theorem d_MO_undoable_1 : decode m_MO_undoable.2.1 1 = .ok (.iconst 0, 1) := by decide +kernel
theorem d_MO_undoable_2 : decode m_MO_undoable.2.1 2 = .ok (.putfield 187, 3) := by decide +kernel
theorem d_MO_undoable_5 : decode m_MO_undoable.2.1 5 = .ok (.aload_n 0, 1) := by decide +kernel
theorem d_MO_undoable_6 : decode m_MO_undoable.2.1 6 = .ok (.getfield 289, 3) := by decide +kernel
theorem d_MO_undoable_9 : decode m_MO_undoable.2.1 9 = .ok (.ireturn, 1) := by decide +kernel
theorem d_MO_whereColumn_0 : decode m_MO_whereColumn.2.1 0 = .ok (.aload_n 0, 1) := by decide +kernel
theorem d_MO_whereColumn_1 : decode m_MO_whereColumn.2.1 1 = .ok (.iconst 0, 1) := by decide +kernel
theorem d_MO_whereColumn_2 : decode m_MO_whereColumn.2.1 2 = .ok (.putfield 187, 3) := by decide +kernel
theorem d_MO_whereColumn_5 : decode m_MO_whereColumn.2.1 5 = .ok (.aload_n 0, 1) := by decide +kernel
theorem d_MO_whereColumn_6 : decode m_MO_whereColumn.2.1 6 = .ok (.getfield 96, 3) := by decide +kernel
theorem d_MO_whereColumn_9 : decode m_MO_whereColumn.2.1 9 = .ok (.ireturn, 1) := by decide +kernel
theorem d_MO_whereRow_0 : decode m_MO_whereRow.2.1 0 = .ok (.aload_n 0, 1) := by decide +kernel
theorem d_MO_whereRow_1 : decode m_MO_whereRow.2.1 1 = .ok (.iconst 0, 1) := by decide +kernel
theorem d_MO_whereRow_2 : decode m_MO_whereRow.2.1 2 = .ok (.putfield 187, 3) := by decide +kernel
theorem d_MO_whereRow_5 : decode m_MO_whereRow.2.1 5 = .ok (.aload_n 0, 1) := by decide +kernel
theorem d_MO_whereRow_6 : decode m_MO_whereRow.2.1 6 = .ok (.getfield 93, 3) := by decide +kernel
theorem d_MO_whereRow_9 : decode m_MO_whereRow.2.1 9 = .ok (.ireturn, 1) := by decide +kernel
theorem d_MO_whereTable_0 : decode m_MO_whereTable.2.1 0 = .ok (.aload_n 0, 1) := by decide +kernel
theorem d_MO_whereTable_1 : decode m_MO_whereTable.2.1 1 = .ok (.iconst 0, 1) := by decide +kernel
theorem d_MO_whereTable_2 : decode m_MO_whereTable.2.1 2 = .ok (.putfield 187, 3) := by decide +kernel
theorem d_MO_whereTable_5 : decode m_MO_whereTable.2.1 5 = .ok (.aload_n 0, 1) := by decide +kernel
theorem d_MO_whereTable_6 : decode m_MO_whereTable.2.1 6 = .ok (.getfield 90, 3) := by decide +kernel
theorem d_MO_whereTable_9 : decode m_MO_whereTable.2.1 9 = .ok (.ireturn, 1) := by decide +kernel
theorem d_MO_wouldLose_0 : decode m_MO_wouldLose.2.1 0 = .ok (.aload_n 0, 1) := by decide +kernel
theorem d_MO_wouldLose_1 : decode m_MO_wouldLose.2.1 1 = .ok (.aload_n 0, 1) := by decide +kernel
theorem d_MO_wouldLose_2 : decode m_MO_wouldLose.2.1 2 = .ok (.iload_n 1, 1) := by decide +kernel
theorem d_MO_wouldLose_3 : decode m_MO_wouldLose.2.1 3 = .ok (.iload_n 2, 1) := by decide +kernel
theorem d_MO_wouldLose_4 : decode m_MO_wouldLose.2.1 4 = .ok (.iload_n 3, 1) := by decide +kernel
theorem d_MO_wouldLose_5 : decode m_MO_wouldLose.2.1 5 = .ok (.iload 4, 2) := by decide +kernel
theorem d_MO_wouldLose_7 : decode m_MO_wouldLose.2.1 7 = .ok (.invokevirtual 335, 3) := by decide +kernel
theorem d_MO_wouldLose_10 : decode m_MO_wouldLose.2.1 10 = .ok (.invokevirtual 292, 3) := by decide +kernel
theorem d_MO_wouldLose_13 : decode m_MO_wouldLose.2.1 13 = .ok (.ifCond .eq 16, 3) := by decide +kernel
theorem d_MO_wouldLose_16 : decode m_MO_wouldLose.2.1 16 = .ok (.aload_n 0, 1) := by decide +kernel
theorem d_MO_wouldLose_17 : decode m_MO_wouldLose.2.1 17 = .ok (.iload_n 1, 1) := by decide +kernel
theorem d_MO_wouldLose_18 : decode m_MO_wouldLose.2.1 18 = .ok (.iload_n 2, 1) := by decide +kernel
theorem d_MO_wouldLose_19 : decode m_MO_wouldLose.2.1 19 = .ok (.iload_n 3, 1) := by decide +kernel
theorem d_MO_wouldLose_20 : decode m_MO_wouldLose.2.1 20 = .ok (.iload 4, 2) := by decide +kernel
theorem d_MO_wouldLose_22 : decode m_MO_wouldLose.2.1 22 = .ok (.iconst 0, 1) := by decide +kernel
theorem d_MO_wouldLose_23 : decode m_MO_wouldLose.2.1 23 = .ok (.invokevirtual 338, 3) := by decide +kernel
theorem d_MO_wouldLose_26 : decode m_MO_wouldLose.2.1 26 = .ok (.goto 4, 3) := by decide +kernel
theorem d_MO_wouldLose_29 : decode m_MO_wouldLose.2.1 29 = .ok (.iconst 0, 1) := by decide +kernel
theorem d_MO_wouldLose_30 : decode m_MO_wouldLose.2.1 30 = .ok (.ireturn, 1) := by decide +kernel
theorem d_MO_wouldLoseAll_0 : decode m_MO_wouldLoseAll.2.1 0 = .ok (.aload_n 0, 1) := by decide +kernel
theorem d_MO_wouldLoseAll_1 : decode m_MO_wouldLoseAll.2.1 1 = .ok (.aload_n 0, 1) := by decide +kernel
theorem d_MO_wouldLoseAll_2 : decode m_MO_wouldLoseAll.2.1 2 = .ok (.iload_n 1, 1) := by decide +kernel
theorem d_MO_wouldLoseAll_3 : decode m_MO_wouldLoseAll.2.1 3 = .ok (.iload_n 2, 1) := by decide +kernel
theorem d_MO_wouldLoseAll_4 : decode m_MO_wouldLoseAll.2.1 4 = .ok (.invokevirtual 305, 3) := by decide +kernel
theorem d_MO_wouldLoseAll_7 : decode m_MO_wouldLoseAll.2.1 7 = .ok (.ifCond .eq 7, 3) := by decide +kernel
theorem d_MO_wouldLoseAll_10 : decode m_MO_wouldLoseAll.2.1 10 = .ok (.iconst 0, 1) := by decide +kernel
theorem d_MO_wouldLoseAll_11 : decode m_MO_wouldLoseAll.2.1 11 = .ok (.goto 4, 3) := by decide +kernel
theorem d_MO_wouldLoseAll_14 : decode m_MO_wouldLoseAll.2.1 14 = .ok (.iconst 1, 1) := by decide +kernel
theorem d_MO_wouldLoseAll_15 : decode m_MO_wouldLoseAll.2.1 15 = .ok (.invokevirtual 292, 3) := by decide +kernel
theorem d_MO_wouldLoseAll_18 : decode m_MO_wouldLoseAll.2.1 18 = .ok (.ifCond .eq 15, 3) := by decide +kernel
theorem d_MO_wouldLoseAll_21 : decode m_MO_wouldLoseAll.2.1 21 = .ok (.aload_n 0, 1) := by decide +kernel
theorem d_MO_wouldLoseAll_22 : decode m_MO_wouldLoseAll.2.1 22 = .ok (.iload_n 1, 1) := by decide +kernel
theorem d_MO_wouldLoseAll_23 : decode m_MO_wouldLoseAll.2.1 23 = .ok (.iload_n 2, 1) := by decide +kernel
theorem d_MO_wouldLoseAll_24 : decode m_MO_wouldLoseAll.2.1 24 = .ok (.iconst 1, 1) := by decide +kernel
theorem d_MO_wouldLoseAll_25 : decode m_MO_wouldLoseAll.2.1 25 = .ok (.iconst 0, 1) := by decide +kernel
theorem d_MO_wouldLoseAll_26 : decode m_MO_wouldLoseAll.2.1 26 = .ok (.iconst 0, 1) := by decide +kernel
theorem d_MO_wouldLoseAll_27 : decode m_MO_wouldLoseAll.2.1 27 = .ok (.invokevirtual 338, 3) := by decide +kernel
theorem d_MO_wouldLoseAll_30 : decode m_MO_wouldLoseAll.2.1 30 = .ok (.goto 4, 3) := by decide +kernel
theorem d_MO_wouldLoseAll_33 : decode m_MO_wouldLoseAll.2.1 33 = .ok (.iconst 0, 1) := by decide +kernel
theorem d_MO_wouldLoseAll_34 : decode m_MO_wouldLoseAll.2.1 34 = .ok (.ireturn, 1) := by decide +kernel
theorem d_MO_writable_0 : decode m_MO_writable.2.1 0 = .ok (.aload_n 0, 1) := by decide +kernel
theorem d_MO_writable_1 : decode m_MO_writable.2.1 1 = .ok (.getfield 108, 3) := by decide +kernel
theorem d_MO_writable_4 : decode m_MO_writable.2.1 4 = .ok (.iload_n 1, 1) := by decide +kernel
theorem d_MO_writable_5 : decode m_MO_writable.2.1 5 = .ok (.iaload, 1) := by decide +kernel
theorem d_MO_writable_6 : decode m_MO_writable.2.1 6 = .ok (.ifCond .ne 17, 3) := by decide +kernel
theorem d_MO_writable_9 : decode m_MO_writable.2.1 9 = .ok (.aload_n 0, 1) := by decide +kernel
theorem d_MO_writable_10 : decode m_MO_writable.2.1 10 = .ok (.getfield 156, 3) := by decide +kernel
theorem d_MO_writable_13 : decode m_MO_writable.2.1 13 = .ok (.bipush 54, 2) := by decide +kernel
theorem d_MO_writable_15 : decode m_MO_writable.2.1 15 = .ok (.iload_n 1, 1) := by decide +kernel
theorem d_MO_writable_16 : decode m_MO_writable.2.1 16 = .ok (.imul, 1) := by decide +kernel
theorem d_MO_writable_17 : decode m_MO_writable.2.1 17 = .ok (.iload_n 2, 1) := by decide +kernel
theorem d_MO_writable_18 : decode m_MO_writable.2.1 18 = .ok (.iadd, 1) := by decide +kernel
theorem d_MO_writable_19 : decode m_MO_writable.2.1 19 = .ok (.iaload, 1) := by decide +kernel
theorem d_MO_writable_20 : decode m_MO_writable.2.1 20 = .ok (.goto 4, 3) := by decide +kernel
theorem d_MO_writable_23 : decode m_MO_writable.2.1 23 = .ok (.iconst (-1), 1) := by decide +kernel
theorem d_MO_writable_24 : decode m_MO_writable.2.1 24 = .ok (.istore_n 3, 1) := by decide +kernel
theorem d_MO_writable_25 : decode m_MO_writable.2.1 25 = .ok (.iload_n 3, 1) := by decide +kernel
theorem d_MO_writable_26 : decode m_MO_writable.2.1 26 = .ok (.iconst (-1), 1) := by decide +kernel
theorem d_MO_writable_27 : decode m_MO_writable.2.1 27 = .ok (.if_icmp .eq 15, 3) := by decide +kernel
theorem d_MO_writable_30 : decode m_MO_writable.2.1 30 = .ok (.aload_n 0, 1) := by decide +kernel
theorem d_MO_writable_31 : decode m_MO_writable.2.1 31 = .ok (.iload_n 3, 1) := by decide +kernel
theorem d_MO_writable_32 : decode m_MO_writable.2.1 32 = .ok (.invokevirtual 251, 3) := by decide +kernel
theorem d_MO_writable_35 : decode m_MO_writable.2.1 35 = .ok (.ifCond .eq 7, 3) := by decide +kernel
theorem d_MO_writable_38 : decode m_MO_writable.2.1 38 = .ok (.iload_n 3, 1) := by decide +kernel
theorem d_MO_writable_39 : decode m_MO_writable.2.1 39 = .ok (.goto 4, 3) := by decide +kernel
theorem d_MO_writable_42 : decode m_MO_writable.2.1 42 = .ok (.iconst (-1), 1) := by decide +kernel
theorem d_MO_writable_43 : decode m_MO_writable.2.1 43 = .ok (.ireturn, 1) := by decide +kernel
theorem d_MO_write_0 : decode m_MO_write.2.1 0 = .ok (.aload_n 0, 1) := by decide +kernel
theorem d_MO_write_1 : decode m_MO_write.2.1 1 = .ok (.aload_n 0, 1) := by decide +kernel
theorem d_MO_write_2 : decode m_MO_write.2.1 2 = .ok (.iload_n 1, 1) := by decide +kernel
theorem d_MO_write_3 : decode m_MO_write.2.1 3 = .ok (.iload_n 2, 1) := by decide +kernel
theorem d_MO_write_4 : decode m_MO_write.2.1 4 = .ok (.iload_n 3, 1) := by decide +kernel
theorem d_MO_write_5 : decode m_MO_write.2.1 5 = .ok (.invokevirtual 461, 3) := by decide +kernel
theorem d_MO_write_8 : decode m_MO_write.2.1 8 = .ok (.ifCond .ne 7, 3) := by decide +kernel
theorem d_MO_write_11 : decode m_MO_write.2.1 11 = .ok (.iconst 1, 1) := by decide +kernel
theorem d_MO_write_12 : decode m_MO_write.2.1 12 = .ok (.goto 16, 3) := by decide +kernel
theorem d_MO_write_15 : decode m_MO_write.2.1 15 = .ok (.iload 4, 2) := by decide +kernel
theorem d_MO_write_17 : decode m_MO_write.2.1 17 = .ok (.invokestatic 354, 3) := by decide +kernel
theorem d_MO_write_20 : decode m_MO_write.2.1 20 = .ok (.ifCond .eq 7, 3) := by decide +kernel
theorem d_MO_write_23 : decode m_MO_write.2.1 23 = .ok (.iconst 0, 1) := by decide +kernel
theorem d_MO_write_24 : decode m_MO_write.2.1 24 = .ok (.goto 4, 3) := by decide +kernel
theorem d_MO_write_27 : decode m_MO_write.2.1 27 = .ok (.iconst 2, 1) := by decide +kernel
theorem d_MO_write_28 : decode m_MO_write.2.1 28 = .ok (.invokevirtual 292, 3) := by decide +kernel
theorem d_MO_write_31 : decode m_MO_write.2.1 31 = .ok (.ifCond .ne 5, 3) := by decide +kernel
theorem d_MO_write_34 : decode m_MO_write.2.1 34 = .ok (.iconst 0, 1) := by decide +kernel
theorem d_MO_write_35 : decode m_MO_write.2.1 35 = .ok (.ireturn, 1) := by decide +kernel
theorem d_MO_write_36 : decode m_MO_write.2.1 36 = .ok (.aload_n 0, 1) := by decide +kernel
theorem d_MO_write_37 : decode m_MO_write.2.1 37 = .ok (.iload_n 1, 1) := by decide +kernel
theorem d_MO_write_38 : decode m_MO_write.2.1 38 = .ok (.iload_n 3, 1) := by decide +kernel
theorem d_MO_write_39 : decode m_MO_write.2.1 39 = .ok (.invokevirtual 464, 3) := by decide +kernel
theorem d_MO_write_42 : decode m_MO_write.2.1 42 = .ok (.istore 5, 2) := by decide +kernel
theorem d_MO_write_44 : decode m_MO_write.2.1 44 = .ok (.iload 5, 2) := by decide +kernel
theorem d_MO_write_46 : decode m_MO_write.2.1 46 = .ok (.iconst (-1), 1) := by decide +kernel
theorem d_MO_write_47 : decode m_MO_write.2.1 47 = .ok (.if_icmp .ne 15, 3) := by decide +kernel
theorem d_MO_write_50 : decode m_MO_write.2.1 50 = .ok (.aload_n 0, 1) := by decide +kernel
theorem d_MO_write_51 : decode m_MO_write.2.1 51 = .ok (.bipush 7, 2) := by decide +kernel
theorem d_MO_write_53 : decode m_MO_write.2.1 53 = .ok (.iconst (-1), 1) := by decide +kernel
theorem d_MO_write_54 : decode m_MO_write.2.1 54 = .ok (.iconst (-1), 1) := by decide +kernel
theorem d_MO_write_55 : decode m_MO_write.2.1 55 = .ok (.iconst (-1), 1) := by decide +kernel
theorem d_MO_write_56 : decode m_MO_write.2.1 56 = .ok (.invokevirtual 261, 3) := by decide +kernel
theorem d_MO_write_59 : decode m_MO_write.2.1 59 = .ok (.pop, 1) := by decide +kernel
theorem d_MO_write_60 : decode m_MO_write.2.1 60 = .ok (.iconst 0, 1) := by decide +kernel
theorem d_MO_write_61 : decode m_MO_write.2.1 61 = .ok (.ireturn, 1) := by decide +kernel
theorem d_MO_write_62 : decode m_MO_write.2.1 62 = .ok (.aload_n 0, 1) := by decide +kernel
theorem d_MO_write_63 : decode m_MO_write.2.1 63 = .ok (.aload_n 0, 1) := by decide +kernel
theorem d_MO_write_64 : decode m_MO_write.2.1 64 = .ok (.iload 5, 2) := by decide +kernel
theorem d_MO_write_66 : decode m_MO_write.2.1 66 = .ok (.bipush 6, 2) := by decide +kernel
theorem d_MO_write_68 : decode m_MO_write.2.1 68 = .ok (.idiv, 1) := by decide +kernel
theorem d_MO_write_69 : decode m_MO_write.2.1 69 = .ok (.aload_n 0, 1) := by decide +kernel
theorem d_MO_write_70 : decode m_MO_write.2.1 70 = .ok (.getfield 153, 3) := by decide +kernel
theorem d_MO_write_73 : decode m_MO_write.2.1 73 = .ok (.sipush 1620, 3) := by decide +kernel
theorem d_MO_write_76 : decode m_MO_write.2.1 76 = .ok (.iload_n 1, 1) := by decide +kernel
theorem d_MO_write_77 : decode m_MO_write.2.1 77 = .ok (.imul, 1) := by decide +kernel
theorem d_MO_write_78 : decode m_MO_write.2.1 78 = .ok (.bipush 54, 2) := by decide +kernel
theorem d_MO_write_80 : decode m_MO_write.2.1 80 = .ok (.iload_n 2, 1) := by decide +kernel
theorem d_MO_write_81 : decode m_MO_write.2.1 81 = .ok (.imul, 1) := by decide +kernel
theorem d_MO_write_82 : decode m_MO_write.2.1 82 = .ok (.iadd, 1) := by decide +kernel
theorem d_MO_write_83 : decode m_MO_write.2.1 83 = .ok (.iload_n 3, 1) := by decide +kernel
theorem d_MO_write_84 : decode m_MO_write.2.1 84 = .ok (.iadd, 1) := by decide +kernel
theorem d_MO_write_85 : decode m_MO_write.2.1 85 = .ok (.iaload, 1) := by decide +kernel
theorem d_MO_write_86 : decode m_MO_write.2.1 86 = .ok (.iload 5, 2) := by decide +kernel
theorem d_MO_write_88 : decode m_MO_write.2.1 88 = .ok (.bipush 6, 2) := by decide +kernel
theorem d_MO_write_90 : decode m_MO_write.2.1 90 = .ok (.irem, 1) := by decide +kernel
theorem d_MO_write_91 : decode m_MO_write.2.1 91 = .ok (.iload 4, 2) := by decide +kernel
theorem d_MO_write_93 : decode m_MO_write.2.1 93 = .ok (.invokevirtual 370, 3) := by decide +kernel
theorem d_MO_write_96 : decode m_MO_write.2.1 96 = .ok (.invokevirtual 328, 3) := by decide +kernel
theorem d_MO_write_99 : decode m_MO_write.2.1 99 = .ok (.ireturn, 1) := by decide +kernel
theorem d_MO_writesCell_0 : decode m_MO_writesCell.2.1 0 = .ok (.aload_n 0, 1) := by decide +kernel
theorem d_MO_writesCell_1 : decode m_MO_writesCell.2.1 1 = .ok (.bipush 6, 2) := by decide +kernel
theorem d_MO_writesCell_3 : decode m_MO_writesCell.2.1 3 = .ok (.invokevirtual 322, 3) := by decide +kernel
theorem d_MO_writesCell_6 : decode m_MO_writesCell.2.1 6 = .ok (.aload_n 0, 1) := by decide +kernel
theorem d_MO_writesCell_7 : decode m_MO_writesCell.2.1 7 = .ok (.getfield 77, 3) := by decide +kernel
theorem d_MO_writesCell_10 : decode m_MO_writesCell.2.1 10 = .ok (.iload_n 1, 1) := by decide +kernel
theorem d_MO_writesCell_11 : decode m_MO_writesCell.2.1 11 = .ok (.iload_n 2, 1) := by decide +kernel
theorem d_MO_writesCell_12 : decode m_MO_writesCell.2.1 12 = .ok (.iload_n 3, 1) := by decide +kernel
theorem d_MO_writesCell_13 : decode m_MO_writesCell.2.1 13 = .ok (.invokestatic 225, 3) := by decide +kernel
theorem d_MO_writesCell_16 : decode m_MO_writesCell.2.1 16 = .ok (.iload 4, 2) := by decide +kernel
theorem d_MO_writesCell_18 : decode m_MO_writesCell.2.1 18 = .ok (.iastore, 1) := by decide +kernel
theorem d_MO_writesCell_19 : decode m_MO_writesCell.2.1 19 = .ok (.aload_n 0, 1) := by decide +kernel
theorem d_MO_writesCell_20 : decode m_MO_writesCell.2.1 20 = .ok (.invokevirtual 325, 3) := by decide +kernel
theorem d_MO_writesCell_23 : decode m_MO_writesCell.2.1 23 = .ok (.ireturn, 1) := by decide +kernel

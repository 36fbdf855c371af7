theorem d_LH_cell_0 : decode m_LH_cell.2.1 0 = .ok (.iload_n 1, 1) := by decide +kernel
theorem d_LH_cell_1 : decode m_LH_cell.2.1 1 = .ok (.aload_n 0, 1) := by decide +kernel
theorem d_LH_cell_2 : decode m_LH_cell.2.1 2 = .ok (.arraylength, 1) := by decide +kernel
theorem d_LH_cell_3 : decode m_LH_cell.2.1 3 = .ok (.if_icmp .ge 9, 3) := by decide +kernel
theorem d_LH_cell_6 : decode m_LH_cell.2.1 6 = .ok (.aload_n 0, 1) := by decide +kernel
theorem d_LH_cell_7 : decode m_LH_cell.2.1 7 = .ok (.iload_n 1, 1) := by decide +kernel
theorem d_LH_cell_8 : decode m_LH_cell.2.1 8 = .ok (.iaload, 1) := by decide +kernel
theorem d_LH_cell_9 : decode m_LH_cell.2.1 9 = .ok (.goto 18, 3) := by decide +kernel
theorem d_LH_cell_12 : decode m_LH_cell.2.1 12 = .ok (.sipush 7919, 3) := by decide +kernel
theorem d_LH_cell_15 : decode m_LH_cell.2.1 15 = .ok (.iload_n 1, 1) := by decide +kernel
theorem d_LH_cell_16 : decode m_LH_cell.2.1 16 = .ok (.sipush 1051, 3) := by decide +kernel
theorem d_LH_cell_19 : decode m_LH_cell.2.1 19 = .ok (.iadd, 1) := by decide +kernel
theorem d_LH_cell_20 : decode m_LH_cell.2.1 20 = .ok (.imul, 1) := by decide +kernel
theorem d_LH_cell_21 : decode m_LH_cell.2.1 21 = .ok (.iload_n 1, 1) := by decide +kernel
theorem d_LH_cell_22 : decode m_LH_cell.2.1 22 = .ok (.sipush 3511, 3) := by decide +kernel
theorem d_LH_cell_25 : decode m_LH_cell.2.1 25 = .ok (.iadd, 1) := by decide +kernel
theorem d_LH_cell_26 : decode m_LH_cell.2.1 26 = .ok (.imul, 1) := by decide +kernel
theorem d_LH_cell_27 : decode m_LH_cell.2.1 27 = .ok (.ireturn, 1) := by decide +kernel
theorem d_LH_low_0 : decode m_LH_low.2.1 0 = .ok (.iload_n 0, 1) := by decide +kernel
theorem d_LH_low_1 : decode m_LH_low.2.1 1 = .ok (.ldc 7, 2) := by decide +kernel
theorem d_LH_low_3 : decode m_LH_low.2.1 3 = .ok (.iand, 1) := by decide +kernel
theorem d_LH_low_4 : decode m_LH_low.2.1 4 = .ok (.iload_n 1, 1) := by decide +kernel
theorem d_LH_low_5 : decode m_LH_low.2.1 5 = .ok (.irem, 1) := by decide +kernel
theorem d_LH_low_6 : decode m_LH_low.2.1 6 = .ok (.ireturn, 1) := by decide +kernel
theorem d_LH_does_0 : decode m_LH_does.2.1 0 = .ok (.iload_n 1, 1) := by decide +kernel
theorem d_LH_does_1 : decode m_LH_does.2.1 1 = .ok (.ifCond .ne 10, 3) := by decide +kernel
theorem d_LH_does_4 : decode m_LH_does.2.1 4 = .ok (.aload_n 0, 1) := by decide +kernel
theorem d_LH_does_5 : decode m_LH_does.2.1 5 = .ok (.invokevirtual 8, 3) := by decide +kernel
theorem d_LH_does_8 : decode m_LH_does.2.1 8 = .ok (.goto 167, 3) := by decide +kernel
theorem d_LH_does_11 : decode m_LH_does.2.1 11 = .ok (.iload_n 1, 1) := by decide +kernel
theorem d_LH_does_12 : decode m_LH_does.2.1 12 = .ok (.iconst 1, 1) := by decide +kernel
theorem d_LH_does_13 : decode m_LH_does.2.1 13 = .ok (.if_icmp .ne 14, 3) := by decide +kernel
theorem d_LH_does_16 : decode m_LH_does.2.1 16 = .ok (.aload_n 0, 1) := by decide +kernel
theorem d_LH_does_17 : decode m_LH_does.2.1 17 = .ok (.iload_n 2, 1) := by decide +kernel
theorem d_LH_does_18 : decode m_LH_does.2.1 18 = .ok (.iload_n 3, 1) := by decide +kernel
theorem d_LH_does_19 : decode m_LH_does.2.1 19 = .ok (.iload 4, 2) := by decide +kernel
theorem d_LH_does_21 : decode m_LH_does.2.1 21 = .ok (.invokevirtual 14, 3) := by decide +kernel
theorem d_LH_does_24 : decode m_LH_does.2.1 24 = .ok (.goto 151, 3) := by decide +kernel
theorem d_LH_does_27 : decode m_LH_does.2.1 27 = .ok (.iload_n 1, 1) := by decide +kernel
theorem d_LH_does_28 : decode m_LH_does.2.1 28 = .ok (.iconst 2, 1) := by decide +kernel
theorem d_LH_does_29 : decode m_LH_does.2.1 29 = .ok (.if_icmp .ne 14, 3) := by decide +kernel
theorem d_LH_does_32 : decode m_LH_does.2.1 32 = .ok (.aload_n 0, 1) := by decide +kernel
theorem d_LH_does_33 : decode m_LH_does.2.1 33 = .ok (.iload_n 2, 1) := by decide +kernel
theorem d_LH_does_34 : decode m_LH_does.2.1 34 = .ok (.iload_n 3, 1) := by decide +kernel
theorem d_LH_does_35 : decode m_LH_does.2.1 35 = .ok (.iload 4, 2) := by decide +kernel
theorem d_LH_does_37 : decode m_LH_does.2.1 37 = .ok (.invokevirtual 18, 3) := by decide +kernel
theorem d_LH_does_40 : decode m_LH_does.2.1 40 = .ok (.goto 135, 3) := by decide +kernel
theorem d_LH_does_43 : decode m_LH_does.2.1 43 = .ok (.iload_n 1, 1) := by decide +kernel
theorem d_LH_does_44 : decode m_LH_does.2.1 44 = .ok (.iconst 3, 1) := by decide +kernel
theorem d_LH_does_45 : decode m_LH_does.2.1 45 = .ok (.if_icmp .ne 10, 3) := by decide +kernel
theorem d_LH_does_48 : decode m_LH_does.2.1 48 = .ok (.aload_n 0, 1) := by decide +kernel
theorem d_LH_does_49 : decode m_LH_does.2.1 49 = .ok (.invokevirtual 21, 3) := by decide +kernel
theorem d_LH_does_52 : decode m_LH_does.2.1 52 = .ok (.goto 123, 3) := by decide +kernel
theorem d_LH_does_55 : decode m_LH_does.2.1 55 = .ok (.iload_n 1, 1) := by decide +kernel
theorem d_LH_does_56 : decode m_LH_does.2.1 56 = .ok (.iconst 4, 1) := by decide +kernel
theorem d_LH_does_57 : decode m_LH_does.2.1 57 = .ok (.if_icmp .ne 11, 3) := by decide +kernel
theorem d_LH_does_60 : decode m_LH_does.2.1 60 = .ok (.aload_n 0, 1) := by decide +kernel
theorem d_LH_does_61 : decode m_LH_does.2.1 61 = .ok (.iload_n 2, 1) := by decide +kernel
theorem d_LH_does_62 : decode m_LH_does.2.1 62 = .ok (.invokevirtual 24, 3) := by decide +kernel
theorem d_LH_does_65 : decode m_LH_does.2.1 65 = .ok (.goto 110, 3) := by decide +kernel
theorem d_LH_does_68 : decode m_LH_does.2.1 68 = .ok (.iload_n 1, 1) := by decide +kernel
theorem d_LH_does_69 : decode m_LH_does.2.1 69 = .ok (.iconst 5, 1) := by decide +kernel
theorem d_LH_does_70 : decode m_LH_does.2.1 70 = .ok (.if_icmp .ne 12, 3) := by decide +kernel
theorem d_LH_does_73 : decode m_LH_does.2.1 73 = .ok (.aload_n 0, 1) := by decide +kernel
theorem d_LH_does_74 : decode m_LH_does.2.1 74 = .ok (.iload_n 2, 1) := by decide +kernel
theorem d_LH_does_75 : decode m_LH_does.2.1 75 = .ok (.iload_n 3, 1) := by decide +kernel
theorem d_LH_does_76 : decode m_LH_does.2.1 76 = .ok (.invokevirtual 28, 3) := by decide +kernel
theorem d_LH_does_79 : decode m_LH_does.2.1 79 = .ok (.goto 96, 3) := by decide +kernel
theorem d_LH_does_82 : decode m_LH_does.2.1 82 = .ok (.iload_n 1, 1) := by decide +kernel
theorem d_LH_does_83 : decode m_LH_does.2.1 83 = .ok (.bipush 6, 2) := by decide +kernel
theorem d_LH_does_85 : decode m_LH_does.2.1 85 = .ok (.if_icmp .ne 11, 3) := by decide +kernel
theorem d_LH_does_88 : decode m_LH_does.2.1 88 = .ok (.aload_n 0, 1) := by decide +kernel
theorem d_LH_does_89 : decode m_LH_does.2.1 89 = .ok (.iload_n 2, 1) := by decide +kernel
theorem d_LH_does_90 : decode m_LH_does.2.1 90 = .ok (.invokevirtual 32, 3) := by decide +kernel
theorem d_LH_does_93 : decode m_LH_does.2.1 93 = .ok (.goto 82, 3) := by decide +kernel
theorem d_LH_does_96 : decode m_LH_does.2.1 96 = .ok (.iload_n 1, 1) := by decide +kernel
theorem d_LH_does_97 : decode m_LH_does.2.1 97 = .ok (.bipush 7, 2) := by decide +kernel
theorem d_LH_does_99 : decode m_LH_does.2.1 99 = .ok (.if_icmp .ne 12, 3) := by decide +kernel
theorem d_LH_does_102 : decode m_LH_does.2.1 102 = .ok (.aload_n 0, 1) := by decide +kernel
theorem d_LH_does_103 : decode m_LH_does.2.1 103 = .ok (.iload_n 2, 1) := by decide +kernel
theorem d_LH_does_104 : decode m_LH_does.2.1 104 = .ok (.iload_n 3, 1) := by decide +kernel
theorem d_LH_does_105 : decode m_LH_does.2.1 105 = .ok (.invokevirtual 35, 3) := by decide +kernel
theorem d_LH_does_108 : decode m_LH_does.2.1 108 = .ok (.goto 67, 3) := by decide +kernel
theorem d_LH_does_111 : decode m_LH_does.2.1 111 = .ok (.iload_n 1, 1) := by decide +kernel
theorem d_LH_does_112 : decode m_LH_does.2.1 112 = .ok (.bipush 8, 2) := by decide +kernel
theorem d_LH_does_114 : decode m_LH_does.2.1 114 = .ok (.if_icmp .ne 20, 3) := by decide +kernel
theorem d_LH_does_117 : decode m_LH_does.2.1 117 = .ok (.aload_n 0, 1) := by decide +kernel
theorem d_LH_does_118 : decode m_LH_does.2.1 118 = .ok (.iload_n 2, 1) := by decide +kernel
theorem d_LH_does_119 : decode m_LH_does.2.1 119 = .ok (.iload_n 3, 1) := by decide +kernel
theorem d_LH_does_120 : decode m_LH_does.2.1 120 = .ok (.invokevirtual 38, 3) := by decide +kernel
theorem d_LH_does_123 : decode m_LH_does.2.1 123 = .ok (.ifCond .eq 7, 3) := by decide +kernel
theorem d_LH_does_126 : decode m_LH_does.2.1 126 = .ok (.iconst 1, 1) := by decide +kernel
theorem d_LH_does_127 : decode m_LH_does.2.1 127 = .ok (.goto 48, 3) := by decide +kernel
theorem d_LH_does_130 : decode m_LH_does.2.1 130 = .ok (.iconst 0, 1) := by decide +kernel
theorem d_LH_does_131 : decode m_LH_does.2.1 131 = .ok (.goto 44, 3) := by decide +kernel
theorem d_LH_does_134 : decode m_LH_does.2.1 134 = .ok (.iload_n 1, 1) := by decide +kernel
theorem d_LH_does_135 : decode m_LH_does.2.1 135 = .ok (.bipush 9, 2) := by decide +kernel
theorem d_LH_does_137 : decode m_LH_does.2.1 137 = .ok (.if_icmp .ne 12, 3) := by decide +kernel
theorem d_LH_does_140 : decode m_LH_does.2.1 140 = .ok (.aload_n 0, 1) := by decide +kernel
theorem d_LH_does_141 : decode m_LH_does.2.1 141 = .ok (.iload_n 2, 1) := by decide +kernel
theorem d_LH_does_142 : decode m_LH_does.2.1 142 = .ok (.iload_n 3, 1) := by decide +kernel
theorem d_LH_does_143 : decode m_LH_does.2.1 143 = .ok (.invokestatic 42, 3) := by decide +kernel
theorem d_LH_does_146 : decode m_LH_does.2.1 146 = .ok (.goto 29, 3) := by decide +kernel
theorem d_LH_does_149 : decode m_LH_does.2.1 149 = .ok (.iload_n 1, 1) := by decide +kernel
theorem d_LH_does_150 : decode m_LH_does.2.1 150 = .ok (.bipush 10, 2) := by decide +kernel
theorem d_LH_does_152 : decode m_LH_does.2.1 152 = .ok (.if_icmp .ne 10, 3) := by decide +kernel
theorem d_LH_does_155 : decode m_LH_does.2.1 155 = .ok (.aload_n 0, 1) := by decide +kernel
theorem d_LH_does_156 : decode m_LH_does.2.1 156 = .ok (.invokevirtual 48, 3) := by decide +kernel
theorem d_LH_does_159 : decode m_LH_does.2.1 159 = .ok (.goto 16, 3) := by decide +kernel
theorem d_LH_does_162 : decode m_LH_does.2.1 162 = .ok (.aload_n 0, 1) := by decide +kernel
theorem d_LH_does_163 : decode m_LH_does.2.1 163 = .ok (.iload_n 2, 1) := by decide +kernel
theorem d_LH_does_164 : decode m_LH_does.2.1 164 = .ok (.invokevirtual 51, 3) := by decide +kernel
theorem d_LH_does_167 : decode m_LH_does.2.1 167 = .ok (.ifCond .eq 7, 3) := by decide +kernel
theorem d_LH_does_170 : decode m_LH_does.2.1 170 = .ok (.iconst 1, 1) := by decide +kernel
theorem d_LH_does_171 : decode m_LH_does.2.1 171 = .ok (.goto 4, 3) := by decide +kernel
theorem d_LH_does_174 : decode m_LH_does.2.1 174 = .ok (.iconst 0, 1) := by decide +kernel
theorem d_LH_does_175 : decode m_LH_does.2.1 175 = .ok (.ireturn, 1) := by decide +kernel
theorem d_LH_does_176 : decode m_LH_does.2.1 176 = .ok (.astore 5, 2) := by decide +kernel
theorem d_LH_does_178 : decode m_LH_does.2.1 178 = .ok (.ldc 57, 2) := by decide +kernel
theorem d_LH_does_180 : decode m_LH_does.2.1 180 = .ok (.ireturn, 1) := by decide +kernel
theorem d_LH_does_181 : decode m_LH_does.2.1 181 = .ok (.astore 5, 2) := by decide +kernel
theorem d_LH_does_183 : decode m_LH_does.2.1 183 = .ok (.ldc 57, 2) := by decide +kernel
theorem d_LH_does_185 : decode m_LH_does.2.1 185 = .ok (.ireturn, 1) := by decide +kernel
theorem d_LH_does_186 : decode m_LH_does.2.1 186 = .ok (.astore 5, 2) := by decide +kernel
theorem d_LH_does_188 : decode m_LH_does.2.1 188 = .ok (.ldc 57, 2) := by decide +kernel
theorem d_LH_does_190 : decode m_LH_does.2.1 190 = .ok (.ireturn, 1) := by decide +kernel
theorem d_LH_opens_0 : decode m_LH_opens.2.1 0 = .ok (.aload_n 0, 1) := by decide +kernel
theorem d_LH_opens_1 : decode m_LH_opens.2.1 1 = .ok (.iload_n 1, 1) := by decide +kernel
theorem d_LH_opens_2 : decode m_LH_opens.2.1 2 = .ok (.iload_n 2, 1) := by decide +kernel
theorem d_LH_opens_3 : decode m_LH_opens.2.1 3 = .ok (.invokevirtual 62, 3) := by decide +kernel
theorem d_LH_opens_6 : decode m_LH_opens.2.1 6 = .ok (.iconst 0, 1) := by decide +kernel
theorem d_LH_opens_7 : decode m_LH_opens.2.1 7 = .ok (.ireturn, 1) := by decide +kernel
theorem d_LH_sets_0 : decode m_LH_sets.2.1 0 = .ok (.iload_n 1, 1) := by decide +kernel
theorem d_LH_sets_1 : decode m_LH_sets.2.1 1 = .ok (.ifCond .ne 18, 3) := by decide +kernel
theorem d_LH_sets_4 : decode m_LH_sets.2.1 4 = .ok (.aload_n 0, 1) := by decide +kernel
theorem d_LH_sets_5 : decode m_LH_sets.2.1 5 = .ok (.iload_n 2, 1) := by decide +kernel
theorem d_LH_sets_6 : decode m_LH_sets.2.1 6 = .ok (.iload_n 3, 1) := by decide +kernel
theorem d_LH_sets_7 : decode m_LH_sets.2.1 7 = .ok (.iload 4, 2) := by decide +kernel
theorem d_LH_sets_9 : decode m_LH_sets.2.1 9 = .ok (.iload 5, 2) := by decide +kernel
theorem d_LH_sets_11 : decode m_LH_sets.2.1 11 = .ok (.iload 6, 2) := by decide +kernel
theorem d_LH_sets_13 : decode m_LH_sets.2.1 13 = .ok (.invokevirtual 66, 3) := by decide +kernel
theorem d_LH_sets_16 : decode m_LH_sets.2.1 16 = .ok (.goto 273, 3) := by decide +kernel
theorem d_LH_sets_19 : decode m_LH_sets.2.1 19 = .ok (.iload_n 1, 1) := by decide +kernel
theorem d_LH_sets_20 : decode m_LH_sets.2.1 20 = .ok (.iconst 1, 1) := by decide +kernel
theorem d_LH_sets_21 : decode m_LH_sets.2.1 21 = .ok (.if_icmp .ne 28, 3) := by decide +kernel
theorem d_LH_sets_24 : decode m_LH_sets.2.1 24 = .ok (.aload_n 0, 1) := by decide +kernel
theorem d_LH_sets_25 : decode m_LH_sets.2.1 25 = .ok (.iload_n 2, 1) := by decide +kernel
theorem d_LH_sets_26 : decode m_LH_sets.2.1 26 = .ok (.iload_n 3, 1) := by decide +kernel
theorem d_LH_sets_27 : decode m_LH_sets.2.1 27 = .ok (.iload 4, 2) := by decide +kernel
theorem d_LH_sets_29 : decode m_LH_sets.2.1 29 = .ok (.iload 5, 2) := by decide +kernel
theorem d_LH_sets_31 : decode m_LH_sets.2.1 31 = .ok (.iload 6, 2) := by decide +kernel
theorem d_LH_sets_33 : decode m_LH_sets.2.1 33 = .ok (.iload 7, 2) := by decide +kernel
theorem d_LH_sets_35 : decode m_LH_sets.2.1 35 = .ok (.invokevirtual 70, 3) := by decide +kernel
theorem d_LH_sets_38 : decode m_LH_sets.2.1 38 = .ok (.ifCond .eq 7, 3) := by decide +kernel
theorem d_LH_sets_41 : decode m_LH_sets.2.1 41 = .ok (.iconst 1, 1) := by decide +kernel
theorem d_LH_sets_42 : decode m_LH_sets.2.1 42 = .ok (.goto 247, 3) := by decide +kernel
theorem d_LH_sets_45 : decode m_LH_sets.2.1 45 = .ok (.iconst 0, 1) := by decide +kernel
theorem d_LH_sets_46 : decode m_LH_sets.2.1 46 = .ok (.goto 243, 3) := by decide +kernel
theorem d_LH_sets_49 : decode m_LH_sets.2.1 49 = .ok (.iload_n 1, 1) := by decide +kernel
theorem d_LH_sets_50 : decode m_LH_sets.2.1 50 = .ok (.iconst 2, 1) := by decide +kernel
theorem d_LH_sets_51 : decode m_LH_sets.2.1 51 = .ok (.if_icmp .ne 31, 3) := by decide +kernel
theorem d_LH_sets_54 : decode m_LH_sets.2.1 54 = .ok (.aload_n 0, 1) := by decide +kernel
theorem d_LH_sets_55 : decode m_LH_sets.2.1 55 = .ok (.iload_n 2, 1) := by decide +kernel
theorem d_LH_sets_56 : decode m_LH_sets.2.1 56 = .ok (.iload_n 3, 1) := by decide +kernel
theorem d_LH_sets_57 : decode m_LH_sets.2.1 57 = .ok (.iload 4, 2) := by decide +kernel
theorem d_LH_sets_59 : decode m_LH_sets.2.1 59 = .ok (.iconst 1, 1) := by decide +kernel
theorem d_LH_sets_60 : decode m_LH_sets.2.1 60 = .ok (.if_icmp .ne 7, 3) := by decide +kernel
theorem d_LH_sets_63 : decode m_LH_sets.2.1 63 = .ok (.iconst 1, 1) := by decide +kernel
theorem d_LH_sets_64 : decode m_LH_sets.2.1 64 = .ok (.goto 4, 3) := by decide +kernel
theorem d_LH_sets_67 : decode m_LH_sets.2.1 67 = .ok (.iconst 0, 1) := by decide +kernel
theorem d_LH_sets_68 : decode m_LH_sets.2.1 68 = .ok (.invokevirtual 74, 3) := by decide +kernel
theorem d_LH_sets_71 : decode m_LH_sets.2.1 71 = .ok (.ifCond .eq 7, 3) := by decide +kernel
theorem d_LH_sets_74 : decode m_LH_sets.2.1 74 = .ok (.iconst 1, 1) := by decide +kernel
theorem d_LH_sets_75 : decode m_LH_sets.2.1 75 = .ok (.goto 214, 3) := by decide +kernel
theorem d_LH_sets_78 : decode m_LH_sets.2.1 78 = .ok (.iconst 0, 1) := by decide +kernel
theorem d_LH_sets_79 : decode m_LH_sets.2.1 79 = .ok (.goto 210, 3) := by decide +kernel
theorem d_LH_sets_82 : decode m_LH_sets.2.1 82 = .ok (.iload_n 1, 1) := by decide +kernel
theorem d_LH_sets_83 : decode m_LH_sets.2.1 83 = .ok (.iconst 3, 1) := by decide +kernel
theorem d_LH_sets_84 : decode m_LH_sets.2.1 84 = .ok (.if_icmp .ne 31, 3) := by decide +kernel
theorem d_LH_sets_87 : decode m_LH_sets.2.1 87 = .ok (.aload_n 0, 1) := by decide +kernel
theorem d_LH_sets_88 : decode m_LH_sets.2.1 88 = .ok (.iload_n 2, 1) := by decide +kernel
theorem d_LH_sets_89 : decode m_LH_sets.2.1 89 = .ok (.iload_n 3, 1) := by decide +kernel
theorem d_LH_sets_90 : decode m_LH_sets.2.1 90 = .ok (.iload 4, 2) := by decide +kernel
theorem d_LH_sets_92 : decode m_LH_sets.2.1 92 = .ok (.iconst 1, 1) := by decide +kernel
theorem d_LH_sets_93 : decode m_LH_sets.2.1 93 = .ok (.if_icmp .ne 7, 3) := by decide +kernel
theorem d_LH_sets_96 : decode m_LH_sets.2.1 96 = .ok (.iconst 1, 1) := by decide +kernel
theorem d_LH_sets_97 : decode m_LH_sets.2.1 97 = .ok (.goto 4, 3) := by decide +kernel
theorem d_LH_sets_100 : decode m_LH_sets.2.1 100 = .ok (.iconst 0, 1) := by decide +kernel
theorem d_LH_sets_101 : decode m_LH_sets.2.1 101 = .ok (.invokevirtual 78, 3) := by decide +kernel
theorem d_LH_sets_104 : decode m_LH_sets.2.1 104 = .ok (.ifCond .eq 7, 3) := by decide +kernel
theorem d_LH_sets_107 : decode m_LH_sets.2.1 107 = .ok (.iconst 1, 1) := by decide +kernel
theorem d_LH_sets_108 : decode m_LH_sets.2.1 108 = .ok (.goto 181, 3) := by decide +kernel
theorem d_LH_sets_111 : decode m_LH_sets.2.1 111 = .ok (.iconst 0, 1) := by decide +kernel
theorem d_LH_sets_112 : decode m_LH_sets.2.1 112 = .ok (.goto 177, 3) := by decide +kernel
theorem d_LH_sets_115 : decode m_LH_sets.2.1 115 = .ok (.iload_n 1, 1) := by decide +kernel
theorem d_LH_sets_116 : decode m_LH_sets.2.1 116 = .ok (.iconst 4, 1) := by decide +kernel
theorem d_LH_sets_117 : decode m_LH_sets.2.1 117 = .ok (.if_icmp .ne 24, 3) := by decide +kernel
theorem d_LH_sets_120 : decode m_LH_sets.2.1 120 = .ok (.aload_n 0, 1) := by decide +kernel
theorem d_LH_sets_121 : decode m_LH_sets.2.1 121 = .ok (.iload_n 2, 1) := by decide +kernel
theorem d_LH_sets_122 : decode m_LH_sets.2.1 122 = .ok (.iload_n 3, 1) := by decide +kernel
theorem d_LH_sets_123 : decode m_LH_sets.2.1 123 = .ok (.iload 4, 2) := by decide +kernel
theorem d_LH_sets_125 : decode m_LH_sets.2.1 125 = .ok (.iload 5, 2) := by decide +kernel
theorem d_LH_sets_127 : decode m_LH_sets.2.1 127 = .ok (.invokevirtual 81, 3) := by decide +kernel
theorem d_LH_sets_130 : decode m_LH_sets.2.1 130 = .ok (.ifCond .eq 7, 3) := by decide +kernel
theorem d_LH_sets_133 : decode m_LH_sets.2.1 133 = .ok (.iconst 1, 1) := by decide +kernel
theorem d_LH_sets_134 : decode m_LH_sets.2.1 134 = .ok (.goto 155, 3) := by decide +kernel
theorem d_LH_sets_137 : decode m_LH_sets.2.1 137 = .ok (.iconst 0, 1) := by decide +kernel
theorem d_LH_sets_138 : decode m_LH_sets.2.1 138 = .ok (.goto 151, 3) := by decide +kernel
theorem d_LH_sets_141 : decode m_LH_sets.2.1 141 = .ok (.iload_n 1, 1) := by decide +kernel
theorem d_LH_sets_142 : decode m_LH_sets.2.1 142 = .ok (.iconst 5, 1) := by decide +kernel
theorem d_LH_sets_143 : decode m_LH_sets.2.1 143 = .ok (.if_icmp .ne 20, 3) := by decide +kernel
theorem d_LH_sets_146 : decode m_LH_sets.2.1 146 = .ok (.aload_n 0, 1) := by decide +kernel
theorem d_LH_sets_147 : decode m_LH_sets.2.1 147 = .ok (.iload_n 2, 1) := by decide +kernel
theorem d_LH_sets_148 : decode m_LH_sets.2.1 148 = .ok (.iload_n 3, 1) := by decide +kernel
theorem d_LH_sets_149 : decode m_LH_sets.2.1 149 = .ok (.invokevirtual 85, 3) := by decide +kernel
theorem d_LH_sets_152 : decode m_LH_sets.2.1 152 = .ok (.ifCond .eq 7, 3) := by decide +kernel
theorem d_LH_sets_155 : decode m_LH_sets.2.1 155 = .ok (.iconst 1, 1) := by decide +kernel
theorem d_LH_sets_156 : decode m_LH_sets.2.1 156 = .ok (.goto 133, 3) := by decide +kernel
theorem d_LH_sets_159 : decode m_LH_sets.2.1 159 = .ok (.iconst 0, 1) := by decide +kernel
theorem d_LH_sets_160 : decode m_LH_sets.2.1 160 = .ok (.goto 129, 3) := by decide +kernel
theorem d_LH_sets_163 : decode m_LH_sets.2.1 163 = .ok (.iload_n 1, 1) := by decide +kernel
theorem d_LH_sets_164 : decode m_LH_sets.2.1 164 = .ok (.bipush 6, 2) := by decide +kernel
theorem d_LH_sets_166 : decode m_LH_sets.2.1 166 = .ok (.if_icmp .ne 14, 3) := by decide +kernel
theorem d_LH_sets_169 : decode m_LH_sets.2.1 169 = .ok (.aload_n 0, 1) := by decide +kernel
theorem d_LH_sets_170 : decode m_LH_sets.2.1 170 = .ok (.iload_n 2, 1) := by decide +kernel
theorem d_LH_sets_171 : decode m_LH_sets.2.1 171 = .ok (.iload_n 3, 1) := by decide +kernel
theorem d_LH_sets_172 : decode m_LH_sets.2.1 172 = .ok (.iload 4, 2) := by decide +kernel
theorem d_LH_sets_174 : decode m_LH_sets.2.1 174 = .ok (.invokevirtual 88, 3) := by decide +kernel
theorem d_LH_sets_177 : decode m_LH_sets.2.1 177 = .ok (.goto 112, 3) := by decide +kernel
theorem d_LH_sets_180 : decode m_LH_sets.2.1 180 = .ok (.iload_n 1, 1) := by decide +kernel
theorem d_LH_sets_181 : decode m_LH_sets.2.1 181 = .ok (.bipush 7, 2) := by decide +kernel
theorem d_LH_sets_183 : decode m_LH_sets.2.1 183 = .ok (.if_icmp .ne 18, 3) := by decide +kernel
theorem d_LH_sets_186 : decode m_LH_sets.2.1 186 = .ok (.aload_n 0, 1) := by decide +kernel
theorem d_LH_sets_187 : decode m_LH_sets.2.1 187 = .ok (.iload_n 2, 1) := by decide +kernel
theorem d_LH_sets_188 : decode m_LH_sets.2.1 188 = .ok (.iload_n 3, 1) := by decide +kernel
theorem d_LH_sets_189 : decode m_LH_sets.2.1 189 = .ok (.iload 4, 2) := by decide +kernel
theorem d_LH_sets_191 : decode m_LH_sets.2.1 191 = .ok (.iload 5, 2) := by decide +kernel
theorem d_LH_sets_193 : decode m_LH_sets.2.1 193 = .ok (.iload 6, 2) := by decide +kernel
theorem d_LH_sets_195 : decode m_LH_sets.2.1 195 = .ok (.invokevirtual 91, 3) := by decide +kernel
theorem d_LH_sets_198 : decode m_LH_sets.2.1 198 = .ok (.goto 91, 3) := by decide +kernel
theorem d_LH_sets_201 : decode m_LH_sets.2.1 201 = .ok (.iload_n 1, 1) := by decide +kernel
theorem d_LH_sets_202 : decode m_LH_sets.2.1 202 = .ok (.bipush 8, 2) := by decide +kernel
theorem d_LH_sets_204 : decode m_LH_sets.2.1 204 = .ok (.if_icmp .ne 24, 3) := by decide +kernel
theorem d_LH_sets_207 : decode m_LH_sets.2.1 207 = .ok (.aload_n 0, 1) := by decide +kernel
theorem d_LH_sets_208 : decode m_LH_sets.2.1 208 = .ok (.iload_n 2, 1) := by decide +kernel
theorem d_LH_sets_209 : decode m_LH_sets.2.1 209 = .ok (.iload_n 3, 1) := by decide +kernel
theorem d_LH_sets_210 : decode m_LH_sets.2.1 210 = .ok (.iload 4, 2) := by decide +kernel
theorem d_LH_sets_212 : decode m_LH_sets.2.1 212 = .ok (.iload 5, 2) := by decide +kernel
theorem d_LH_sets_214 : decode m_LH_sets.2.1 214 = .ok (.invokevirtual 94, 3) := by decide +kernel
theorem d_LH_sets_217 : decode m_LH_sets.2.1 217 = .ok (.ifCond .eq 7, 3) := by decide +kernel
theorem d_LH_sets_220 : decode m_LH_sets.2.1 220 = .ok (.iconst 1, 1) := by decide +kernel
theorem d_LH_sets_221 : decode m_LH_sets.2.1 221 = .ok (.goto 68, 3) := by decide +kernel
theorem d_LH_sets_224 : decode m_LH_sets.2.1 224 = .ok (.iconst 0, 1) := by decide +kernel
theorem d_LH_sets_225 : decode m_LH_sets.2.1 225 = .ok (.goto 64, 3) := by decide +kernel
theorem d_LH_sets_228 : decode m_LH_sets.2.1 228 = .ok (.iload_n 1, 1) := by decide +kernel
theorem d_LH_sets_229 : decode m_LH_sets.2.1 229 = .ok (.bipush 9, 2) := by decide +kernel
theorem d_LH_sets_231 : decode m_LH_sets.2.1 231 = .ok (.if_icmp .ne 16, 3) := by decide +kernel
theorem d_LH_sets_234 : decode m_LH_sets.2.1 234 = .ok (.aload_n 0, 1) := by decide +kernel
theorem d_LH_sets_235 : decode m_LH_sets.2.1 235 = .ok (.iload_n 2, 1) := by decide +kernel
theorem d_LH_sets_236 : decode m_LH_sets.2.1 236 = .ok (.iload_n 3, 1) := by decide +kernel
theorem d_LH_sets_237 : decode m_LH_sets.2.1 237 = .ok (.iload 4, 2) := by decide +kernel
theorem d_LH_sets_239 : decode m_LH_sets.2.1 239 = .ok (.iload 5, 2) := by decide +kernel
theorem d_LH_sets_241 : decode m_LH_sets.2.1 241 = .ok (.invokevirtual 97, 3) := by decide +kernel
theorem d_LH_sets_244 : decode m_LH_sets.2.1 244 = .ok (.goto 45, 3) := by decide +kernel
theorem d_LH_sets_247 : decode m_LH_sets.2.1 247 = .ok (.iload_n 1, 1) := by decide +kernel
theorem d_LH_sets_248 : decode m_LH_sets.2.1 248 = .ok (.bipush 10, 2) := by decide +kernel
theorem d_LH_sets_250 : decode m_LH_sets.2.1 250 = .ok (.if_icmp .ne 14, 3) := by decide +kernel
theorem d_LH_sets_253 : decode m_LH_sets.2.1 253 = .ok (.aload_n 0, 1) := by decide +kernel
theorem d_LH_sets_254 : decode m_LH_sets.2.1 254 = .ok (.iload_n 2, 1) := by decide +kernel
theorem d_LH_sets_255 : decode m_LH_sets.2.1 255 = .ok (.iload_n 3, 1) := by decide +kernel
theorem d_LH_sets_256 : decode m_LH_sets.2.1 256 = .ok (.iload 4, 2) := by decide +kernel
theorem d_LH_sets_258 : decode m_LH_sets.2.1 258 = .ok (.invokevirtual 101, 3) := by decide +kernel
theorem d_LH_sets_261 : decode m_LH_sets.2.1 261 = .ok (.goto 28, 3) := by decide +kernel
theorem d_LH_sets_264 : decode m_LH_sets.2.1 264 = .ok (.iload_n 1, 1) := by decide +kernel
theorem d_LH_sets_265 : decode m_LH_sets.2.1 265 = .ok (.bipush 11, 2) := by decide +kernel
theorem d_LH_sets_267 : decode m_LH_sets.2.1 267 = .ok (.if_icmp .ne 16, 3) := by decide +kernel
theorem d_LH_sets_270 : decode m_LH_sets.2.1 270 = .ok (.aload_n 0, 1) := by decide +kernel
theorem d_LH_sets_271 : decode m_LH_sets.2.1 271 = .ok (.iload_n 2, 1) := by decide +kernel
theorem d_LH_sets_272 : decode m_LH_sets.2.1 272 = .ok (.iload_n 3, 1) := by decide +kernel
theorem d_LH_sets_273 : decode m_LH_sets.2.1 273 = .ok (.iload 4, 2) := by decide +kernel
theorem d_LH_sets_275 : decode m_LH_sets.2.1 275 = .ok (.iload 5, 2) := by decide +kernel
theorem d_LH_sets_277 : decode m_LH_sets.2.1 277 = .ok (.invokevirtual 104, 3) := by decide +kernel
theorem d_LH_sets_280 : decode m_LH_sets.2.1 280 = .ok (.goto 9, 3) := by decide +kernel
theorem d_LH_sets_283 : decode m_LH_sets.2.1 283 = .ok (.aload_n 0, 1) := by decide +kernel
theorem d_LH_sets_284 : decode m_LH_sets.2.1 284 = .ok (.iload_n 2, 1) := by decide +kernel
theorem d_LH_sets_285 : decode m_LH_sets.2.1 285 = .ok (.iload_n 3, 1) := by decide +kernel
theorem d_LH_sets_286 : decode m_LH_sets.2.1 286 = .ok (.invokevirtual 107, 3) := by decide +kernel
theorem d_LH_sets_289 : decode m_LH_sets.2.1 289 = .ok (.ireturn, 1) := by decide +kernel
theorem d_LH_sets_290 : decode m_LH_sets.2.1 290 = .ok (.astore 8, 2) := by decide +kernel
theorem d_LH_sets_292 : decode m_LH_sets.2.1 292 = .ok (.ldc 57, 2) := by decide +kernel
theorem d_LH_sets_294 : decode m_LH_sets.2.1 294 = .ok (.ireturn, 1) := by decide +kernel
theorem d_LH_sets_295 : decode m_LH_sets.2.1 295 = .ok (.astore 8, 2) := by decide +kernel
theorem d_LH_sets_297 : decode m_LH_sets.2.1 297 = .ok (.ldc 57, 2) := by decide +kernel
theorem d_LH_sets_299 : decode m_LH_sets.2.1 299 = .ok (.ireturn, 1) := by decide +kernel
theorem d_LH_sets_300 : decode m_LH_sets.2.1 300 = .ok (.astore 8, 2) := by decide +kernel
theorem d_LH_sets_302 : decode m_LH_sets.2.1 302 = .ok (.ldc 57, 2) := by decide +kernel
theorem d_LH_sets_304 : decode m_LH_sets.2.1 304 = .ok (.ireturn, 1) := by decide +kernel
theorem d_LH_asks_0 : decode m_LH_asks.2.1 0 = .ok (.iload_n 1, 1) := by decide +kernel
theorem d_LH_asks_1 : decode m_LH_asks.2.1 1 = .ok (.ifCond .ne 12, 3) := by decide +kernel
theorem d_LH_asks_4 : decode m_LH_asks.2.1 4 = .ok (.aload_n 0, 1) := by decide +kernel
theorem d_LH_asks_5 : decode m_LH_asks.2.1 5 = .ok (.iload_n 2, 1) := by decide +kernel
theorem d_LH_asks_6 : decode m_LH_asks.2.1 6 = .ok (.iload_n 3, 1) := by decide +kernel
theorem d_LH_asks_7 : decode m_LH_asks.2.1 7 = .ok (.invokevirtual 110, 3) := by decide +kernel
theorem d_LH_asks_10 : decode m_LH_asks.2.1 10 = .ok (.goto 190, 3) := by decide +kernel
theorem d_LH_asks_13 : decode m_LH_asks.2.1 13 = .ok (.iload_n 1, 1) := by decide +kernel
theorem d_LH_asks_14 : decode m_LH_asks.2.1 14 = .ok (.iconst 1, 1) := by decide +kernel
theorem d_LH_asks_15 : decode m_LH_asks.2.1 15 = .ok (.if_icmp .ne 18, 3) := by decide +kernel
theorem d_LH_asks_18 : decode m_LH_asks.2.1 18 = .ok (.aload_n 0, 1) := by decide +kernel
theorem d_LH_asks_19 : decode m_LH_asks.2.1 19 = .ok (.iload_n 2, 1) := by decide +kernel
theorem d_LH_asks_20 : decode m_LH_asks.2.1 20 = .ok (.iload_n 3, 1) := by decide +kernel
theorem d_LH_asks_21 : decode m_LH_asks.2.1 21 = .ok (.iload 4, 2) := by decide +kernel
theorem d_LH_asks_23 : decode m_LH_asks.2.1 23 = .ok (.iload 5, 2) := by decide +kernel
theorem d_LH_asks_25 : decode m_LH_asks.2.1 25 = .ok (.iload 6, 2) := by decide +kernel
theorem d_LH_asks_27 : decode m_LH_asks.2.1 27 = .ok (.invokevirtual 113, 3) := by decide +kernel
theorem d_LH_asks_30 : decode m_LH_asks.2.1 30 = .ok (.goto 170, 3) := by decide +kernel
theorem d_LH_asks_33 : decode m_LH_asks.2.1 33 = .ok (.iload_n 1, 1) := by decide +kernel
theorem d_LH_asks_34 : decode m_LH_asks.2.1 34 = .ok (.iconst 2, 1) := by decide +kernel
theorem d_LH_asks_35 : decode m_LH_asks.2.1 35 = .ok (.if_icmp .ne 14, 3) := by decide +kernel
theorem d_LH_asks_38 : decode m_LH_asks.2.1 38 = .ok (.aload_n 0, 1) := by decide +kernel
theorem d_LH_asks_39 : decode m_LH_asks.2.1 39 = .ok (.iload_n 2, 1) := by decide +kernel
theorem d_LH_asks_40 : decode m_LH_asks.2.1 40 = .ok (.iload_n 3, 1) := by decide +kernel
theorem d_LH_asks_41 : decode m_LH_asks.2.1 41 = .ok (.iload 4, 2) := by decide +kernel
theorem d_LH_asks_43 : decode m_LH_asks.2.1 43 = .ok (.invokevirtual 116, 3) := by decide +kernel
theorem d_LH_asks_46 : decode m_LH_asks.2.1 46 = .ok (.goto 154, 3) := by decide +kernel
theorem d_LH_asks_49 : decode m_LH_asks.2.1 49 = .ok (.iload_n 1, 1) := by decide +kernel
theorem d_LH_asks_50 : decode m_LH_asks.2.1 50 = .ok (.iconst 3, 1) := by decide +kernel
theorem d_LH_asks_51 : decode m_LH_asks.2.1 51 = .ok (.if_icmp .ne 16, 3) := by decide +kernel
theorem d_LH_asks_54 : decode m_LH_asks.2.1 54 = .ok (.aload_n 0, 1) := by decide +kernel
theorem d_LH_asks_55 : decode m_LH_asks.2.1 55 = .ok (.iload_n 2, 1) := by decide +kernel
theorem d_LH_asks_56 : decode m_LH_asks.2.1 56 = .ok (.iload_n 3, 1) := by decide +kernel
theorem d_LH_asks_57 : decode m_LH_asks.2.1 57 = .ok (.iload 4, 2) := by decide +kernel
theorem d_LH_asks_59 : decode m_LH_asks.2.1 59 = .ok (.iload 5, 2) := by decide +kernel
theorem d_LH_asks_61 : decode m_LH_asks.2.1 61 = .ok (.invokevirtual 119, 3) := by decide +kernel
theorem d_LH_asks_64 : decode m_LH_asks.2.1 64 = .ok (.goto 136, 3) := by decide +kernel
theorem d_LH_asks_67 : decode m_LH_asks.2.1 67 = .ok (.iload_n 1, 1) := by decide +kernel
theorem d_LH_asks_68 : decode m_LH_asks.2.1 68 = .ok (.iconst 4, 1) := by decide +kernel
theorem d_LH_asks_69 : decode m_LH_asks.2.1 69 = .ok (.if_icmp .ne 14, 3) := by decide +kernel
theorem d_LH_asks_72 : decode m_LH_asks.2.1 72 = .ok (.aload_n 0, 1) := by decide +kernel
theorem d_LH_asks_73 : decode m_LH_asks.2.1 73 = .ok (.iload_n 2, 1) := by decide +kernel
theorem d_LH_asks_74 : decode m_LH_asks.2.1 74 = .ok (.iload_n 3, 1) := by decide +kernel
theorem d_LH_asks_75 : decode m_LH_asks.2.1 75 = .ok (.iload 4, 2) := by decide +kernel
theorem d_LH_asks_77 : decode m_LH_asks.2.1 77 = .ok (.invokevirtual 122, 3) := by decide +kernel
theorem d_LH_asks_80 : decode m_LH_asks.2.1 80 = .ok (.goto 120, 3) := by decide +kernel
theorem d_LH_asks_83 : decode m_LH_asks.2.1 83 = .ok (.iload_n 1, 1) := by decide +kernel
theorem d_LH_asks_84 : decode m_LH_asks.2.1 84 = .ok (.iconst 5, 1) := by decide +kernel
theorem d_LH_asks_85 : decode m_LH_asks.2.1 85 = .ok (.if_icmp .ne 14, 3) := by decide +kernel
theorem d_LH_asks_88 : decode m_LH_asks.2.1 88 = .ok (.aload_n 0, 1) := by decide +kernel
theorem d_LH_asks_89 : decode m_LH_asks.2.1 89 = .ok (.iload_n 2, 1) := by decide +kernel
theorem d_LH_asks_90 : decode m_LH_asks.2.1 90 = .ok (.iload_n 3, 1) := by decide +kernel
theorem d_LH_asks_91 : decode m_LH_asks.2.1 91 = .ok (.iload 4, 2) := by decide +kernel
theorem d_LH_asks_93 : decode m_LH_asks.2.1 93 = .ok (.invokevirtual 125, 3) := by decide +kernel
theorem d_LH_asks_96 : decode m_LH_asks.2.1 96 = .ok (.goto 104, 3) := by decide +kernel
theorem d_LH_asks_99 : decode m_LH_asks.2.1 99 = .ok (.iload_n 1, 1) := by decide +kernel
theorem d_LH_asks_100 : decode m_LH_asks.2.1 100 = .ok (.bipush 6, 2) := by decide +kernel
theorem d_LH_asks_102 : decode m_LH_asks.2.1 102 = .ok (.if_icmp .ne 24, 3) := by decide +kernel
theorem d_LH_asks_105 : decode m_LH_asks.2.1 105 = .ok (.aload_n 0, 1) := by decide +kernel
theorem d_LH_asks_106 : decode m_LH_asks.2.1 106 = .ok (.iload_n 2, 1) := by decide +kernel
theorem d_LH_asks_107 : decode m_LH_asks.2.1 107 = .ok (.iload_n 3, 1) := by decide +kernel
theorem d_LH_asks_108 : decode m_LH_asks.2.1 108 = .ok (.iload 4, 2) := by decide +kernel
theorem d_LH_asks_110 : decode m_LH_asks.2.1 110 = .ok (.iload 5, 2) := by decide +kernel
theorem d_LH_asks_112 : decode m_LH_asks.2.1 112 = .ok (.invokevirtual 128, 3) := by decide +kernel
theorem d_LH_asks_115 : decode m_LH_asks.2.1 115 = .ok (.ifCond .eq 7, 3) := by decide +kernel
theorem d_LH_asks_118 : decode m_LH_asks.2.1 118 = .ok (.iconst 1, 1) := by decide +kernel
theorem d_LH_asks_119 : decode m_LH_asks.2.1 119 = .ok (.goto 81, 3) := by decide +kernel
theorem d_LH_asks_122 : decode m_LH_asks.2.1 122 = .ok (.iconst 0, 1) := by decide +kernel
theorem d_LH_asks_123 : decode m_LH_asks.2.1 123 = .ok (.goto 77, 3) := by decide +kernel
theorem d_LH_asks_126 : decode m_LH_asks.2.1 126 = .ok (.iload_n 1, 1) := by decide +kernel
theorem d_LH_asks_127 : decode m_LH_asks.2.1 127 = .ok (.bipush 7, 2) := by decide +kernel
theorem d_LH_asks_129 : decode m_LH_asks.2.1 129 = .ok (.if_icmp .ne 16, 3) := by decide +kernel
theorem d_LH_asks_132 : decode m_LH_asks.2.1 132 = .ok (.aload_n 0, 1) := by decide +kernel
theorem d_LH_asks_133 : decode m_LH_asks.2.1 133 = .ok (.iload_n 2, 1) := by decide +kernel
theorem d_LH_asks_134 : decode m_LH_asks.2.1 134 = .ok (.iload_n 3, 1) := by decide +kernel
theorem d_LH_asks_135 : decode m_LH_asks.2.1 135 = .ok (.iload 4, 2) := by decide +kernel
theorem d_LH_asks_137 : decode m_LH_asks.2.1 137 = .ok (.iload 5, 2) := by decide +kernel
theorem d_LH_asks_139 : decode m_LH_asks.2.1 139 = .ok (.invokevirtual 131, 3) := by decide +kernel
theorem d_LH_asks_142 : decode m_LH_asks.2.1 142 = .ok (.goto 58, 3) := by decide +kernel
theorem d_LH_asks_145 : decode m_LH_asks.2.1 145 = .ok (.iload_n 1, 1) := by decide +kernel
theorem d_LH_asks_146 : decode m_LH_asks.2.1 146 = .ok (.bipush 8, 2) := by decide +kernel
theorem d_LH_asks_148 : decode m_LH_asks.2.1 148 = .ok (.if_icmp .ne 12, 3) := by decide +kernel
theorem d_LH_asks_151 : decode m_LH_asks.2.1 151 = .ok (.aload_n 0, 1) := by decide +kernel
theorem d_LH_asks_152 : decode m_LH_asks.2.1 152 = .ok (.iload_n 2, 1) := by decide +kernel
theorem d_LH_asks_153 : decode m_LH_asks.2.1 153 = .ok (.iload_n 3, 1) := by decide +kernel
theorem d_LH_asks_154 : decode m_LH_asks.2.1 154 = .ok (.invokevirtual 134, 3) := by decide +kernel
theorem d_LH_asks_157 : decode m_LH_asks.2.1 157 = .ok (.goto 43, 3) := by decide +kernel
theorem d_LH_asks_160 : decode m_LH_asks.2.1 160 = .ok (.iload_n 1, 1) := by decide +kernel
theorem d_LH_asks_161 : decode m_LH_asks.2.1 161 = .ok (.bipush 9, 2) := by decide +kernel
theorem d_LH_asks_163 : decode m_LH_asks.2.1 163 = .ok (.if_icmp .ne 14, 3) := by decide +kernel
theorem d_LH_asks_166 : decode m_LH_asks.2.1 166 = .ok (.aload_n 0, 1) := by decide +kernel
theorem d_LH_asks_167 : decode m_LH_asks.2.1 167 = .ok (.iload_n 2, 1) := by decide +kernel
theorem d_LH_asks_168 : decode m_LH_asks.2.1 168 = .ok (.iload_n 3, 1) := by decide +kernel
theorem d_LH_asks_169 : decode m_LH_asks.2.1 169 = .ok (.iload 4, 2) := by decide +kernel
theorem d_LH_asks_171 : decode m_LH_asks.2.1 171 = .ok (.invokevirtual 137, 3) := by decide +kernel
theorem d_LH_asks_174 : decode m_LH_asks.2.1 174 = .ok (.goto 26, 3) := by decide +kernel
theorem d_LH_asks_177 : decode m_LH_asks.2.1 177 = .ok (.iload_n 1, 1) := by decide +kernel
theorem d_LH_asks_178 : decode m_LH_asks.2.1 178 = .ok (.bipush 10, 2) := by decide +kernel
theorem d_LH_asks_180 : decode m_LH_asks.2.1 180 = .ok (.if_icmp .ne 14, 3) := by decide +kernel
theorem d_LH_asks_183 : decode m_LH_asks.2.1 183 = .ok (.aload_n 0, 1) := by decide +kernel
theorem d_LH_asks_184 : decode m_LH_asks.2.1 184 = .ok (.iload_n 2, 1) := by decide +kernel
theorem d_LH_asks_185 : decode m_LH_asks.2.1 185 = .ok (.iload_n 3, 1) := by decide +kernel
theorem d_LH_asks_186 : decode m_LH_asks.2.1 186 = .ok (.iload 4, 2) := by decide +kernel
theorem d_LH_asks_188 : decode m_LH_asks.2.1 188 = .ok (.invokevirtual 140, 3) := by decide +kernel
theorem d_LH_asks_191 : decode m_LH_asks.2.1 191 = .ok (.goto 9, 3) := by decide +kernel
theorem d_LH_asks_194 : decode m_LH_asks.2.1 194 = .ok (.aload_n 0, 1) := by decide +kernel
theorem d_LH_asks_195 : decode m_LH_asks.2.1 195 = .ok (.iload_n 2, 1) := by decide +kernel
theorem d_LH_asks_196 : decode m_LH_asks.2.1 196 = .ok (.iload_n 3, 1) := by decide +kernel
theorem d_LH_asks_197 : decode m_LH_asks.2.1 197 = .ok (.invokevirtual 143, 3) := by decide +kernel
theorem d_LH_asks_200 : decode m_LH_asks.2.1 200 = .ok (.ireturn, 1) := by decide +kernel
theorem d_LH_asks_201 : decode m_LH_asks.2.1 201 = .ok (.astore 7, 2) := by decide +kernel
theorem d_LH_asks_203 : decode m_LH_asks.2.1 203 = .ok (.ldc 57, 2) := by decide +kernel
theorem d_LH_asks_205 : decode m_LH_asks.2.1 205 = .ok (.ireturn, 1) := by decide +kernel
theorem d_LH_asks_206 : decode m_LH_asks.2.1 206 = .ok (.astore 7, 2) := by decide +kernel
theorem d_LH_asks_208 : decode m_LH_asks.2.1 208 = .ok (.ldc 57, 2) := by decide +kernel
theorem d_LH_asks_210 : decode m_LH_asks.2.1 210 = .ok (.ireturn, 1) := by decide +kernel
theorem d_LH_asks_211 : decode m_LH_asks.2.1 211 = .ok (.astore 7, 2) := by decide +kernel
theorem d_LH_asks_213 : decode m_LH_asks.2.1 213 = .ok (.ldc 57, 2) := by decide +kernel
theorem d_LH_asks_215 : decode m_LH_asks.2.1 215 = .ok (.ireturn, 1) := by decide +kernel
theorem d_LH_many_0 : decode m_LH_many.2.1 0 = .ok (.iload_n 1, 1) := by decide +kernel
theorem d_LH_many_1 : decode m_LH_many.2.1 1 = .ok (.ifCond .ne 11, 3) := by decide +kernel
theorem d_LH_many_4 : decode m_LH_many.2.1 4 = .ok (.aload_n 0, 1) := by decide +kernel
theorem d_LH_many_5 : decode m_LH_many.2.1 5 = .ok (.iload_n 2, 1) := by decide +kernel
theorem d_LH_many_6 : decode m_LH_many.2.1 6 = .ok (.invokevirtual 146, 3) := by decide +kernel
theorem d_LH_many_9 : decode m_LH_many.2.1 9 = .ok (.goto 8, 3) := by decide +kernel
theorem d_LH_many_12 : decode m_LH_many.2.1 12 = .ok (.aload_n 0, 1) := by decide +kernel
theorem d_LH_many_13 : decode m_LH_many.2.1 13 = .ok (.iload_n 2, 1) := by decide +kernel
theorem d_LH_many_14 : decode m_LH_many.2.1 14 = .ok (.invokevirtual 149, 3) := by decide +kernel
theorem d_LH_many_17 : decode m_LH_many.2.1 17 = .ok (.ireturn, 1) := by decide +kernel
theorem d_LH_many_18 : decode m_LH_many.2.1 18 = .ok (.astore_n 3, 1) := by decide +kernel
theorem d_LH_many_19 : decode m_LH_many.2.1 19 = .ok (.ldc 57, 2) := by decide +kernel
theorem d_LH_many_21 : decode m_LH_many.2.1 21 = .ok (.ireturn, 1) := by decide +kernel
theorem d_LH_rows_0 : decode m_LH_rows.2.1 0 = .ok (.aload_n 0, 1) := by decide +kernel
theorem d_LH_rows_1 : decode m_LH_rows.2.1 1 = .ok (.iload_n 1, 1) := by decide +kernel
theorem d_LH_rows_2 : decode m_LH_rows.2.1 2 = .ok (.invokevirtual 152, 3) := by decide +kernel
theorem d_LH_rows_5 : decode m_LH_rows.2.1 5 = .ok (.ireturn, 1) := by decide +kernel
theorem d_LH_rows_6 : decode m_LH_rows.2.1 6 = .ok (.astore_n 2, 1) := by decide +kernel
theorem d_LH_rows_7 : decode m_LH_rows.2.1 7 = .ok (.ldc 57, 2) := by decide +kernel
theorem d_LH_rows_9 : decode m_LH_rows.2.1 9 = .ok (.ireturn, 1) := by decide +kernel
theorem d_LH_number_0 : decode m_LH_number.2.1 0 = .ok (.iload_n 0, 1) := by decide +kernel
theorem d_LH_number_1 : decode m_LH_number.2.1 1 = .ok (.bipush 7, 2) := by decide +kernel
theorem d_LH_number_3 : decode m_LH_number.2.1 3 = .ok (.iand, 1) := by decide +kernel
theorem d_LH_number_4 : decode m_LH_number.2.1 4 = .ok (.ifCond .ne 8, 3) := by decide +kernel
theorem d_LH_number_7 : decode m_LH_number.2.1 7 = .ok (.ldc 155, 2) := by decide +kernel
theorem d_LH_number_9 : decode m_LH_number.2.1 9 = .ok (.goto 33, 3) := by decide +kernel
theorem d_LH_number_12 : decode m_LH_number.2.1 12 = .ok (.iload_n 1, 1) := by decide +kernel
theorem d_LH_number_13 : decode m_LH_number.2.1 13 = .ok (.ifCond .eq 19, 3) := by decide +kernel
theorem d_LH_number_16 : decode m_LH_number.2.1 16 = .ok (.iload_n 0, 1) := by decide +kernel
theorem d_LH_number_17 : decode m_LH_number.2.1 17 = .ok (.iconst 3, 1) := by decide +kernel
theorem d_LH_number_18 : decode m_LH_number.2.1 18 = .ok (.ishr, 1) := by decide +kernel
theorem d_LH_number_19 : decode m_LH_number.2.1 19 = .ok (.sipush 30000, 3) := by decide +kernel
theorem d_LH_number_22 : decode m_LH_number.2.1 22 = .ok (.invokestatic 156, 3) := by decide +kernel
theorem d_LH_number_25 : decode m_LH_number.2.1 25 = .ok (.sipush 15000, 3) := by decide +kernel
theorem d_LH_number_28 : decode m_LH_number.2.1 28 = .ok (.isub, 1) := by decide +kernel
theorem d_LH_number_29 : decode m_LH_number.2.1 29 = .ok (.goto 13, 3) := by decide +kernel
theorem d_LH_number_32 : decode m_LH_number.2.1 32 = .ok (.iload_n 0, 1) := by decide +kernel
theorem d_LH_number_33 : decode m_LH_number.2.1 33 = .ok (.iconst 3, 1) := by decide +kernel
theorem d_LH_number_34 : decode m_LH_number.2.1 34 = .ok (.ishr, 1) := by decide +kernel
theorem d_LH_number_35 : decode m_LH_number.2.1 35 = .ok (.bipush 16, 2) := by decide +kernel
theorem d_LH_number_37 : decode m_LH_number.2.1 37 = .ok (.invokestatic 156, 3) := by decide +kernel
theorem d_LH_number_40 : decode m_LH_number.2.1 40 = .ok (.iconst 2, 1) := by decide +kernel
theorem d_LH_number_41 : decode m_LH_number.2.1 41 = .ok (.isub, 1) := by decide +kernel
theorem d_LH_number_42 : decode m_LH_number.2.1 42 = .ok (.ireturn, 1) := by decide +kernel
theorem d_LH_act_0 : decode m_LH_act.2.1 0 = .ok (.iload_n 1, 1) := by decide +kernel
theorem d_LH_act_1 : decode m_LH_act.2.1 1 = .ok (.bipush 18, 2) := by decide +kernel
theorem d_LH_act_3 : decode m_LH_act.2.1 3 = .ok (.ishr, 1) := by decide +kernel
theorem d_LH_act_4 : decode m_LH_act.2.1 4 = .ok (.bipush 7, 2) := by decide +kernel
theorem d_LH_act_6 : decode m_LH_act.2.1 6 = .ok (.iand, 1) := by decide +kernel
theorem d_LH_act_7 : decode m_LH_act.2.1 7 = .ok (.bipush 7, 2) := by decide +kernel
theorem d_LH_act_9 : decode m_LH_act.2.1 9 = .ok (.if_icmp .ne 7, 3) := by decide +kernel
theorem d_LH_act_12 : decode m_LH_act.2.1 12 = .ok (.iconst 1, 1) := by decide +kernel
theorem d_LH_act_13 : decode m_LH_act.2.1 13 = .ok (.goto 4, 3) := by decide +kernel
theorem d_LH_act_16 : decode m_LH_act.2.1 16 = .ok (.iconst 0, 1) := by decide +kernel
theorem d_LH_act_17 : decode m_LH_act.2.1 17 = .ok (.istore_n 2, 1) := by decide +kernel
theorem d_LH_act_18 : decode m_LH_act.2.1 18 = .ok (.iload_n 1, 1) := by decide +kernel
theorem d_LH_act_19 : decode m_LH_act.2.1 19 = .ok (.bipush 50, 2) := by decide +kernel
theorem d_LH_act_21 : decode m_LH_act.2.1 21 = .ok (.invokestatic 156, 3) := by decide +kernel
theorem d_LH_act_24 : decode m_LH_act.2.1 24 = .ok (.istore_n 3, 1) := by decide +kernel
theorem d_LH_act_25 : decode m_LH_act.2.1 25 = .ok (.iload_n 2, 1) := by decide +kernel
theorem d_LH_act_26 : decode m_LH_act.2.1 26 = .ok (.ifCond .eq 17, 3) := by decide +kernel
theorem d_LH_act_29 : decode m_LH_act.2.1 29 = .ok (.iload_n 1, 1) := by decide +kernel
theorem d_LH_act_30 : decode m_LH_act.2.1 30 = .ok (.bipush 6, 2) := by decide +kernel
theorem d_LH_act_32 : decode m_LH_act.2.1 32 = .ok (.ishr, 1) := by decide +kernel
theorem d_LH_act_33 : decode m_LH_act.2.1 33 = .ok (.bipush 6, 2) := by decide +kernel
theorem d_LH_act_35 : decode m_LH_act.2.1 35 = .ok (.invokestatic 156, 3) := by decide +kernel
theorem d_LH_act_38 : decode m_LH_act.2.1 38 = .ok (.iconst 1, 1) := by decide +kernel
theorem d_LH_act_39 : decode m_LH_act.2.1 39 = .ok (.isub, 1) := by decide +kernel
theorem d_LH_act_40 : decode m_LH_act.2.1 40 = .ok (.goto 11, 3) := by decide +kernel
theorem d_LH_act_43 : decode m_LH_act.2.1 43 = .ok (.iload_n 1, 1) := by decide +kernel
theorem d_LH_act_44 : decode m_LH_act.2.1 44 = .ok (.bipush 6, 2) := by decide +kernel
theorem d_LH_act_46 : decode m_LH_act.2.1 46 = .ok (.ishr, 1) := by decide +kernel
theorem d_LH_act_47 : decode m_LH_act.2.1 47 = .ok (.iconst 3, 1) := by decide +kernel
theorem d_LH_act_48 : decode m_LH_act.2.1 48 = .ok (.invokestatic 156, 3) := by decide +kernel
theorem d_LH_act_51 : decode m_LH_act.2.1 51 = .ok (.istore 4, 2) := by decide +kernel
theorem d_LH_act_53 : decode m_LH_act.2.1 53 = .ok (.iload_n 2, 1) := by decide +kernel
theorem d_LH_act_54 : decode m_LH_act.2.1 54 = .ok (.ifCond .eq 17, 3) := by decide +kernel
theorem d_LH_act_57 : decode m_LH_act.2.1 57 = .ok (.iload_n 1, 1) := by decide +kernel
theorem d_LH_act_58 : decode m_LH_act.2.1 58 = .ok (.bipush 9, 2) := by decide +kernel
theorem d_LH_act_60 : decode m_LH_act.2.1 60 = .ok (.ishr, 1) := by decide +kernel
theorem d_LH_act_61 : decode m_LH_act.2.1 61 = .ok (.bipush 9, 2) := by decide +kernel
theorem d_LH_act_63 : decode m_LH_act.2.1 63 = .ok (.invokestatic 156, 3) := by decide +kernel
theorem d_LH_act_66 : decode m_LH_act.2.1 66 = .ok (.iconst 1, 1) := by decide +kernel
theorem d_LH_act_67 : decode m_LH_act.2.1 67 = .ok (.isub, 1) := by decide +kernel
theorem d_LH_act_68 : decode m_LH_act.2.1 68 = .ok (.goto 12, 3) := by decide +kernel
theorem d_LH_act_71 : decode m_LH_act.2.1 71 = .ok (.iload_n 1, 1) := by decide +kernel
theorem d_LH_act_72 : decode m_LH_act.2.1 72 = .ok (.bipush 9, 2) := by decide +kernel
theorem d_LH_act_74 : decode m_LH_act.2.1 74 = .ok (.ishr, 1) := by decide +kernel
theorem d_LH_act_75 : decode m_LH_act.2.1 75 = .ok (.bipush 6, 2) := by decide +kernel
theorem d_LH_act_77 : decode m_LH_act.2.1 77 = .ok (.invokestatic 156, 3) := by decide +kernel
theorem d_LH_act_80 : decode m_LH_act.2.1 80 = .ok (.istore 5, 2) := by decide +kernel
theorem d_LH_act_82 : decode m_LH_act.2.1 82 = .ok (.iload_n 2, 1) := by decide +kernel
theorem d_LH_act_83 : decode m_LH_act.2.1 83 = .ok (.ifCond .eq 17, 3) := by decide +kernel
theorem d_LH_act_86 : decode m_LH_act.2.1 86 = .ok (.iload_n 1, 1) := by decide +kernel
theorem d_LH_act_87 : decode m_LH_act.2.1 87 = .ok (.bipush 11, 2) := by decide +kernel
theorem d_LH_act_89 : decode m_LH_act.2.1 89 = .ok (.ishr, 1) := by decide +kernel
theorem d_LH_act_90 : decode m_LH_act.2.1 90 = .ok (.bipush 40, 2) := by decide +kernel
theorem d_LH_act_92 : decode m_LH_act.2.1 92 = .ok (.invokestatic 156, 3) := by decide +kernel
theorem d_LH_act_95 : decode m_LH_act.2.1 95 = .ok (.iconst 3, 1) := by decide +kernel
theorem d_LH_act_96 : decode m_LH_act.2.1 96 = .ok (.isub, 1) := by decide +kernel
theorem d_LH_act_97 : decode m_LH_act.2.1 97 = .ok (.goto 12, 3) := by decide +kernel
theorem d_LH_act_100 : decode m_LH_act.2.1 100 = .ok (.iload_n 1, 1) := by decide +kernel
theorem d_LH_act_101 : decode m_LH_act.2.1 101 = .ok (.bipush 11, 2) := by decide +kernel
theorem d_LH_act_103 : decode m_LH_act.2.1 103 = .ok (.ishr, 1) := by decide +kernel
theorem d_LH_act_104 : decode m_LH_act.2.1 104 = .ok (.bipush 8, 2) := by decide +kernel
theorem d_LH_act_106 : decode m_LH_act.2.1 106 = .ok (.invokestatic 156, 3) := by decide +kernel
theorem d_LH_act_109 : decode m_LH_act.2.1 109 = .ok (.istore 6, 2) := by decide +kernel
theorem d_LH_act_111 : decode m_LH_act.2.1 111 = .ok (.iload_n 3, 1) := by decide +kernel
theorem d_LH_act_112 : decode m_LH_act.2.1 112 = .ok (.iconst 5, 1) := by decide +kernel
theorem d_LH_act_113 : decode m_LH_act.2.1 113 = .ok (.if_icmp .ge 143, 3) := by decide +kernel
theorem d_LH_act_116 : decode m_LH_act.2.1 116 = .ok (.iload_n 3, 1) := by decide +kernel
theorem d_LH_act_117 : decode m_LH_act.2.1 117 = .ok (.ifCond .ne 14, 3) := by decide +kernel
theorem d_LH_act_120 : decode m_LH_act.2.1 120 = .ok (.aload_n 0, 1) := by decide +kernel
theorem d_LH_act_121 : decode m_LH_act.2.1 121 = .ok (.iconst 0, 1) := by decide +kernel
theorem d_LH_act_122 : decode m_LH_act.2.1 122 = .ok (.iconst 0, 1) := by decide +kernel
theorem d_LH_act_123 : decode m_LH_act.2.1 123 = .ok (.iconst 0, 1) := by decide +kernel
theorem d_LH_act_124 : decode m_LH_act.2.1 124 = .ok (.iconst 0, 1) := by decide +kernel
theorem d_LH_act_125 : decode m_LH_act.2.1 125 = .ok (.invokestatic 159, 3) := by decide +kernel
theorem d_LH_act_128 : decode m_LH_act.2.1 128 = .ok (.goto 127, 3) := by decide +kernel
theorem d_LH_act_131 : decode m_LH_act.2.1 131 = .ok (.iload_n 3, 1) := by decide +kernel
theorem d_LH_act_132 : decode m_LH_act.2.1 132 = .ok (.iconst 3, 1) := by decide +kernel
theorem d_LH_act_133 : decode m_LH_act.2.1 133 = .ok (.if_icmp .ge 64, 3) := by decide +kernel
theorem d_LH_act_136 : decode m_LH_act.2.1 136 = .ok (.aload_n 0, 1) := by decide +kernel
theorem d_LH_act_137 : decode m_LH_act.2.1 137 = .ok (.iconst 1, 1) := by decide +kernel
theorem d_LH_act_138 : decode m_LH_act.2.1 138 = .ok (.iload 4, 2) := by decide +kernel
theorem d_LH_act_140 : decode m_LH_act.2.1 140 = .ok (.iload_n 2, 1) := by decide +kernel
theorem d_LH_act_141 : decode m_LH_act.2.1 141 = .ok (.ifCond .eq 20, 3) := by decide +kernel
theorem d_LH_act_144 : decode m_LH_act.2.1 144 = .ok (.iload_n 1, 1) := by decide +kernel
theorem d_LH_act_145 : decode m_LH_act.2.1 145 = .ok (.bipush 9, 2) := by decide +kernel
theorem d_LH_act_147 : decode m_LH_act.2.1 147 = .ok (.ishr, 1) := by decide +kernel
theorem d_LH_act_148 : decode m_LH_act.2.1 148 = .ok (.sipush 30000, 3) := by decide +kernel
theorem d_LH_act_151 : decode m_LH_act.2.1 151 = .ok (.invokestatic 156, 3) := by decide +kernel
theorem d_LH_act_154 : decode m_LH_act.2.1 154 = .ok (.sipush 15000, 3) := by decide +kernel
theorem d_LH_act_157 : decode m_LH_act.2.1 157 = .ok (.isub, 1) := by decide +kernel
theorem d_LH_act_158 : decode m_LH_act.2.1 158 = .ok (.goto 12, 3) := by decide +kernel
theorem d_LH_act_161 : decode m_LH_act.2.1 161 = .ok (.iload_n 1, 1) := by decide +kernel
theorem d_LH_act_162 : decode m_LH_act.2.1 162 = .ok (.bipush 9, 2) := by decide +kernel
theorem d_LH_act_164 : decode m_LH_act.2.1 164 = .ok (.ishr, 1) := by decide +kernel
theorem d_LH_act_165 : decode m_LH_act.2.1 165 = .ok (.iconst 5, 1) := by decide +kernel
theorem d_LH_act_166 : decode m_LH_act.2.1 166 = .ok (.invokestatic 156, 3) := by decide +kernel
theorem d_LH_act_169 : decode m_LH_act.2.1 169 = .ok (.ineg, 1) := by decide +kernel
theorem d_LH_act_170 : decode m_LH_act.2.1 170 = .ok (.iload_n 2, 1) := by decide +kernel
theorem d_LH_act_171 : decode m_LH_act.2.1 171 = .ok (.ifCond .eq 8, 3) := by decide +kernel
theorem d_LH_act_174 : decode m_LH_act.2.1 174 = .ok (.bipush 12, 2) := by decide +kernel
theorem d_LH_act_176 : decode m_LH_act.2.1 176 = .ok (.goto 15, 3) := by decide +kernel
theorem d_LH_act_179 : decode m_LH_act.2.1 179 = .ok (.bipush 9, 2) := by decide +kernel
theorem d_LH_act_181 : decode m_LH_act.2.1 181 = .ok (.iload_n 1, 1) := by decide +kernel
theorem d_LH_act_182 : decode m_LH_act.2.1 182 = .ok (.bipush 12, 2) := by decide +kernel
theorem d_LH_act_184 : decode m_LH_act.2.1 184 = .ok (.ishr, 1) := by decide +kernel
theorem d_LH_act_185 : decode m_LH_act.2.1 185 = .ok (.bipush 9, 2) := by decide +kernel
theorem d_LH_act_187 : decode m_LH_act.2.1 187 = .ok (.invokestatic 156, 3) := by decide +kernel
theorem d_LH_act_190 : decode m_LH_act.2.1 190 = .ok (.iadd, 1) := by decide +kernel
theorem d_LH_act_191 : decode m_LH_act.2.1 191 = .ok (.invokestatic 159, 3) := by decide +kernel
theorem d_LH_act_194 : decode m_LH_act.2.1 194 = .ok (.goto 61, 3) := by decide +kernel
theorem d_LH_act_197 : decode m_LH_act.2.1 197 = .ok (.aload_n 0, 1) := by decide +kernel
theorem d_LH_act_198 : decode m_LH_act.2.1 198 = .ok (.iconst 2, 1) := by decide +kernel
theorem d_LH_act_199 : decode m_LH_act.2.1 199 = .ok (.iload 4, 2) := by decide +kernel
theorem d_LH_act_201 : decode m_LH_act.2.1 201 = .ok (.iload_n 2, 1) := by decide +kernel
theorem d_LH_act_202 : decode m_LH_act.2.1 202 = .ok (.ifCond .eq 17, 3) := by decide +kernel
theorem d_LH_act_205 : decode m_LH_act.2.1 205 = .ok (.iload_n 1, 1) := by decide +kernel
theorem d_LH_act_206 : decode m_LH_act.2.1 206 = .ok (.bipush 9, 2) := by decide +kernel
theorem d_LH_act_208 : decode m_LH_act.2.1 208 = .ok (.ishr, 1) := by decide +kernel
theorem d_LH_act_209 : decode m_LH_act.2.1 209 = .ok (.bipush 7, 2) := by decide +kernel
theorem d_LH_act_211 : decode m_LH_act.2.1 211 = .ok (.invokestatic 156, 3) := by decide +kernel
theorem d_LH_act_214 : decode m_LH_act.2.1 214 = .ok (.iconst 1, 1) := by decide +kernel
theorem d_LH_act_215 : decode m_LH_act.2.1 215 = .ok (.isub, 1) := by decide +kernel
theorem d_LH_act_216 : decode m_LH_act.2.1 216 = .ok (.goto 11, 3) := by decide +kernel
theorem d_LH_act_219 : decode m_LH_act.2.1 219 = .ok (.iload_n 1, 1) := by decide +kernel
theorem d_LH_act_220 : decode m_LH_act.2.1 220 = .ok (.bipush 9, 2) := by decide +kernel
theorem d_LH_act_222 : decode m_LH_act.2.1 222 = .ok (.ishr, 1) := by decide +kernel
theorem d_LH_act_223 : decode m_LH_act.2.1 223 = .ok (.iconst 3, 1) := by decide +kernel
theorem d_LH_act_224 : decode m_LH_act.2.1 224 = .ok (.invokestatic 156, 3) := by decide +kernel
theorem d_LH_act_227 : decode m_LH_act.2.1 227 = .ok (.iload_n 2, 1) := by decide +kernel
theorem d_LH_act_228 : decode m_LH_act.2.1 228 = .ok (.ifCond .eq 16, 3) := by decide +kernel
theorem d_LH_act_231 : decode m_LH_act.2.1 231 = .ok (.iload_n 1, 1) := by decide +kernel
theorem d_LH_act_232 : decode m_LH_act.2.1 232 = .ok (.bipush 12, 2) := by decide +kernel
theorem d_LH_act_234 : decode m_LH_act.2.1 234 = .ok (.ishr, 1) := by decide +kernel
theorem d_LH_act_235 : decode m_LH_act.2.1 235 = .ok (.iconst 5, 1) := by decide +kernel
theorem d_LH_act_236 : decode m_LH_act.2.1 236 = .ok (.invokestatic 156, 3) := by decide +kernel
theorem d_LH_act_239 : decode m_LH_act.2.1 239 = .ok (.iconst 1, 1) := by decide +kernel
theorem d_LH_act_240 : decode m_LH_act.2.1 240 = .ok (.isub, 1) := by decide +kernel
theorem d_LH_act_241 : decode m_LH_act.2.1 241 = .ok (.goto 11, 3) := by decide +kernel
theorem d_LH_act_244 : decode m_LH_act.2.1 244 = .ok (.iload_n 1, 1) := by decide +kernel
theorem d_LH_act_245 : decode m_LH_act.2.1 245 = .ok (.bipush 12, 2) := by decide +kernel
theorem d_LH_act_247 : decode m_LH_act.2.1 247 = .ok (.ishr, 1) := by decide +kernel
theorem d_LH_act_248 : decode m_LH_act.2.1 248 = .ok (.iconst 3, 1) := by decide +kernel
theorem d_LH_act_249 : decode m_LH_act.2.1 249 = .ok (.invokestatic 156, 3) := by decide +kernel
theorem d_LH_act_252 : decode m_LH_act.2.1 252 = .ok (.invokestatic 159, 3) := by decide +kernel
theorem d_LH_act_255 : decode m_LH_act.2.1 255 = .ok (.ireturn, 1) := by decide +kernel
theorem d_LH_act_256 : decode m_LH_act.2.1 256 = .ok (.iload_n 3, 1) := by decide +kernel
theorem d_LH_act_257 : decode m_LH_act.2.1 257 = .ok (.bipush 9, 2) := by decide +kernel
theorem d_LH_act_259 : decode m_LH_act.2.1 259 = .ok (.if_icmp .ge 110, 3) := by decide +kernel
theorem d_LH_act_262 : decode m_LH_act.2.1 262 = .ok (.iload_n 3, 1) := by decide +kernel
theorem d_LH_act_263 : decode m_LH_act.2.1 263 = .ok (.bipush 7, 2) := by decide +kernel
theorem d_LH_act_265 : decode m_LH_act.2.1 265 = .ok (.if_icmp .ge 7, 3) := by decide +kernel
theorem d_LH_act_268 : decode m_LH_act.2.1 268 = .ok (.iconst 1, 1) := by decide +kernel
theorem d_LH_act_269 : decode m_LH_act.2.1 269 = .ok (.goto 4, 3) := by decide +kernel
theorem d_LH_act_272 : decode m_LH_act.2.1 272 = .ok (.iconst 0, 1) := by decide +kernel
theorem d_LH_act_273 : decode m_LH_act.2.1 273 = .ok (.istore 7, 2) := by decide +kernel
theorem d_LH_act_275 : decode m_LH_act.2.1 275 = .ok (.iload_n 1, 1) := by decide +kernel
theorem d_LH_act_276 : decode m_LH_act.2.1 276 = .ok (.bipush 14, 2) := by decide +kernel
theorem d_LH_act_278 : decode m_LH_act.2.1 278 = .ok (.ishr, 1) := by decide +kernel
theorem d_LH_act_279 : decode m_LH_act.2.1 279 = .ok (.iload_n 2, 1) := by decide +kernel
theorem d_LH_act_280 : decode m_LH_act.2.1 280 = .ok (.ifCond .eq 8, 3) := by decide +kernel
theorem d_LH_act_283 : decode m_LH_act.2.1 283 = .ok (.bipush 7, 2) := by decide +kernel
theorem d_LH_act_285 : decode m_LH_act.2.1 285 = .ok (.goto 4, 3) := by decide +kernel
theorem d_LH_act_288 : decode m_LH_act.2.1 288 = .ok (.iconst 5, 1) := by decide +kernel
theorem d_LH_act_289 : decode m_LH_act.2.1 289 = .ok (.invokestatic 156, 3) := by decide +kernel
theorem d_LH_act_292 : decode m_LH_act.2.1 292 = .ok (.istore 8, 2) := by decide +kernel
theorem d_LH_act_294 : decode m_LH_act.2.1 294 = .ok (.iload 7, 2) := by decide +kernel
theorem d_LH_act_296 : decode m_LH_act.2.1 296 = .ok (.ifCond .eq 35, 3) := by decide +kernel
theorem d_LH_act_299 : decode m_LH_act.2.1 299 = .ok (.aload_n 0, 1) := by decide +kernel
theorem d_LH_act_300 : decode m_LH_act.2.1 300 = .ok (.iconst 0, 1) := by decide +kernel
theorem d_LH_act_301 : decode m_LH_act.2.1 301 = .ok (.iload 4, 2) := by decide +kernel
theorem d_LH_act_303 : decode m_LH_act.2.1 303 = .ok (.iload 8, 2) := by decide +kernel
theorem d_LH_act_305 : decode m_LH_act.2.1 305 = .ok (.iload 5, 2) := by decide +kernel
theorem d_LH_act_307 : decode m_LH_act.2.1 307 = .ok (.iload_n 1, 1) := by decide +kernel
theorem d_LH_act_308 : decode m_LH_act.2.1 308 = .ok (.bipush 12, 2) := by decide +kernel
theorem d_LH_act_310 : decode m_LH_act.2.1 310 = .ok (.ishr, 1) := by decide +kernel
theorem d_LH_act_311 : decode m_LH_act.2.1 311 = .ok (.bipush 6, 2) := by decide +kernel
theorem d_LH_act_313 : decode m_LH_act.2.1 313 = .ok (.invokestatic 156, 3) := by decide +kernel
theorem d_LH_act_316 : decode m_LH_act.2.1 316 = .ok (.iload_n 1, 1) := by decide +kernel
theorem d_LH_act_317 : decode m_LH_act.2.1 317 = .ok (.bipush 7, 2) := by decide +kernel
theorem d_LH_act_319 : decode m_LH_act.2.1 319 = .ok (.ishr, 1) := by decide +kernel
theorem d_LH_act_320 : decode m_LH_act.2.1 320 = .ok (.iconst 3, 1) := by decide +kernel
theorem d_LH_act_321 : decode m_LH_act.2.1 321 = .ok (.invokestatic 156, 3) := by decide +kernel
theorem d_LH_act_324 : decode m_LH_act.2.1 324 = .ok (.iconst 0, 1) := by decide +kernel
theorem d_LH_act_325 : decode m_LH_act.2.1 325 = .ok (.invokestatic 163, 3) := by decide +kernel
theorem d_LH_act_328 : decode m_LH_act.2.1 328 = .ok (.goto 40, 3) := by decide +kernel
theorem d_LH_act_331 : decode m_LH_act.2.1 331 = .ok (.aload_n 0, 1) := by decide +kernel
theorem d_LH_act_332 : decode m_LH_act.2.1 332 = .ok (.iconst 1, 1) := by decide +kernel
theorem d_LH_act_333 : decode m_LH_act.2.1 333 = .ok (.iload 4, 2) := by decide +kernel
theorem d_LH_act_335 : decode m_LH_act.2.1 335 = .ok (.iload 5, 2) := by decide +kernel
theorem d_LH_act_337 : decode m_LH_act.2.1 337 = .ok (.iload 8, 2) := by decide +kernel
theorem d_LH_act_339 : decode m_LH_act.2.1 339 = .ok (.iload_n 1, 1) := by decide +kernel
theorem d_LH_act_340 : decode m_LH_act.2.1 340 = .ok (.bipush 12, 2) := by decide +kernel
theorem d_LH_act_342 : decode m_LH_act.2.1 342 = .ok (.ishr, 1) := by decide +kernel
theorem d_LH_act_343 : decode m_LH_act.2.1 343 = .ok (.bipush 6, 2) := by decide +kernel
theorem d_LH_act_345 : decode m_LH_act.2.1 345 = .ok (.invokestatic 156, 3) := by decide +kernel
theorem d_LH_act_348 : decode m_LH_act.2.1 348 = .ok (.iload_n 1, 1) := by decide +kernel
theorem d_LH_act_349 : decode m_LH_act.2.1 349 = .ok (.bipush 7, 2) := by decide +kernel
theorem d_LH_act_351 : decode m_LH_act.2.1 351 = .ok (.ishr, 1) := by decide +kernel
theorem d_LH_act_352 : decode m_LH_act.2.1 352 = .ok (.bipush 6, 2) := by decide +kernel
theorem d_LH_act_354 : decode m_LH_act.2.1 354 = .ok (.invokestatic 156, 3) := by decide +kernel
theorem d_LH_act_357 : decode m_LH_act.2.1 357 = .ok (.iload_n 1, 1) := by decide +kernel
theorem d_LH_act_358 : decode m_LH_act.2.1 358 = .ok (.bipush 10, 2) := by decide +kernel
theorem d_LH_act_360 : decode m_LH_act.2.1 360 = .ok (.ishr, 1) := by decide +kernel
theorem d_LH_act_361 : decode m_LH_act.2.1 361 = .ok (.iconst 3, 1) := by decide +kernel
theorem d_LH_act_362 : decode m_LH_act.2.1 362 = .ok (.invokestatic 156, 3) := by decide +kernel
theorem d_LH_act_365 : decode m_LH_act.2.1 365 = .ok (.invokestatic 163, 3) := by decide +kernel
theorem d_LH_act_368 : decode m_LH_act.2.1 368 = .ok (.ireturn, 1) := by decide +kernel
theorem d_LH_act_369 : decode m_LH_act.2.1 369 = .ok (.iload_n 3, 1) := by decide +kernel
theorem d_LH_act_370 : decode m_LH_act.2.1 370 = .ok (.bipush 15, 2) := by decide +kernel
theorem d_LH_act_372 : decode m_LH_act.2.1 372 = .ok (.if_icmp .ge 179, 3) := by decide +kernel
theorem d_LH_act_375 : decode m_LH_act.2.1 375 = .ok (.iload_n 3, 1) := by decide +kernel
theorem d_LH_act_376 : decode m_LH_act.2.1 376 = .ok (.bipush 11, 2) := by decide +kernel
theorem d_LH_act_378 : decode m_LH_act.2.1 378 = .ok (.if_icmp .ge 28, 3) := by decide +kernel
theorem d_LH_act_381 : decode m_LH_act.2.1 381 = .ok (.aload_n 0, 1) := by decide +kernel
theorem d_LH_act_382 : decode m_LH_act.2.1 382 = .ok (.iconst 2, 1) := by decide +kernel
theorem d_LH_act_383 : decode m_LH_act.2.1 383 = .ok (.iload_n 3, 1) := by decide +kernel
theorem d_LH_act_384 : decode m_LH_act.2.1 384 = .ok (.iconst 1, 1) := by decide +kernel
theorem d_LH_act_385 : decode m_LH_act.2.1 385 = .ok (.iand, 1) := by decide +kernel
theorem d_LH_act_386 : decode m_LH_act.2.1 386 = .ok (.iadd, 1) := by decide +kernel
theorem d_LH_act_387 : decode m_LH_act.2.1 387 = .ok (.iload 4, 2) := by decide +kernel
theorem d_LH_act_389 : decode m_LH_act.2.1 389 = .ok (.iload 5, 2) := by decide +kernel
theorem d_LH_act_391 : decode m_LH_act.2.1 391 = .ok (.iload_n 1, 1) := by decide +kernel
theorem d_LH_act_392 : decode m_LH_act.2.1 392 = .ok (.bipush 13, 2) := by decide +kernel
theorem d_LH_act_394 : decode m_LH_act.2.1 394 = .ok (.ishr, 1) := by decide +kernel
theorem d_LH_act_395 : decode m_LH_act.2.1 395 = .ok (.iconst 1, 1) := by decide +kernel
theorem d_LH_act_396 : decode m_LH_act.2.1 396 = .ok (.iand, 1) := by decide +kernel
theorem d_LH_act_397 : decode m_LH_act.2.1 397 = .ok (.iconst 0, 1) := by decide +kernel
theorem d_LH_act_398 : decode m_LH_act.2.1 398 = .ok (.iconst 0, 1) := by decide +kernel
theorem d_LH_act_399 : decode m_LH_act.2.1 399 = .ok (.iconst 0, 1) := by decide +kernel
theorem d_LH_act_400 : decode m_LH_act.2.1 400 = .ok (.invokestatic 163, 3) := by decide +kernel
theorem d_LH_act_403 : decode m_LH_act.2.1 403 = .ok (.goto 147, 3) := by decide +kernel
theorem d_LH_act_406 : decode m_LH_act.2.1 406 = .ok (.iload_n 3, 1) := by decide +kernel
theorem d_LH_act_407 : decode m_LH_act.2.1 407 = .ok (.bipush 13, 2) := by decide +kernel
theorem d_LH_act_409 : decode m_LH_act.2.1 409 = .ok (.if_icmp .ge 63, 3) := by decide +kernel
theorem d_LH_act_412 : decode m_LH_act.2.1 412 = .ok (.aload_n 0, 1) := by decide +kernel
theorem d_LH_act_413 : decode m_LH_act.2.1 413 = .ok (.iload_n 3, 1) := by decide +kernel
theorem d_LH_act_414 : decode m_LH_act.2.1 414 = .ok (.bipush 11, 2) := by decide +kernel
theorem d_LH_act_416 : decode m_LH_act.2.1 416 = .ok (.if_icmp .ne 7, 3) := by decide +kernel
theorem d_LH_act_419 : decode m_LH_act.2.1 419 = .ok (.iconst 4, 1) := by decide +kernel
theorem d_LH_act_420 : decode m_LH_act.2.1 420 = .ok (.goto 5, 3) := by decide +kernel
theorem d_LH_act_423 : decode m_LH_act.2.1 423 = .ok (.bipush 6, 2) := by decide +kernel
theorem d_LH_act_425 : decode m_LH_act.2.1 425 = .ok (.iload 4, 2) := by decide +kernel
theorem d_LH_act_427 : decode m_LH_act.2.1 427 = .ok (.iload 5, 2) := by decide +kernel
theorem d_LH_act_429 : decode m_LH_act.2.1 429 = .ok (.iload_n 3, 1) := by decide +kernel
theorem d_LH_act_430 : decode m_LH_act.2.1 430 = .ok (.bipush 11, 2) := by decide +kernel
theorem d_LH_act_432 : decode m_LH_act.2.1 432 = .ok (.if_icmp .ne 15, 3) := by decide +kernel
theorem d_LH_act_435 : decode m_LH_act.2.1 435 = .ok (.iload_n 1, 1) := by decide +kernel
theorem d_LH_act_436 : decode m_LH_act.2.1 436 = .ok (.bipush 12, 2) := by decide +kernel
theorem d_LH_act_438 : decode m_LH_act.2.1 438 = .ok (.ishr, 1) := by decide +kernel
theorem d_LH_act_439 : decode m_LH_act.2.1 439 = .ok (.iconst 5, 1) := by decide +kernel
theorem d_LH_act_440 : decode m_LH_act.2.1 440 = .ok (.invokestatic 156, 3) := by decide +kernel
theorem d_LH_act_443 : decode m_LH_act.2.1 443 = .ok (.ineg, 1) := by decide +kernel
theorem d_LH_act_444 : decode m_LH_act.2.1 444 = .ok (.goto 11, 3) := by decide +kernel
theorem d_LH_act_447 : decode m_LH_act.2.1 447 = .ok (.iload_n 1, 1) := by decide +kernel
theorem d_LH_act_448 : decode m_LH_act.2.1 448 = .ok (.bipush 12, 2) := by decide +kernel
theorem d_LH_act_450 : decode m_LH_act.2.1 450 = .ok (.ishr, 1) := by decide +kernel
theorem d_LH_act_451 : decode m_LH_act.2.1 451 = .ok (.iconst 3, 1) := by decide +kernel
theorem d_LH_act_452 : decode m_LH_act.2.1 452 = .ok (.invokestatic 156, 3) := by decide +kernel
theorem d_LH_act_455 : decode m_LH_act.2.1 455 = .ok (.iload_n 1, 1) := by decide +kernel
theorem d_LH_act_456 : decode m_LH_act.2.1 456 = .ok (.bipush 14, 2) := by decide +kernel
theorem d_LH_act_458 : decode m_LH_act.2.1 458 = .ok (.ishr, 1) := by decide +kernel
theorem d_LH_act_459 : decode m_LH_act.2.1 459 = .ok (.bipush 18, 2) := by decide +kernel
theorem d_LH_act_461 : decode m_LH_act.2.1 461 = .ok (.invokestatic 156, 3) := by decide +kernel
theorem d_LH_act_464 : decode m_LH_act.2.1 464 = .ok (.iconst 0, 1) := by decide +kernel
theorem d_LH_act_465 : decode m_LH_act.2.1 465 = .ok (.iconst 0, 1) := by decide +kernel
theorem d_LH_act_466 : decode m_LH_act.2.1 466 = .ok (.invokestatic 163, 3) := by decide +kernel
theorem d_LH_act_469 : decode m_LH_act.2.1 469 = .ok (.goto 81, 3) := by decide +kernel
theorem d_LH_act_472 : decode m_LH_act.2.1 472 = .ok (.iload_n 3, 1) := by decide +kernel
theorem d_LH_act_473 : decode m_LH_act.2.1 473 = .ok (.bipush 13, 2) := by decide +kernel
theorem d_LH_act_475 : decode m_LH_act.2.1 475 = .ok (.if_icmp .ne 28, 3) := by decide +kernel
theorem d_LH_act_478 : decode m_LH_act.2.1 478 = .ok (.iload_n 1, 1) := by decide +kernel
theorem d_LH_act_479 : decode m_LH_act.2.1 479 = .ok (.bipush 13, 2) := by decide +kernel
theorem d_LH_act_481 : decode m_LH_act.2.1 481 = .ok (.ishr, 1) := by decide +kernel
theorem d_LH_act_482 : decode m_LH_act.2.1 482 = .ok (.iconst 1, 1) := by decide +kernel
theorem d_LH_act_483 : decode m_LH_act.2.1 483 = .ok (.iand, 1) := by decide +kernel
theorem d_LH_act_484 : decode m_LH_act.2.1 484 = .ok (.ifCond .ne 19, 3) := by decide +kernel
theorem d_LH_act_487 : decode m_LH_act.2.1 487 = .ok (.aload_n 0, 1) := by decide +kernel
theorem d_LH_act_488 : decode m_LH_act.2.1 488 = .ok (.iconst 5, 1) := by decide +kernel
theorem d_LH_act_489 : decode m_LH_act.2.1 489 = .ok (.iload 4, 2) := by decide +kernel
theorem d_LH_act_491 : decode m_LH_act.2.1 491 = .ok (.iload 5, 2) := by decide +kernel
theorem d_LH_act_493 : decode m_LH_act.2.1 493 = .ok (.iconst 0, 1) := by decide +kernel
theorem d_LH_act_494 : decode m_LH_act.2.1 494 = .ok (.iconst 0, 1) := by decide +kernel
theorem d_LH_act_495 : decode m_LH_act.2.1 495 = .ok (.iconst 0, 1) := by decide +kernel
theorem d_LH_act_496 : decode m_LH_act.2.1 496 = .ok (.iconst 0, 1) := by decide +kernel
theorem d_LH_act_497 : decode m_LH_act.2.1 497 = .ok (.invokestatic 163, 3) := by decide +kernel
theorem d_LH_act_500 : decode m_LH_act.2.1 500 = .ok (.goto 50, 3) := by decide +kernel
theorem d_LH_act_503 : decode m_LH_act.2.1 503 = .ok (.aload_n 0, 1) := by decide +kernel
theorem d_LH_act_504 : decode m_LH_act.2.1 504 = .ok (.bipush 7, 2) := by decide +kernel
theorem d_LH_act_506 : decode m_LH_act.2.1 506 = .ok (.iload 4, 2) := by decide +kernel
theorem d_LH_act_508 : decode m_LH_act.2.1 508 = .ok (.iload 5, 2) := by decide +kernel
theorem d_LH_act_510 : decode m_LH_act.2.1 510 = .ok (.iload_n 1, 1) := by decide +kernel
theorem d_LH_act_511 : decode m_LH_act.2.1 511 = .ok (.bipush 13, 2) := by decide +kernel
theorem d_LH_act_513 : decode m_LH_act.2.1 513 = .ok (.ishr, 1) := by decide +kernel
theorem d_LH_act_514 : decode m_LH_act.2.1 514 = .ok (.iload_n 2, 1) := by decide +kernel
theorem d_LH_act_515 : decode m_LH_act.2.1 515 = .ok (.ifCond .eq 7, 3) := by decide +kernel
theorem d_LH_act_518 : decode m_LH_act.2.1 518 = .ok (.iconst 5, 1) := by decide +kernel
theorem d_LH_act_519 : decode m_LH_act.2.1 519 = .ok (.goto 4, 3) := by decide +kernel
theorem d_LH_act_522 : decode m_LH_act.2.1 522 = .ok (.iconst 4, 1) := by decide +kernel
theorem d_LH_act_523 : decode m_LH_act.2.1 523 = .ok (.invokestatic 156, 3) := by decide +kernel
theorem d_LH_act_526 : decode m_LH_act.2.1 526 = .ok (.iload_n 1, 1) := by decide +kernel
theorem d_LH_act_527 : decode m_LH_act.2.1 527 = .ok (.bipush 12, 2) := by decide +kernel
theorem d_LH_act_529 : decode m_LH_act.2.1 529 = .ok (.ishr, 1) := by decide +kernel
theorem d_LH_act_530 : decode m_LH_act.2.1 530 = .ok (.bipush 6, 2) := by decide +kernel
theorem d_LH_act_532 : decode m_LH_act.2.1 532 = .ok (.invokestatic 156, 3) := by decide +kernel
theorem d_LH_act_535 : decode m_LH_act.2.1 535 = .ok (.iload_n 1, 1) := by decide +kernel
theorem d_LH_act_536 : decode m_LH_act.2.1 536 = .ok (.bipush 10, 2) := by decide +kernel
theorem d_LH_act_538 : decode m_LH_act.2.1 538 = .ok (.ishr, 1) := by decide +kernel
theorem d_LH_act_539 : decode m_LH_act.2.1 539 = .ok (.bipush 9, 2) := by decide +kernel
theorem d_LH_act_541 : decode m_LH_act.2.1 541 = .ok (.invokestatic 156, 3) := by decide +kernel
theorem d_LH_act_544 : decode m_LH_act.2.1 544 = .ok (.iconst 2, 1) := by decide +kernel
theorem d_LH_act_545 : decode m_LH_act.2.1 545 = .ok (.isub, 1) := by decide +kernel
theorem d_LH_act_546 : decode m_LH_act.2.1 546 = .ok (.iconst 0, 1) := by decide +kernel
theorem d_LH_act_547 : decode m_LH_act.2.1 547 = .ok (.invokestatic 163, 3) := by decide +kernel
theorem d_LH_act_550 : decode m_LH_act.2.1 550 = .ok (.ireturn, 1) := by decide +kernel
theorem d_LH_act_551 : decode m_LH_act.2.1 551 = .ok (.iload_n 3, 1) := by decide +kernel
theorem d_LH_act_552 : decode m_LH_act.2.1 552 = .ok (.bipush 21, 2) := by decide +kernel
theorem d_LH_act_554 : decode m_LH_act.2.1 554 = .ok (.if_icmp .ge 35, 3) := by decide +kernel
theorem d_LH_act_557 : decode m_LH_act.2.1 557 = .ok (.aload_n 0, 1) := by decide +kernel
theorem d_LH_act_558 : decode m_LH_act.2.1 558 = .ok (.iconst 5, 1) := by decide +kernel
theorem d_LH_act_559 : decode m_LH_act.2.1 559 = .ok (.iload_n 2, 1) := by decide +kernel
theorem d_LH_act_560 : decode m_LH_act.2.1 560 = .ok (.ifCond .eq 8, 3) := by decide +kernel
theorem d_LH_act_563 : decode m_LH_act.2.1 563 = .ok (.iload 5, 2) := by decide +kernel
theorem d_LH_act_565 : decode m_LH_act.2.1 565 = .ok (.goto 11, 3) := by decide +kernel
theorem d_LH_act_568 : decode m_LH_act.2.1 568 = .ok (.iload_n 1, 1) := by decide +kernel
theorem d_LH_act_569 : decode m_LH_act.2.1 569 = .ok (.bipush 9, 2) := by decide +kernel
theorem d_LH_act_571 : decode m_LH_act.2.1 571 = .ok (.ishr, 1) := by decide +kernel
theorem d_LH_act_572 : decode m_LH_act.2.1 572 = .ok (.iconst 4, 1) := by decide +kernel
theorem d_LH_act_573 : decode m_LH_act.2.1 573 = .ok (.invokestatic 156, 3) := by decide +kernel
theorem d_LH_act_576 : decode m_LH_act.2.1 576 = .ok (.iload_n 1, 1) := by decide +kernel
theorem d_LH_act_577 : decode m_LH_act.2.1 577 = .ok (.bipush 11, 2) := by decide +kernel
theorem d_LH_act_579 : decode m_LH_act.2.1 579 = .ok (.ishr, 1) := by decide +kernel
theorem d_LH_act_580 : decode m_LH_act.2.1 580 = .ok (.iload_n 2, 1) := by decide +kernel
theorem d_LH_act_581 : decode m_LH_act.2.1 581 = .ok (.invokestatic 167, 3) := by decide +kernel
theorem d_LH_act_584 : decode m_LH_act.2.1 584 = .ok (.iconst 0, 1) := by decide +kernel
theorem d_LH_act_585 : decode m_LH_act.2.1 585 = .ok (.invokestatic 159, 3) := by decide +kernel
theorem d_LH_act_588 : decode m_LH_act.2.1 588 = .ok (.ireturn, 1) := by decide +kernel
theorem d_LH_act_589 : decode m_LH_act.2.1 589 = .ok (.iload_n 3, 1) := by decide +kernel
theorem d_LH_act_590 : decode m_LH_act.2.1 590 = .ok (.bipush 30, 2) := by decide +kernel
theorem d_LH_act_592 : decode m_LH_act.2.1 592 = .ok (.if_icmp .ge 54, 3) := by decide +kernel
theorem d_LH_act_595 : decode m_LH_act.2.1 595 = .ok (.iload_n 3, 1) := by decide +kernel
theorem d_LH_act_596 : decode m_LH_act.2.1 596 = .ok (.bipush 28, 2) := by decide +kernel
theorem d_LH_act_598 : decode m_LH_act.2.1 598 = .ok (.if_icmp .ge 16, 3) := by decide +kernel
theorem d_LH_act_601 : decode m_LH_act.2.1 601 = .ok (.aload_n 0, 1) := by decide +kernel
theorem d_LH_act_602 : decode m_LH_act.2.1 602 = .ok (.bipush 6, 2) := by decide +kernel
theorem d_LH_act_604 : decode m_LH_act.2.1 604 = .ok (.iload 4, 2) := by decide +kernel
theorem d_LH_act_606 : decode m_LH_act.2.1 606 = .ok (.iconst 0, 1) := by decide +kernel
theorem d_LH_act_607 : decode m_LH_act.2.1 607 = .ok (.iconst 0, 1) := by decide +kernel
theorem d_LH_act_608 : decode m_LH_act.2.1 608 = .ok (.invokestatic 159, 3) := by decide +kernel
theorem d_LH_act_611 : decode m_LH_act.2.1 611 = .ok (.goto 34, 3) := by decide +kernel
theorem d_LH_act_614 : decode m_LH_act.2.1 614 = .ok (.iload_n 3, 1) := by decide +kernel
theorem d_LH_act_615 : decode m_LH_act.2.1 615 = .ok (.bipush 28, 2) := by decide +kernel
theorem d_LH_act_617 : decode m_LH_act.2.1 617 = .ok (.if_icmp .ne 17, 3) := by decide +kernel
theorem d_LH_act_620 : decode m_LH_act.2.1 620 = .ok (.aload_n 0, 1) := by decide +kernel
theorem d_LH_act_621 : decode m_LH_act.2.1 621 = .ok (.bipush 9, 2) := by decide +kernel
theorem d_LH_act_623 : decode m_LH_act.2.1 623 = .ok (.iload 4, 2) := by decide +kernel
theorem d_LH_act_625 : decode m_LH_act.2.1 625 = .ok (.iload 6, 2) := by decide +kernel
theorem d_LH_act_627 : decode m_LH_act.2.1 627 = .ok (.iconst 0, 1) := by decide +kernel
theorem d_LH_act_628 : decode m_LH_act.2.1 628 = .ok (.invokestatic 159, 3) := by decide +kernel
theorem d_LH_act_631 : decode m_LH_act.2.1 631 = .ok (.goto 14, 3) := by decide +kernel
theorem d_LH_act_634 : decode m_LH_act.2.1 634 = .ok (.aload_n 0, 1) := by decide +kernel
theorem d_LH_act_635 : decode m_LH_act.2.1 635 = .ok (.bipush 7, 2) := by decide +kernel
theorem d_LH_act_637 : decode m_LH_act.2.1 637 = .ok (.iload 4, 2) := by decide +kernel
theorem d_LH_act_639 : decode m_LH_act.2.1 639 = .ok (.iload 5, 2) := by decide +kernel
theorem d_LH_act_641 : decode m_LH_act.2.1 641 = .ok (.iconst 0, 1) := by decide +kernel
theorem d_LH_act_642 : decode m_LH_act.2.1 642 = .ok (.invokestatic 159, 3) := by decide +kernel
theorem d_LH_act_645 : decode m_LH_act.2.1 645 = .ok (.ireturn, 1) := by decide +kernel
theorem d_LH_act_646 : decode m_LH_act.2.1 646 = .ok (.iload_n 3, 1) := by decide +kernel
theorem d_LH_act_647 : decode m_LH_act.2.1 647 = .ok (.bipush 38, 2) := by decide +kernel
theorem d_LH_act_649 : decode m_LH_act.2.1 649 = .ok (.if_icmp .ge 46, 3) := by decide +kernel
theorem d_LH_act_652 : decode m_LH_act.2.1 652 = .ok (.iload_n 3, 1) := by decide +kernel
theorem d_LH_act_653 : decode m_LH_act.2.1 653 = .ok (.bipush 36, 2) := by decide +kernel
theorem d_LH_act_655 : decode m_LH_act.2.1 655 = .ok (.if_icmp .ge 28, 3) := by decide +kernel
theorem d_LH_act_658 : decode m_LH_act.2.1 658 = .ok (.aload_n 0, 1) := by decide +kernel
theorem d_LH_act_659 : decode m_LH_act.2.1 659 = .ok (.bipush 8, 2) := by decide +kernel
theorem d_LH_act_661 : decode m_LH_act.2.1 661 = .ok (.iload 4, 2) := by decide +kernel
theorem d_LH_act_663 : decode m_LH_act.2.1 663 = .ok (.iload 6, 2) := by decide +kernel
theorem d_LH_act_665 : decode m_LH_act.2.1 665 = .ok (.iload 5, 2) := by decide +kernel
theorem d_LH_act_667 : decode m_LH_act.2.1 667 = .ok (.iload_n 1, 1) := by decide +kernel
theorem d_LH_act_668 : decode m_LH_act.2.1 668 = .ok (.bipush 13, 2) := by decide +kernel
theorem d_LH_act_670 : decode m_LH_act.2.1 670 = .ok (.ishr, 1) := by decide +kernel
theorem d_LH_act_671 : decode m_LH_act.2.1 671 = .ok (.iload_n 2, 1) := by decide +kernel
theorem d_LH_act_672 : decode m_LH_act.2.1 672 = .ok (.invokestatic 167, 3) := by decide +kernel
theorem d_LH_act_675 : decode m_LH_act.2.1 675 = .ok (.iconst 0, 1) := by decide +kernel
theorem d_LH_act_676 : decode m_LH_act.2.1 676 = .ok (.iconst 0, 1) := by decide +kernel
theorem d_LH_act_677 : decode m_LH_act.2.1 677 = .ok (.invokestatic 163, 3) := by decide +kernel
theorem d_LH_act_680 : decode m_LH_act.2.1 680 = .ok (.goto 14, 3) := by decide +kernel
theorem d_LH_act_683 : decode m_LH_act.2.1 683 = .ok (.aload_n 0, 1) := by decide +kernel
theorem d_LH_act_684 : decode m_LH_act.2.1 684 = .ok (.bipush 8, 2) := by decide +kernel
theorem d_LH_act_686 : decode m_LH_act.2.1 686 = .ok (.iload 4, 2) := by decide +kernel
theorem d_LH_act_688 : decode m_LH_act.2.1 688 = .ok (.iload 6, 2) := by decide +kernel
theorem d_LH_act_690 : decode m_LH_act.2.1 690 = .ok (.iconst 0, 1) := by decide +kernel
theorem d_LH_act_691 : decode m_LH_act.2.1 691 = .ok (.invokestatic 159, 3) := by decide +kernel
theorem d_LH_act_694 : decode m_LH_act.2.1 694 = .ok (.ireturn, 1) := by decide +kernel
theorem d_LH_act_695 : decode m_LH_act.2.1 695 = .ok (.iload_n 3, 1) := by decide +kernel
theorem d_LH_act_696 : decode m_LH_act.2.1 696 = .ok (.bipush 43, 2) := by decide +kernel
theorem d_LH_act_698 : decode m_LH_act.2.1 698 = .ok (.if_icmp .ge 178, 3) := by decide +kernel
theorem d_LH_act_701 : decode m_LH_act.2.1 701 = .ok (.iload_n 1, 1) := by decide +kernel
theorem d_LH_act_702 : decode m_LH_act.2.1 702 = .ok (.bipush 13, 2) := by decide +kernel
theorem d_LH_act_704 : decode m_LH_act.2.1 704 = .ok (.ishr, 1) := by decide +kernel
theorem d_LH_act_705 : decode m_LH_act.2.1 705 = .ok (.iconst 1, 1) := by decide +kernel
theorem d_LH_act_706 : decode m_LH_act.2.1 706 = .ok (.iand, 1) := by decide +kernel
theorem d_LH_act_707 : decode m_LH_act.2.1 707 = .ok (.ifCond .ne 8, 3) := by decide +kernel
theorem d_LH_act_710 : decode m_LH_act.2.1 710 = .ok (.iload 4, 2) := by decide +kernel
theorem d_LH_act_712 : decode m_LH_act.2.1 712 = .ok (.goto 24, 3) := by decide +kernel
theorem d_LH_act_715 : decode m_LH_act.2.1 715 = .ok (.bipush 10, 2) := by decide +kernel
theorem d_LH_act_717 : decode m_LH_act.2.1 717 = .ok (.iload_n 1, 1) := by decide +kernel
theorem d_LH_act_718 : decode m_LH_act.2.1 718 = .ok (.bipush 7, 2) := by decide +kernel
theorem d_LH_act_720 : decode m_LH_act.2.1 720 = .ok (.ishr, 1) := by decide +kernel
theorem d_LH_act_721 : decode m_LH_act.2.1 721 = .ok (.iload_n 2, 1) := by decide +kernel
theorem d_LH_act_722 : decode m_LH_act.2.1 722 = .ok (.ifCond .eq 8, 3) := by decide +kernel
theorem d_LH_act_725 : decode m_LH_act.2.1 725 = .ok (.bipush 9, 2) := by decide +kernel
theorem d_LH_act_727 : decode m_LH_act.2.1 727 = .ok (.goto 5, 3) := by decide +kernel
theorem d_LH_act_730 : decode m_LH_act.2.1 730 = .ok (.bipush 6, 2) := by decide +kernel
theorem d_LH_act_732 : decode m_LH_act.2.1 732 = .ok (.invokestatic 156, 3) := by decide +kernel
theorem d_LH_act_735 : decode m_LH_act.2.1 735 = .ok (.iadd, 1) := by decide +kernel
theorem d_LH_act_736 : decode m_LH_act.2.1 736 = .ok (.istore 7, 2) := by decide +kernel
theorem d_LH_act_738 : decode m_LH_act.2.1 738 = .ok (.iload_n 3, 1) := by decide +kernel
theorem d_LH_act_739 : decode m_LH_act.2.1 739 = .ok (.bipush 40, 2) := by decide +kernel
theorem d_LH_act_741 : decode m_LH_act.2.1 741 = .ok (.if_icmp .ge 31, 3) := by decide +kernel
theorem d_LH_act_744 : decode m_LH_act.2.1 744 = .ok (.aload_n 0, 1) := by decide +kernel
theorem d_LH_act_745 : decode m_LH_act.2.1 745 = .ok (.iconst 0, 1) := by decide +kernel
theorem d_LH_act_746 : decode m_LH_act.2.1 746 = .ok (.iload 7, 2) := by decide +kernel
theorem d_LH_act_748 : decode m_LH_act.2.1 748 = .ok (.iload_n 1, 1) := by decide +kernel
theorem d_LH_act_749 : decode m_LH_act.2.1 749 = .ok (.bipush 14, 2) := by decide +kernel
theorem d_LH_act_751 : decode m_LH_act.2.1 751 = .ok (.ishr, 1) := by decide +kernel
theorem d_LH_act_752 : decode m_LH_act.2.1 752 = .ok (.iconst 1, 1) := by decide +kernel
theorem d_LH_act_753 : decode m_LH_act.2.1 753 = .ok (.iand, 1) := by decide +kernel
theorem d_LH_act_754 : decode m_LH_act.2.1 754 = .ok (.ifCond .ne 7, 3) := by decide +kernel
theorem d_LH_act_757 : decode m_LH_act.2.1 757 = .ok (.iconst (-1), 1) := by decide +kernel
theorem d_LH_act_758 : decode m_LH_act.2.1 758 = .ok (.goto 5, 3) := by decide +kernel
theorem d_LH_act_761 : decode m_LH_act.2.1 761 = .ok (.iload 5, 2) := by decide +kernel
theorem d_LH_act_763 : decode m_LH_act.2.1 763 = .ok (.iconst 0, 1) := by decide +kernel
theorem d_LH_act_764 : decode m_LH_act.2.1 764 = .ok (.iconst 0, 1) := by decide +kernel
theorem d_LH_act_765 : decode m_LH_act.2.1 765 = .ok (.iconst 0, 1) := by decide +kernel
theorem d_LH_act_766 : decode m_LH_act.2.1 766 = .ok (.invokestatic 171, 3) := by decide +kernel
theorem d_LH_act_769 : decode m_LH_act.2.1 769 = .ok (.goto 106, 3) := by decide +kernel
theorem d_LH_act_772 : decode m_LH_act.2.1 772 = .ok (.iload_n 3, 1) := by decide +kernel
theorem d_LH_act_773 : decode m_LH_act.2.1 773 = .ok (.bipush 41, 2) := by decide +kernel
theorem d_LH_act_775 : decode m_LH_act.2.1 775 = .ok (.if_icmp .ge 41, 3) := by decide +kernel
theorem d_LH_act_778 : decode m_LH_act.2.1 778 = .ok (.aload_n 0, 1) := by decide +kernel
theorem d_LH_act_779 : decode m_LH_act.2.1 779 = .ok (.iconst 2, 1) := by decide +kernel
theorem d_LH_act_780 : decode m_LH_act.2.1 780 = .ok (.iload_n 1, 1) := by decide +kernel
theorem d_LH_act_781 : decode m_LH_act.2.1 781 = .ok (.bipush 15, 2) := by decide +kernel
theorem d_LH_act_783 : decode m_LH_act.2.1 783 = .ok (.ishr, 1) := by decide +kernel
theorem d_LH_act_784 : decode m_LH_act.2.1 784 = .ok (.iconst 1, 1) := by decide +kernel
theorem d_LH_act_785 : decode m_LH_act.2.1 785 = .ok (.iand, 1) := by decide +kernel
theorem d_LH_act_786 : decode m_LH_act.2.1 786 = .ok (.iadd, 1) := by decide +kernel
theorem d_LH_act_787 : decode m_LH_act.2.1 787 = .ok (.iload 7, 2) := by decide +kernel
theorem d_LH_act_789 : decode m_LH_act.2.1 789 = .ok (.iload 5, 2) := by decide +kernel
theorem d_LH_act_791 : decode m_LH_act.2.1 791 = .ok (.iload_n 1, 1) := by decide +kernel
theorem d_LH_act_792 : decode m_LH_act.2.1 792 = .ok (.bipush 12, 2) := by decide +kernel
theorem d_LH_act_794 : decode m_LH_act.2.1 794 = .ok (.ishr, 1) := by decide +kernel
theorem d_LH_act_795 : decode m_LH_act.2.1 795 = .ok (.bipush 6, 2) := by decide +kernel
theorem d_LH_act_797 : decode m_LH_act.2.1 797 = .ok (.invokestatic 156, 3) := by decide +kernel
theorem d_LH_act_800 : decode m_LH_act.2.1 800 = .ok (.iload_n 1, 1) := by decide +kernel
theorem d_LH_act_801 : decode m_LH_act.2.1 801 = .ok (.bipush 10, 2) := by decide +kernel
theorem d_LH_act_803 : decode m_LH_act.2.1 803 = .ok (.ishr, 1) := by decide +kernel
theorem d_LH_act_804 : decode m_LH_act.2.1 804 = .ok (.bipush 6, 2) := by decide +kernel
theorem d_LH_act_806 : decode m_LH_act.2.1 806 = .ok (.invokestatic 156, 3) := by decide +kernel
theorem d_LH_act_809 : decode m_LH_act.2.1 809 = .ok (.iconst 0, 1) := by decide +kernel
theorem d_LH_act_810 : decode m_LH_act.2.1 810 = .ok (.invokestatic 171, 3) := by decide +kernel
theorem d_LH_act_813 : decode m_LH_act.2.1 813 = .ok (.goto 62, 3) := by decide +kernel
theorem d_LH_act_816 : decode m_LH_act.2.1 816 = .ok (.aload_n 0, 1) := by decide +kernel
theorem d_LH_act_817 : decode m_LH_act.2.1 817 = .ok (.iconst 1, 1) := by decide +kernel
theorem d_LH_act_818 : decode m_LH_act.2.1 818 = .ok (.iload_n 1, 1) := by decide +kernel
theorem d_LH_act_819 : decode m_LH_act.2.1 819 = .ok (.bipush 7, 2) := by decide +kernel
theorem d_LH_act_821 : decode m_LH_act.2.1 821 = .ok (.ishr, 1) := by decide +kernel
theorem d_LH_act_822 : decode m_LH_act.2.1 822 = .ok (.bipush 8, 2) := by decide +kernel
theorem d_LH_act_824 : decode m_LH_act.2.1 824 = .ok (.invokestatic 156, 3) := by decide +kernel
theorem d_LH_act_827 : decode m_LH_act.2.1 827 = .ok (.iload_n 1, 1) := by decide +kernel
theorem d_LH_act_828 : decode m_LH_act.2.1 828 = .ok (.bipush 9, 2) := by decide +kernel
theorem d_LH_act_830 : decode m_LH_act.2.1 830 = .ok (.ishr, 1) := by decide +kernel
theorem d_LH_act_831 : decode m_LH_act.2.1 831 = .ok (.iload_n 2, 1) := by decide +kernel
theorem d_LH_act_832 : decode m_LH_act.2.1 832 = .ok (.ifCond .eq 7, 3) := by decide +kernel
theorem d_LH_act_835 : decode m_LH_act.2.1 835 = .ok (.iconst 4, 1) := by decide +kernel
theorem d_LH_act_836 : decode m_LH_act.2.1 836 = .ok (.goto 4, 3) := by decide +kernel
theorem d_LH_act_839 : decode m_LH_act.2.1 839 = .ok (.iconst 3, 1) := by decide +kernel
theorem d_LH_act_840 : decode m_LH_act.2.1 840 = .ok (.invokestatic 156, 3) := by decide +kernel
theorem d_LH_act_843 : decode m_LH_act.2.1 843 = .ok (.iload 5, 2) := by decide +kernel
theorem d_LH_act_845 : decode m_LH_act.2.1 845 = .ok (.iload_n 1, 1) := by decide +kernel
theorem d_LH_act_846 : decode m_LH_act.2.1 846 = .ok (.bipush 12, 2) := by decide +kernel
theorem d_LH_act_848 : decode m_LH_act.2.1 848 = .ok (.ishr, 1) := by decide +kernel
theorem d_LH_act_849 : decode m_LH_act.2.1 849 = .ok (.iload_n 2, 1) := by decide +kernel
theorem d_LH_act_850 : decode m_LH_act.2.1 850 = .ok (.ifCond .eq 7, 3) := by decide +kernel
theorem d_LH_act_853 : decode m_LH_act.2.1 853 = .ok (.iconst 5, 1) := by decide +kernel
theorem d_LH_act_854 : decode m_LH_act.2.1 854 = .ok (.goto 4, 3) := by decide +kernel
theorem d_LH_act_857 : decode m_LH_act.2.1 857 = .ok (.iconst 4, 1) := by decide +kernel
theorem d_LH_act_858 : decode m_LH_act.2.1 858 = .ok (.invokestatic 156, 3) := by decide +kernel
theorem d_LH_act_861 : decode m_LH_act.2.1 861 = .ok (.iload_n 1, 1) := by decide +kernel
theorem d_LH_act_862 : decode m_LH_act.2.1 862 = .ok (.bipush 14, 2) := by decide +kernel
theorem d_LH_act_864 : decode m_LH_act.2.1 864 = .ok (.ishr, 1) := by decide +kernel
theorem d_LH_act_865 : decode m_LH_act.2.1 865 = .ok (.bipush 20, 2) := by decide +kernel
theorem d_LH_act_867 : decode m_LH_act.2.1 867 = .ok (.invokestatic 156, 3) := by decide +kernel
theorem d_LH_act_870 : decode m_LH_act.2.1 870 = .ok (.iconst 4, 1) := by decide +kernel
theorem d_LH_act_871 : decode m_LH_act.2.1 871 = .ok (.isub, 1) := by decide +kernel
theorem d_LH_act_872 : decode m_LH_act.2.1 872 = .ok (.invokestatic 171, 3) := by decide +kernel
theorem d_LH_act_875 : decode m_LH_act.2.1 875 = .ok (.ireturn, 1) := by decide +kernel
theorem d_LH_act_876 : decode m_LH_act.2.1 876 = .ok (.iload_n 3, 1) := by decide +kernel
theorem d_LH_act_877 : decode m_LH_act.2.1 877 = .ok (.bipush 47, 2) := by decide +kernel
theorem d_LH_act_879 : decode m_LH_act.2.1 879 = .ok (.if_icmp .ge 151, 3) := by decide +kernel
theorem d_LH_act_882 : decode m_LH_act.2.1 882 = .ok (.iload_n 1, 1) := by decide +kernel
theorem d_LH_act_883 : decode m_LH_act.2.1 883 = .ok (.bipush 7, 2) := by decide +kernel
theorem d_LH_act_885 : decode m_LH_act.2.1 885 = .ok (.ishr, 1) := by decide +kernel
theorem d_LH_act_886 : decode m_LH_act.2.1 886 = .ok (.iconst 3, 1) := by decide +kernel
theorem d_LH_act_887 : decode m_LH_act.2.1 887 = .ok (.invokestatic 156, 3) := by decide +kernel
theorem d_LH_act_890 : decode m_LH_act.2.1 890 = .ok (.istore 7, 2) := by decide +kernel
theorem d_LH_act_892 : decode m_LH_act.2.1 892 = .ok (.iload_n 1, 1) := by decide +kernel
theorem d_LH_act_893 : decode m_LH_act.2.1 893 = .ok (.bipush 9, 2) := by decide +kernel
theorem d_LH_act_895 : decode m_LH_act.2.1 895 = .ok (.ishr, 1) := by decide +kernel
theorem d_LH_act_896 : decode m_LH_act.2.1 896 = .ok (.bipush 6, 2) := by decide +kernel
theorem d_LH_act_898 : decode m_LH_act.2.1 898 = .ok (.invokestatic 156, 3) := by decide +kernel
theorem d_LH_act_901 : decode m_LH_act.2.1 901 = .ok (.istore 8, 2) := by decide +kernel
theorem d_LH_act_903 : decode m_LH_act.2.1 903 = .ok (.iload_n 3, 1) := by decide +kernel
theorem d_LH_act_904 : decode m_LH_act.2.1 904 = .ok (.bipush 43, 2) := by decide +kernel
theorem d_LH_act_906 : decode m_LH_act.2.1 906 = .ok (.if_icmp .ne 14, 3) := by decide +kernel
theorem d_LH_act_909 : decode m_LH_act.2.1 909 = .ok (.aload_n 0, 1) := by decide +kernel
theorem d_LH_act_910 : decode m_LH_act.2.1 910 = .ok (.iconst 3, 1) := by decide +kernel
theorem d_LH_act_911 : decode m_LH_act.2.1 911 = .ok (.iconst 0, 1) := by decide +kernel
theorem d_LH_act_912 : decode m_LH_act.2.1 912 = .ok (.iconst 0, 1) := by decide +kernel
theorem d_LH_act_913 : decode m_LH_act.2.1 913 = .ok (.iconst 0, 1) := by decide +kernel
theorem d_LH_act_914 : decode m_LH_act.2.1 914 = .ok (.invokestatic 159, 3) := by decide +kernel
theorem d_LH_act_917 : decode m_LH_act.2.1 917 = .ok (.goto 112, 3) := by decide +kernel
theorem d_LH_act_920 : decode m_LH_act.2.1 920 = .ok (.iload_n 3, 1) := by decide +kernel
theorem d_LH_act_921 : decode m_LH_act.2.1 921 = .ok (.bipush 44, 2) := by decide +kernel
theorem d_LH_act_923 : decode m_LH_act.2.1 923 = .ok (.if_icmp .ne 27, 3) := by decide +kernel
theorem d_LH_act_926 : decode m_LH_act.2.1 926 = .ok (.aload_n 0, 1) := by decide +kernel
theorem d_LH_act_927 : decode m_LH_act.2.1 927 = .ok (.bipush 7, 2) := by decide +kernel
theorem d_LH_act_929 : decode m_LH_act.2.1 929 = .ok (.iload 7, 2) := by decide +kernel
theorem d_LH_act_931 : decode m_LH_act.2.1 931 = .ok (.iload 8, 2) := by decide +kernel
theorem d_LH_act_933 : decode m_LH_act.2.1 933 = .ok (.iload 5, 2) := by decide +kernel
theorem d_LH_act_935 : decode m_LH_act.2.1 935 = .ok (.iload_n 1, 1) := by decide +kernel
theorem d_LH_act_936 : decode m_LH_act.2.1 936 = .ok (.bipush 12, 2) := by decide +kernel
theorem d_LH_act_938 : decode m_LH_act.2.1 938 = .ok (.ishr, 1) := by decide +kernel
theorem d_LH_act_939 : decode m_LH_act.2.1 939 = .ok (.iload_n 2, 1) := by decide +kernel
theorem d_LH_act_940 : decode m_LH_act.2.1 940 = .ok (.invokestatic 167, 3) := by decide +kernel
theorem d_LH_act_943 : decode m_LH_act.2.1 943 = .ok (.iconst 0, 1) := by decide +kernel
theorem d_LH_act_944 : decode m_LH_act.2.1 944 = .ok (.invokestatic 171, 3) := by decide +kernel
theorem d_LH_act_947 : decode m_LH_act.2.1 947 = .ok (.goto 82, 3) := by decide +kernel
theorem d_LH_act_950 : decode m_LH_act.2.1 950 = .ok (.iload_n 3, 1) := by decide +kernel
theorem d_LH_act_951 : decode m_LH_act.2.1 951 = .ok (.bipush 45, 2) := by decide +kernel
theorem d_LH_act_953 : decode m_LH_act.2.1 953 = .ok (.if_icmp .ne 62, 3) := by decide +kernel
theorem d_LH_act_956 : decode m_LH_act.2.1 956 = .ok (.iload_n 1, 1) := by decide +kernel
theorem d_LH_act_957 : decode m_LH_act.2.1 957 = .ok (.bipush 13, 2) := by decide +kernel
theorem d_LH_act_959 : decode m_LH_act.2.1 959 = .ok (.ishr, 1) := by decide +kernel
theorem d_LH_act_960 : decode m_LH_act.2.1 960 = .ok (.iconst 1, 1) := by decide +kernel
theorem d_LH_act_961 : decode m_LH_act.2.1 961 = .ok (.iand, 1) := by decide +kernel
theorem d_LH_act_962 : decode m_LH_act.2.1 962 = .ok (.ifCond .ne 19, 3) := by decide +kernel
theorem d_LH_act_965 : decode m_LH_act.2.1 965 = .ok (.aload_n 0, 1) := by decide +kernel
theorem d_LH_act_966 : decode m_LH_act.2.1 966 = .ok (.bipush 8, 2) := by decide +kernel
theorem d_LH_act_968 : decode m_LH_act.2.1 968 = .ok (.iload 7, 2) := by decide +kernel
theorem d_LH_act_970 : decode m_LH_act.2.1 970 = .ok (.iload 4, 2) := by decide +kernel
theorem d_LH_act_972 : decode m_LH_act.2.1 972 = .ok (.iconst 0, 1) := by decide +kernel
theorem d_LH_act_973 : decode m_LH_act.2.1 973 = .ok (.iconst 0, 1) := by decide +kernel
theorem d_LH_act_974 : decode m_LH_act.2.1 974 = .ok (.iconst 0, 1) := by decide +kernel
theorem d_LH_act_975 : decode m_LH_act.2.1 975 = .ok (.invokestatic 171, 3) := by decide +kernel
theorem d_LH_act_978 : decode m_LH_act.2.1 978 = .ok (.goto 51, 3) := by decide +kernel
theorem d_LH_act_981 : decode m_LH_act.2.1 981 = .ok (.aload_n 0, 1) := by decide +kernel
theorem d_LH_act_982 : decode m_LH_act.2.1 982 = .ok (.bipush 10, 2) := by decide +kernel
theorem d_LH_act_984 : decode m_LH_act.2.1 984 = .ok (.iload 7, 2) := by decide +kernel
theorem d_LH_act_986 : decode m_LH_act.2.1 986 = .ok (.iload 8, 2) := by decide +kernel
theorem d_LH_act_988 : decode m_LH_act.2.1 988 = .ok (.iconst 1, 1) := by decide +kernel
theorem d_LH_act_989 : decode m_LH_act.2.1 989 = .ok (.iload_n 1, 1) := by decide +kernel
theorem d_LH_act_990 : decode m_LH_act.2.1 990 = .ok (.bipush 12, 2) := by decide +kernel
theorem d_LH_act_992 : decode m_LH_act.2.1 992 = .ok (.ishr, 1) := by decide +kernel
theorem d_LH_act_993 : decode m_LH_act.2.1 993 = .ok (.iload_n 2, 1) := by decide +kernel
theorem d_LH_act_994 : decode m_LH_act.2.1 994 = .ok (.ifCond .eq 8, 3) := by decide +kernel
theorem d_LH_act_997 : decode m_LH_act.2.1 997 = .ok (.bipush 7, 2) := by decide +kernel
theorem d_LH_act_999 : decode m_LH_act.2.1 999 = .ok (.goto 4, 3) := by decide +kernel
theorem d_LH_act_1002 : decode m_LH_act.2.1 1002 = .ok (.iconst 4, 1) := by decide +kernel
theorem d_LH_act_1003 : decode m_LH_act.2.1 1003 = .ok (.invokestatic 156, 3) := by decide +kernel
theorem d_LH_act_1006 : decode m_LH_act.2.1 1006 = .ok (.iadd, 1) := by decide +kernel
theorem d_LH_act_1007 : decode m_LH_act.2.1 1007 = .ok (.iconst 0, 1) := by decide +kernel
theorem d_LH_act_1008 : decode m_LH_act.2.1 1008 = .ok (.iconst 0, 1) := by decide +kernel
theorem d_LH_act_1009 : decode m_LH_act.2.1 1009 = .ok (.invokestatic 171, 3) := by decide +kernel
theorem d_LH_act_1012 : decode m_LH_act.2.1 1012 = .ok (.goto 17, 3) := by decide +kernel
theorem d_LH_act_1015 : decode m_LH_act.2.1 1015 = .ok (.aload_n 0, 1) := by decide +kernel
theorem d_LH_act_1016 : decode m_LH_act.2.1 1016 = .ok (.bipush 9, 2) := by decide +kernel
theorem d_LH_act_1018 : decode m_LH_act.2.1 1018 = .ok (.iload 7, 2) := by decide +kernel
theorem d_LH_act_1020 : decode m_LH_act.2.1 1020 = .ok (.iload 8, 2) := by decide +kernel
theorem d_LH_act_1022 : decode m_LH_act.2.1 1022 = .ok (.iload 5, 2) := by decide +kernel
theorem d_LH_act_1024 : decode m_LH_act.2.1 1024 = .ok (.iconst 0, 1) := by decide +kernel
theorem d_LH_act_1025 : decode m_LH_act.2.1 1025 = .ok (.iconst 0, 1) := by decide +kernel
theorem d_LH_act_1026 : decode m_LH_act.2.1 1026 = .ok (.invokestatic 171, 3) := by decide +kernel
theorem d_LH_act_1029 : decode m_LH_act.2.1 1029 = .ok (.ireturn, 1) := by decide +kernel
theorem d_LH_act_1030 : decode m_LH_act.2.1 1030 = .ok (.iload_n 3, 1) := by decide +kernel
theorem d_LH_act_1031 : decode m_LH_act.2.1 1031 = .ok (.bipush 49, 2) := by decide +kernel
theorem d_LH_act_1033 : decode m_LH_act.2.1 1033 = .ok (.if_icmp .ge 31, 3) := by decide +kernel
theorem d_LH_act_1036 : decode m_LH_act.2.1 1036 = .ok (.aload_n 0, 1) := by decide +kernel
theorem d_LH_act_1037 : decode m_LH_act.2.1 1037 = .ok (.bipush 11, 2) := by decide +kernel
theorem d_LH_act_1039 : decode m_LH_act.2.1 1039 = .ok (.iload_n 1, 1) := by decide +kernel
theorem d_LH_act_1040 : decode m_LH_act.2.1 1040 = .ok (.bipush 7, 2) := by decide +kernel
theorem d_LH_act_1042 : decode m_LH_act.2.1 1042 = .ok (.ishr, 1) := by decide +kernel
theorem d_LH_act_1043 : decode m_LH_act.2.1 1043 = .ok (.iload_n 2, 1) := by decide +kernel
theorem d_LH_act_1044 : decode m_LH_act.2.1 1044 = .ok (.ifCond .eq 8, 3) := by decide +kernel
theorem d_LH_act_1047 : decode m_LH_act.2.1 1047 = .ok (.bipush 6, 2) := by decide +kernel
theorem d_LH_act_1049 : decode m_LH_act.2.1 1049 = .ok (.goto 4, 3) := by decide +kernel
theorem d_LH_act_1052 : decode m_LH_act.2.1 1052 = .ok (.iconst 3, 1) := by decide +kernel
theorem d_LH_act_1053 : decode m_LH_act.2.1 1053 = .ok (.invokestatic 156, 3) := by decide +kernel
theorem d_LH_act_1056 : decode m_LH_act.2.1 1056 = .ok (.iconst 0, 1) := by decide +kernel
theorem d_LH_act_1057 : decode m_LH_act.2.1 1057 = .ok (.iconst 0, 1) := by decide +kernel
theorem d_LH_act_1058 : decode m_LH_act.2.1 1058 = .ok (.invokestatic 159, 3) := by decide +kernel
theorem d_LH_act_1061 : decode m_LH_act.2.1 1061 = .ok (.goto 12, 3) := by decide +kernel
theorem d_LH_act_1064 : decode m_LH_act.2.1 1064 = .ok (.aload_n 0, 1) := by decide +kernel
theorem d_LH_act_1065 : decode m_LH_act.2.1 1065 = .ok (.bipush 10, 2) := by decide +kernel
theorem d_LH_act_1067 : decode m_LH_act.2.1 1067 = .ok (.iconst 0, 1) := by decide +kernel
theorem d_LH_act_1068 : decode m_LH_act.2.1 1068 = .ok (.iconst 0, 1) := by decide +kernel
theorem d_LH_act_1069 : decode m_LH_act.2.1 1069 = .ok (.iconst 0, 1) := by decide +kernel
theorem d_LH_act_1070 : decode m_LH_act.2.1 1070 = .ok (.invokestatic 159, 3) := by decide +kernel
theorem d_LH_act_1073 : decode m_LH_act.2.1 1073 = .ok (.ireturn, 1) := by decide +kernel
theorem d_LH_areAlike_0 : decode m_LH_areAlike.2.1 0 = .ok (.aload_n 0, 1) := by decide +kernel
theorem d_LH_areAlike_1 : decode m_LH_areAlike.2.1 1 = .ok (.invokevirtual 175, 3) := by decide +kernel
theorem d_LH_areAlike_4 : decode m_LH_areAlike.2.1 4 = .ok (.ifCond .ne 69, 3) := by decide +kernel
theorem d_LH_areAlike_7 : decode m_LH_areAlike.2.1 7 = .ok (.aload_n 1, 1) := by decide +kernel
theorem d_LH_areAlike_8 : decode m_LH_areAlike.2.1 8 = .ok (.invokevirtual 175, 3) := by decide +kernel
theorem d_LH_areAlike_11 : decode m_LH_areAlike.2.1 11 = .ok (.ifCond .ne 62, 3) := by decide +kernel
theorem d_LH_areAlike_14 : decode m_LH_areAlike.2.1 14 = .ok (.aload_n 0, 1) := by decide +kernel
theorem d_LH_areAlike_15 : decode m_LH_areAlike.2.1 15 = .ok (.invokevirtual 178, 3) := by decide +kernel
theorem d_LH_areAlike_18 : decode m_LH_areAlike.2.1 18 = .ok (.aload_n 1, 1) := by decide +kernel
theorem d_LH_areAlike_19 : decode m_LH_areAlike.2.1 19 = .ok (.invokevirtual 178, 3) := by decide +kernel
theorem d_LH_areAlike_22 : decode m_LH_areAlike.2.1 22 = .ok (.if_icmp .ne 51, 3) := by decide +kernel
theorem d_LH_areAlike_25 : decode m_LH_areAlike.2.1 25 = .ok (.aload_n 0, 1) := by decide +kernel
theorem d_LH_areAlike_26 : decode m_LH_areAlike.2.1 26 = .ok (.invokevirtual 181, 3) := by decide +kernel
theorem d_LH_areAlike_29 : decode m_LH_areAlike.2.1 29 = .ok (.aload_n 1, 1) := by decide +kernel
theorem d_LH_areAlike_30 : decode m_LH_areAlike.2.1 30 = .ok (.invokevirtual 181, 3) := by decide +kernel
theorem d_LH_areAlike_33 : decode m_LH_areAlike.2.1 33 = .ok (.if_icmp .ne 40, 3) := by decide +kernel
theorem d_LH_areAlike_36 : decode m_LH_areAlike.2.1 36 = .ok (.aload_n 0, 1) := by decide +kernel
theorem d_LH_areAlike_37 : decode m_LH_areAlike.2.1 37 = .ok (.invokevirtual 184, 3) := by decide +kernel
theorem d_LH_areAlike_40 : decode m_LH_areAlike.2.1 40 = .ok (.aload_n 1, 1) := by decide +kernel
theorem d_LH_areAlike_41 : decode m_LH_areAlike.2.1 41 = .ok (.invokevirtual 184, 3) := by decide +kernel
theorem d_LH_areAlike_44 : decode m_LH_areAlike.2.1 44 = .ok (.if_icmp .ne 29, 3) := by decide +kernel
theorem d_LH_areAlike_47 : decode m_LH_areAlike.2.1 47 = .ok (.aload_n 0, 1) := by decide +kernel
theorem d_LH_areAlike_48 : decode m_LH_areAlike.2.1 48 = .ok (.invokevirtual 187, 3) := by decide +kernel
theorem d_LH_areAlike_51 : decode m_LH_areAlike.2.1 51 = .ok (.aload_n 1, 1) := by decide +kernel
theorem d_LH_areAlike_52 : decode m_LH_areAlike.2.1 52 = .ok (.invokevirtual 187, 3) := by decide +kernel
theorem d_LH_areAlike_55 : decode m_LH_areAlike.2.1 55 = .ok (.if_icmp .ne 18, 3) := by decide +kernel
theorem d_LH_areAlike_58 : decode m_LH_areAlike.2.1 58 = .ok (.aload_n 0, 1) := by decide +kernel
theorem d_LH_areAlike_59 : decode m_LH_areAlike.2.1 59 = .ok (.invokevirtual 190, 3) := by decide +kernel
theorem d_LH_areAlike_62 : decode m_LH_areAlike.2.1 62 = .ok (.aload_n 1, 1) := by decide +kernel
theorem d_LH_areAlike_63 : decode m_LH_areAlike.2.1 63 = .ok (.invokevirtual 190, 3) := by decide +kernel
theorem d_LH_areAlike_66 : decode m_LH_areAlike.2.1 66 = .ok (.if_icmp .ne 7, 3) := by decide +kernel
theorem d_LH_areAlike_69 : decode m_LH_areAlike.2.1 69 = .ok (.iconst 1, 1) := by decide +kernel
theorem d_LH_areAlike_70 : decode m_LH_areAlike.2.1 70 = .ok (.goto 4, 3) := by decide +kernel
theorem d_LH_areAlike_73 : decode m_LH_areAlike.2.1 73 = .ok (.iconst 0, 1) := by decide +kernel
theorem d_LH_areAlike_74 : decode m_LH_areAlike.2.1 74 = .ok (.istore_n 2, 1) := by decide +kernel
theorem d_LH_areAlike_75 : decode m_LH_areAlike.2.1 75 = .ok (.iconst 0, 1) := by decide +kernel
theorem d_LH_areAlike_76 : decode m_LH_areAlike.2.1 76 = .ok (.istore_n 3, 1) := by decide +kernel
theorem d_LH_areAlike_77 : decode m_LH_areAlike.2.1 77 = .ok (.iload_n 3, 1) := by decide +kernel
theorem d_LH_areAlike_78 : decode m_LH_areAlike.2.1 78 = .ok (.iconst 4, 1) := by decide +kernel
theorem d_LH_areAlike_79 : decode m_LH_areAlike.2.1 79 = .ok (.if_icmp .ge 135, 3) := by decide +kernel
theorem d_LH_areAlike_82 : decode m_LH_areAlike.2.1 82 = .ok (.iload_n 2, 1) := by decide +kernel
theorem d_LH_areAlike_83 : decode m_LH_areAlike.2.1 83 = .ok (.ifCond .eq 131, 3) := by decide +kernel
theorem d_LH_areAlike_86 : decode m_LH_areAlike.2.1 86 = .ok (.aload_n 0, 1) := by decide +kernel
theorem d_LH_areAlike_87 : decode m_LH_areAlike.2.1 87 = .ok (.iload_n 3, 1) := by decide +kernel
theorem d_LH_areAlike_88 : decode m_LH_areAlike.2.1 88 = .ok (.invokestatic 193, 3) := by decide +kernel
theorem d_LH_areAlike_91 : decode m_LH_areAlike.2.1 91 = .ok (.aload_n 1, 1) := by decide +kernel
theorem d_LH_areAlike_92 : decode m_LH_areAlike.2.1 92 = .ok (.iload_n 3, 1) := by decide +kernel
theorem d_LH_areAlike_93 : decode m_LH_areAlike.2.1 93 = .ok (.invokestatic 193, 3) := by decide +kernel
theorem d_LH_areAlike_96 : decode m_LH_areAlike.2.1 96 = .ok (.if_icmp .ne 7, 3) := by decide +kernel
theorem d_LH_areAlike_99 : decode m_LH_areAlike.2.1 99 = .ok (.iconst 1, 1) := by decide +kernel
theorem d_LH_areAlike_100 : decode m_LH_areAlike.2.1 100 = .ok (.goto 4, 3) := by decide +kernel
theorem d_LH_areAlike_103 : decode m_LH_areAlike.2.1 103 = .ok (.iconst 0, 1) := by decide +kernel
theorem d_LH_areAlike_104 : decode m_LH_areAlike.2.1 104 = .ok (.istore_n 2, 1) := by decide +kernel
theorem d_LH_areAlike_105 : decode m_LH_areAlike.2.1 105 = .ok (.iconst 0, 1) := by decide +kernel
theorem d_LH_areAlike_106 : decode m_LH_areAlike.2.1 106 = .ok (.istore 4, 2) := by decide +kernel
theorem d_LH_areAlike_108 : decode m_LH_areAlike.2.1 108 = .ok (.iload 4, 2) := by decide +kernel
theorem d_LH_areAlike_110 : decode m_LH_areAlike.2.1 110 = .ok (.aload_n 0, 1) := by decide +kernel
theorem d_LH_areAlike_111 : decode m_LH_areAlike.2.1 111 = .ok (.iload_n 3, 1) := by decide +kernel
theorem d_LH_areAlike_112 : decode m_LH_areAlike.2.1 112 = .ok (.invokestatic 193, 3) := by decide +kernel
theorem d_LH_areAlike_115 : decode m_LH_areAlike.2.1 115 = .ok (.if_icmp .ge 93, 3) := by decide +kernel
theorem d_LH_areAlike_118 : decode m_LH_areAlike.2.1 118 = .ok (.iload_n 2, 1) := by decide +kernel
theorem d_LH_areAlike_119 : decode m_LH_areAlike.2.1 119 = .ok (.ifCond .eq 89, 3) := by decide +kernel
theorem d_LH_areAlike_122 : decode m_LH_areAlike.2.1 122 = .ok (.aload_n 0, 1) := by decide +kernel
theorem d_LH_areAlike_123 : decode m_LH_areAlike.2.1 123 = .ok (.iload_n 3, 1) := by decide +kernel
theorem d_LH_areAlike_124 : decode m_LH_areAlike.2.1 124 = .ok (.iload 4, 2) := by decide +kernel
theorem d_LH_areAlike_126 : decode m_LH_areAlike.2.1 126 = .ok (.invokevirtual 196, 3) := by decide +kernel
theorem d_LH_areAlike_129 : decode m_LH_areAlike.2.1 129 = .ok (.aload_n 1, 1) := by decide +kernel
theorem d_LH_areAlike_130 : decode m_LH_areAlike.2.1 130 = .ok (.iload_n 3, 1) := by decide +kernel
theorem d_LH_areAlike_131 : decode m_LH_areAlike.2.1 131 = .ok (.iload 4, 2) := by decide +kernel
theorem d_LH_areAlike_133 : decode m_LH_areAlike.2.1 133 = .ok (.invokevirtual 196, 3) := by decide +kernel
theorem d_LH_areAlike_136 : decode m_LH_areAlike.2.1 136 = .ok (.if_icmp .ne 7, 3) := by decide +kernel
theorem d_LH_areAlike_139 : decode m_LH_areAlike.2.1 139 = .ok (.iconst 1, 1) := by decide +kernel
theorem d_LH_areAlike_140 : decode m_LH_areAlike.2.1 140 = .ok (.goto 4, 3) := by decide +kernel
theorem d_LH_areAlike_143 : decode m_LH_areAlike.2.1 143 = .ok (.iconst 0, 1) := by decide +kernel
theorem d_LH_areAlike_144 : decode m_LH_areAlike.2.1 144 = .ok (.istore_n 2, 1) := by decide +kernel
theorem d_LH_areAlike_145 : decode m_LH_areAlike.2.1 145 = .ok (.iconst 0, 1) := by decide +kernel
theorem d_LH_areAlike_146 : decode m_LH_areAlike.2.1 146 = .ok (.istore 5, 2) := by decide +kernel
theorem d_LH_areAlike_148 : decode m_LH_areAlike.2.1 148 = .ok (.iload 5, 2) := by decide +kernel
theorem d_LH_areAlike_150 : decode m_LH_areAlike.2.1 150 = .ok (.bipush 6, 2) := by decide +kernel
theorem d_LH_areAlike_152 : decode m_LH_areAlike.2.1 152 = .ok (.if_icmp .ge 50, 3) := by decide +kernel
theorem d_LH_areAlike_155 : decode m_LH_areAlike.2.1 155 = .ok (.iload_n 2, 1) := by decide +kernel
theorem d_LH_areAlike_156 : decode m_LH_areAlike.2.1 156 = .ok (.ifCond .eq 46, 3) := by decide +kernel
theorem d_LH_areAlike_159 : decode m_LH_areAlike.2.1 159 = .ok (.aload_n 0, 1) := by decide +kernel
theorem d_LH_areAlike_160 : decode m_LH_areAlike.2.1 160 = .ok (.bipush 10, 2) := by decide +kernel
theorem d_LH_areAlike_162 : decode m_LH_areAlike.2.1 162 = .ok (.iload_n 3, 1) := by decide +kernel
theorem d_LH_areAlike_163 : decode m_LH_areAlike.2.1 163 = .ok (.iload 4, 2) := by decide +kernel
theorem d_LH_areAlike_165 : decode m_LH_areAlike.2.1 165 = .ok (.iload 5, 2) := by decide +kernel
theorem d_LH_areAlike_167 : decode m_LH_areAlike.2.1 167 = .ok (.iconst 0, 1) := by decide +kernel
theorem d_LH_areAlike_168 : decode m_LH_areAlike.2.1 168 = .ok (.iconst 0, 1) := by decide +kernel
theorem d_LH_areAlike_169 : decode m_LH_areAlike.2.1 169 = .ok (.iconst 0, 1) := by decide +kernel
theorem d_LH_areAlike_170 : decode m_LH_areAlike.2.1 170 = .ok (.invokestatic 163, 3) := by decide +kernel
theorem d_LH_areAlike_173 : decode m_LH_areAlike.2.1 173 = .ok (.aload_n 1, 1) := by decide +kernel
theorem d_LH_areAlike_174 : decode m_LH_areAlike.2.1 174 = .ok (.bipush 10, 2) := by decide +kernel
theorem d_LH_areAlike_176 : decode m_LH_areAlike.2.1 176 = .ok (.iload_n 3, 1) := by decide +kernel
theorem d_LH_areAlike_177 : decode m_LH_areAlike.2.1 177 = .ok (.iload 4, 2) := by decide +kernel
theorem d_LH_areAlike_179 : decode m_LH_areAlike.2.1 179 = .ok (.iload 5, 2) := by decide +kernel
theorem d_LH_areAlike_181 : decode m_LH_areAlike.2.1 181 = .ok (.iconst 0, 1) := by decide +kernel
theorem d_LH_areAlike_182 : decode m_LH_areAlike.2.1 182 = .ok (.iconst 0, 1) := by decide +kernel
theorem d_LH_areAlike_183 : decode m_LH_areAlike.2.1 183 = .ok (.iconst 0, 1) := by decide +kernel
theorem d_LH_areAlike_184 : decode m_LH_areAlike.2.1 184 = .ok (.invokestatic 163, 3) := by decide +kernel
theorem d_LH_areAlike_187 : decode m_LH_areAlike.2.1 187 = .ok (.if_icmp .ne 7, 3) := by decide +kernel
theorem d_LH_areAlike_190 : decode m_LH_areAlike.2.1 190 = .ok (.iconst 1, 1) := by decide +kernel
theorem d_LH_areAlike_191 : decode m_LH_areAlike.2.1 191 = .ok (.goto 4, 3) := by decide +kernel
theorem d_LH_areAlike_194 : decode m_LH_areAlike.2.1 194 = .ok (.iconst 0, 1) := by decide +kernel
theorem d_LH_areAlike_195 : decode m_LH_areAlike.2.1 195 = .ok (.istore_n 2, 1) := by decide +kernel
theorem d_LH_areAlike_196 : decode m_LH_areAlike.2.1 196 = .ok (.iinc 5 1, 3) := by decide +kernel
theorem d_LH_areAlike_199 : decode m_LH_areAlike.2.1 199 = .ok (.goto (-51), 3) := by decide +kernel
theorem d_LH_areAlike_202 : decode m_LH_areAlike.2.1 202 = .ok (.iinc 4 1, 3) := by decide +kernel
theorem d_LH_areAlike_205 : decode m_LH_areAlike.2.1 205 = .ok (.goto (-97), 3) := by decide +kernel
theorem d_LH_areAlike_208 : decode m_LH_areAlike.2.1 208 = .ok (.iinc 3 1, 3) := by decide +kernel
theorem d_LH_areAlike_211 : decode m_LH_areAlike.2.1 211 = .ok (.goto (-134), 3) := by decide +kernel
theorem d_LH_areAlike_214 : decode m_LH_areAlike.2.1 214 = .ok (.iconst 0, 1) := by decide +kernel
theorem d_LH_areAlike_215 : decode m_LH_areAlike.2.1 215 = .ok (.istore_n 3, 1) := by decide +kernel
theorem d_LH_areAlike_216 : decode m_LH_areAlike.2.1 216 = .ok (.iload_n 3, 1) := by decide +kernel
theorem d_LH_areAlike_217 : decode m_LH_areAlike.2.1 217 = .ok (.bipush 8, 2) := by decide +kernel
theorem d_LH_areAlike_219 : decode m_LH_areAlike.2.1 219 = .ok (.if_icmp .ge 68, 3) := by decide +kernel
theorem d_LH_areAlike_222 : decode m_LH_areAlike.2.1 222 = .ok (.iload_n 2, 1) := by decide +kernel
theorem d_LH_areAlike_223 : decode m_LH_areAlike.2.1 223 = .ok (.ifCond .eq 64, 3) := by decide +kernel
theorem d_LH_areAlike_226 : decode m_LH_areAlike.2.1 226 = .ok (.aload_n 0, 1) := by decide +kernel
theorem d_LH_areAlike_227 : decode m_LH_areAlike.2.1 227 = .ok (.iconst 0, 1) := by decide +kernel
theorem d_LH_areAlike_228 : decode m_LH_areAlike.2.1 228 = .ok (.iload_n 3, 1) := by decide +kernel
theorem d_LH_areAlike_229 : decode m_LH_areAlike.2.1 229 = .ok (.invokestatic 199, 3) := by decide +kernel
theorem d_LH_areAlike_232 : decode m_LH_areAlike.2.1 232 = .ok (.aload_n 1, 1) := by decide +kernel
theorem d_LH_areAlike_233 : decode m_LH_areAlike.2.1 233 = .ok (.iconst 0, 1) := by decide +kernel
theorem d_LH_areAlike_234 : decode m_LH_areAlike.2.1 234 = .ok (.iload_n 3, 1) := by decide +kernel
theorem d_LH_areAlike_235 : decode m_LH_areAlike.2.1 235 = .ok (.invokestatic 199, 3) := by decide +kernel
theorem d_LH_areAlike_238 : decode m_LH_areAlike.2.1 238 = .ok (.if_icmp .ne 41, 3) := by decide +kernel
theorem d_LH_areAlike_241 : decode m_LH_areAlike.2.1 241 = .ok (.aload_n 0, 1) := by decide +kernel
theorem d_LH_areAlike_242 : decode m_LH_areAlike.2.1 242 = .ok (.iconst 1, 1) := by decide +kernel
theorem d_LH_areAlike_243 : decode m_LH_areAlike.2.1 243 = .ok (.iload_n 3, 1) := by decide +kernel
theorem d_LH_areAlike_244 : decode m_LH_areAlike.2.1 244 = .ok (.invokestatic 199, 3) := by decide +kernel
theorem d_LH_areAlike_247 : decode m_LH_areAlike.2.1 247 = .ok (.aload_n 1, 1) := by decide +kernel
theorem d_LH_areAlike_248 : decode m_LH_areAlike.2.1 248 = .ok (.iconst 1, 1) := by decide +kernel
theorem d_LH_areAlike_249 : decode m_LH_areAlike.2.1 249 = .ok (.iload_n 3, 1) := by decide +kernel
theorem d_LH_areAlike_250 : decode m_LH_areAlike.2.1 250 = .ok (.invokestatic 199, 3) := by decide +kernel
theorem d_LH_areAlike_253 : decode m_LH_areAlike.2.1 253 = .ok (.if_icmp .ne 26, 3) := by decide +kernel
theorem d_LH_areAlike_256 : decode m_LH_areAlike.2.1 256 = .ok (.aload_n 0, 1) := by decide +kernel
theorem d_LH_areAlike_257 : decode m_LH_areAlike.2.1 257 = .ok (.iconst 4, 1) := by decide +kernel
theorem d_LH_areAlike_258 : decode m_LH_areAlike.2.1 258 = .ok (.iload_n 3, 1) := by decide +kernel
theorem d_LH_areAlike_259 : decode m_LH_areAlike.2.1 259 = .ok (.iconst 0, 1) := by decide +kernel
theorem d_LH_areAlike_260 : decode m_LH_areAlike.2.1 260 = .ok (.iconst 0, 1) := by decide +kernel
theorem d_LH_areAlike_261 : decode m_LH_areAlike.2.1 261 = .ok (.invokestatic 159, 3) := by decide +kernel
theorem d_LH_areAlike_264 : decode m_LH_areAlike.2.1 264 = .ok (.aload_n 1, 1) := by decide +kernel
theorem d_LH_areAlike_265 : decode m_LH_areAlike.2.1 265 = .ok (.iconst 4, 1) := by decide +kernel
theorem d_LH_areAlike_266 : decode m_LH_areAlike.2.1 266 = .ok (.iload_n 3, 1) := by decide +kernel
theorem d_LH_areAlike_267 : decode m_LH_areAlike.2.1 267 = .ok (.iconst 0, 1) := by decide +kernel
theorem d_LH_areAlike_268 : decode m_LH_areAlike.2.1 268 = .ok (.iconst 0, 1) := by decide +kernel
theorem d_LH_areAlike_269 : decode m_LH_areAlike.2.1 269 = .ok (.invokestatic 159, 3) := by decide +kernel
theorem d_LH_areAlike_272 : decode m_LH_areAlike.2.1 272 = .ok (.if_icmp .ne 7, 3) := by decide +kernel
theorem d_LH_areAlike_275 : decode m_LH_areAlike.2.1 275 = .ok (.iconst 1, 1) := by decide +kernel
theorem d_LH_areAlike_276 : decode m_LH_areAlike.2.1 276 = .ok (.goto 4, 3) := by decide +kernel
theorem d_LH_areAlike_279 : decode m_LH_areAlike.2.1 279 = .ok (.iconst 0, 1) := by decide +kernel
theorem d_LH_areAlike_280 : decode m_LH_areAlike.2.1 280 = .ok (.istore_n 2, 1) := by decide +kernel
theorem d_LH_areAlike_281 : decode m_LH_areAlike.2.1 281 = .ok (.iinc 3 1, 3) := by decide +kernel
theorem d_LH_areAlike_284 : decode m_LH_areAlike.2.1 284 = .ok (.goto (-68), 3) := by decide +kernel
theorem d_LH_areAlike_287 : decode m_LH_areAlike.2.1 287 = .ok (.iload_n 2, 1) := by decide +kernel
theorem d_LH_areAlike_288 : decode m_LH_areAlike.2.1 288 = .ok (.ireturn, 1) := by decide +kernel
theorem d_LH_isOrderSo_0 : decode m_LH_isOrderSo.2.1 0 = .ok (.iconst 0, 1) := by decide +kernel
theorem d_LH_isOrderSo_1 : decode m_LH_isOrderSo.2.1 1 = .ok (.istore_n 1, 1) := by decide +kernel
theorem d_LH_isOrderSo_2 : decode m_LH_isOrderSo.2.1 2 = .ok (.iconst 0, 1) := by decide +kernel
theorem d_LH_isOrderSo_3 : decode m_LH_isOrderSo.2.1 3 = .ok (.istore_n 2, 1) := by decide +kernel
theorem d_LH_isOrderSo_4 : decode m_LH_isOrderSo.2.1 4 = .ok (.aload_n 0, 1) := by decide +kernel
theorem d_LH_isOrderSo_5 : decode m_LH_isOrderSo.2.1 5 = .ok (.iconst 4, 1) := by decide +kernel
theorem d_LH_isOrderSo_6 : decode m_LH_isOrderSo.2.1 6 = .ok (.iconst 0, 1) := by decide +kernel
theorem d_LH_isOrderSo_7 : decode m_LH_isOrderSo.2.1 7 = .ok (.iconst 0, 1) := by decide +kernel
theorem d_LH_isOrderSo_8 : decode m_LH_isOrderSo.2.1 8 = .ok (.iconst 0, 1) := by decide +kernel
theorem d_LH_isOrderSo_9 : decode m_LH_isOrderSo.2.1 9 = .ok (.invokestatic 159, 3) := by decide +kernel
theorem d_LH_isOrderSo_12 : decode m_LH_isOrderSo.2.1 12 = .ok (.istore_n 3, 1) := by decide +kernel
theorem d_LH_isOrderSo_13 : decode m_LH_isOrderSo.2.1 13 = .ok (.iconst 1, 1) := by decide +kernel
theorem d_LH_isOrderSo_14 : decode m_LH_isOrderSo.2.1 14 = .ok (.istore 4, 2) := by decide +kernel
theorem d_LH_isOrderSo_16 : decode m_LH_isOrderSo.2.1 16 = .ok (.iload_n 3, 1) := by decide +kernel
theorem d_LH_isOrderSo_17 : decode m_LH_isOrderSo.2.1 17 = .ok (.ifCond .lt 77, 3) := by decide +kernel
theorem d_LH_isOrderSo_20 : decode m_LH_isOrderSo.2.1 20 = .ok (.iload 4, 2) := by decide +kernel
theorem d_LH_isOrderSo_22 : decode m_LH_isOrderSo.2.1 22 = .ok (.ifCond .eq 72, 3) := by decide +kernel
theorem d_LH_isOrderSo_25 : decode m_LH_isOrderSo.2.1 25 = .ok (.bipush 6, 2) := by decide +kernel
theorem d_LH_isOrderSo_27 : decode m_LH_isOrderSo.2.1 27 = .ok (.iload_n 3, 1) := by decide +kernel
theorem d_LH_isOrderSo_28 : decode m_LH_isOrderSo.2.1 28 = .ok (.bipush 10, 2) := by decide +kernel
theorem d_LH_isOrderSo_30 : decode m_LH_isOrderSo.2.1 30 = .ok (.idiv, 1) := by decide +kernel
theorem d_LH_isOrderSo_31 : decode m_LH_isOrderSo.2.1 31 = .ok (.imul, 1) := by decide +kernel
theorem d_LH_isOrderSo_32 : decode m_LH_isOrderSo.2.1 32 = .ok (.iload_n 3, 1) := by decide +kernel
theorem d_LH_isOrderSo_33 : decode m_LH_isOrderSo.2.1 33 = .ok (.bipush 10, 2) := by decide +kernel
theorem d_LH_isOrderSo_35 : decode m_LH_isOrderSo.2.1 35 = .ok (.irem, 1) := by decide +kernel
theorem d_LH_isOrderSo_36 : decode m_LH_isOrderSo.2.1 36 = .ok (.iadd, 1) := by decide +kernel
theorem d_LH_isOrderSo_37 : decode m_LH_isOrderSo.2.1 37 = .ok (.istore 5, 2) := by decide +kernel
theorem d_LH_isOrderSo_39 : decode m_LH_isOrderSo.2.1 39 = .ok (.iload_n 3, 1) := by decide +kernel
theorem d_LH_isOrderSo_40 : decode m_LH_isOrderSo.2.1 40 = .ok (.bipush 10, 2) := by decide +kernel
theorem d_LH_isOrderSo_42 : decode m_LH_isOrderSo.2.1 42 = .ok (.irem, 1) := by decide +kernel
theorem d_LH_isOrderSo_43 : decode m_LH_isOrderSo.2.1 43 = .ok (.bipush 6, 2) := by decide +kernel
theorem d_LH_isOrderSo_45 : decode m_LH_isOrderSo.2.1 45 = .ok (.if_icmp .ge 24, 3) := by decide +kernel
theorem d_LH_isOrderSo_48 : decode m_LH_isOrderSo.2.1 48 = .ok (.iload_n 3, 1) := by decide +kernel
theorem d_LH_isOrderSo_49 : decode m_LH_isOrderSo.2.1 49 = .ok (.bipush 10, 2) := by decide +kernel
theorem d_LH_isOrderSo_51 : decode m_LH_isOrderSo.2.1 51 = .ok (.idiv, 1) := by decide +kernel
theorem d_LH_isOrderSo_52 : decode m_LH_isOrderSo.2.1 52 = .ok (.iconst 4, 1) := by decide +kernel
theorem d_LH_isOrderSo_53 : decode m_LH_isOrderSo.2.1 53 = .ok (.if_icmp .ge 16, 3) := by decide +kernel
theorem d_LH_isOrderSo_56 : decode m_LH_isOrderSo.2.1 56 = .ok (.iload_n 1, 1) := by decide +kernel
theorem d_LH_isOrderSo_57 : decode m_LH_isOrderSo.2.1 57 = .ok (.iload 5, 2) := by decide +kernel
theorem d_LH_isOrderSo_59 : decode m_LH_isOrderSo.2.1 59 = .ok (.ishr, 1) := by decide +kernel
theorem d_LH_isOrderSo_60 : decode m_LH_isOrderSo.2.1 60 = .ok (.iconst 1, 1) := by decide +kernel
theorem d_LH_isOrderSo_61 : decode m_LH_isOrderSo.2.1 61 = .ok (.iand, 1) := by decide +kernel
theorem d_LH_isOrderSo_62 : decode m_LH_isOrderSo.2.1 62 = .ok (.ifCond .ne 7, 3) := by decide +kernel
theorem d_LH_isOrderSo_65 : decode m_LH_isOrderSo.2.1 65 = .ok (.iconst 1, 1) := by decide +kernel
theorem d_LH_isOrderSo_66 : decode m_LH_isOrderSo.2.1 66 = .ok (.goto 4, 3) := by decide +kernel
theorem d_LH_isOrderSo_69 : decode m_LH_isOrderSo.2.1 69 = .ok (.iconst 0, 1) := by decide +kernel
theorem d_LH_isOrderSo_70 : decode m_LH_isOrderSo.2.1 70 = .ok (.istore 4, 2) := by decide +kernel
theorem d_LH_isOrderSo_72 : decode m_LH_isOrderSo.2.1 72 = .ok (.iload_n 1, 1) := by decide +kernel
theorem d_LH_isOrderSo_73 : decode m_LH_isOrderSo.2.1 73 = .ok (.iconst 1, 1) := by decide +kernel
theorem d_LH_isOrderSo_74 : decode m_LH_isOrderSo.2.1 74 = .ok (.iload 5, 2) := by decide +kernel
theorem d_LH_isOrderSo_76 : decode m_LH_isOrderSo.2.1 76 = .ok (.ishl, 1) := by decide +kernel
theorem d_LH_isOrderSo_77 : decode m_LH_isOrderSo.2.1 77 = .ok (.ior, 1) := by decide +kernel
theorem d_LH_isOrderSo_78 : decode m_LH_isOrderSo.2.1 78 = .ok (.istore_n 1, 1) := by decide +kernel
theorem d_LH_isOrderSo_79 : decode m_LH_isOrderSo.2.1 79 = .ok (.iinc 2 1, 3) := by decide +kernel
theorem d_LH_isOrderSo_82 : decode m_LH_isOrderSo.2.1 82 = .ok (.aload_n 0, 1) := by decide +kernel
theorem d_LH_isOrderSo_83 : decode m_LH_isOrderSo.2.1 83 = .ok (.iconst 4, 1) := by decide +kernel
theorem d_LH_isOrderSo_84 : decode m_LH_isOrderSo.2.1 84 = .ok (.iload_n 2, 1) := by decide +kernel
theorem d_LH_isOrderSo_85 : decode m_LH_isOrderSo.2.1 85 = .ok (.iconst 0, 1) := by decide +kernel
theorem d_LH_isOrderSo_86 : decode m_LH_isOrderSo.2.1 86 = .ok (.iconst 0, 1) := by decide +kernel
theorem d_LH_isOrderSo_87 : decode m_LH_isOrderSo.2.1 87 = .ok (.invokestatic 159, 3) := by decide +kernel
theorem d_LH_isOrderSo_90 : decode m_LH_isOrderSo.2.1 90 = .ok (.istore_n 3, 1) := by decide +kernel
theorem d_LH_isOrderSo_91 : decode m_LH_isOrderSo.2.1 91 = .ok (.goto (-75), 3) := by decide +kernel
theorem d_LH_isOrderSo_94 : decode m_LH_isOrderSo.2.1 94 = .ok (.iconst 0, 1) := by decide +kernel
theorem d_LH_isOrderSo_95 : decode m_LH_isOrderSo.2.1 95 = .ok (.istore 5, 2) := by decide +kernel
theorem d_LH_isOrderSo_97 : decode m_LH_isOrderSo.2.1 97 = .ok (.iload 5, 2) := by decide +kernel
theorem d_LH_isOrderSo_99 : decode m_LH_isOrderSo.2.1 99 = .ok (.iconst 4, 1) := by decide +kernel
theorem d_LH_isOrderSo_100 : decode m_LH_isOrderSo.2.1 100 = .ok (.if_icmp .ge 114, 3) := by decide +kernel
theorem d_LH_isOrderSo_103 : decode m_LH_isOrderSo.2.1 103 = .ok (.iload 4, 2) := by decide +kernel
theorem d_LH_isOrderSo_105 : decode m_LH_isOrderSo.2.1 105 = .ok (.ifCond .eq 109, 3) := by decide +kernel
theorem d_LH_isOrderSo_108 : decode m_LH_isOrderSo.2.1 108 = .ok (.iconst 0, 1) := by decide +kernel
theorem d_LH_isOrderSo_109 : decode m_LH_isOrderSo.2.1 109 = .ok (.istore 6, 2) := by decide +kernel
theorem d_LH_isOrderSo_111 : decode m_LH_isOrderSo.2.1 111 = .ok (.iload 6, 2) := by decide +kernel
theorem d_LH_isOrderSo_113 : decode m_LH_isOrderSo.2.1 113 = .ok (.bipush 6, 2) := by decide +kernel
theorem d_LH_isOrderSo_115 : decode m_LH_isOrderSo.2.1 115 = .ok (.aload_n 0, 1) := by decide +kernel
theorem d_LH_isOrderSo_116 : decode m_LH_isOrderSo.2.1 116 = .ok (.iload 5, 2) := by decide +kernel
theorem d_LH_isOrderSo_118 : decode m_LH_isOrderSo.2.1 118 = .ok (.invokestatic 193, 3) := by decide +kernel
theorem d_LH_isOrderSo_121 : decode m_LH_isOrderSo.2.1 121 = .ok (.imul, 1) := by decide +kernel
theorem d_LH_isOrderSo_122 : decode m_LH_isOrderSo.2.1 122 = .ok (.if_icmp .ge 86, 3) := by decide +kernel
theorem d_LH_isOrderSo_125 : decode m_LH_isOrderSo.2.1 125 = .ok (.iload 4, 2) := by decide +kernel
theorem d_LH_isOrderSo_127 : decode m_LH_isOrderSo.2.1 127 = .ok (.ifCond .eq 81, 3) := by decide +kernel
theorem d_LH_isOrderSo_130 : decode m_LH_isOrderSo.2.1 130 = .ok (.aload_n 0, 1) := by decide +kernel
theorem d_LH_isOrderSo_131 : decode m_LH_isOrderSo.2.1 131 = .ok (.bipush 10, 2) := by decide +kernel
theorem d_LH_isOrderSo_133 : decode m_LH_isOrderSo.2.1 133 = .ok (.iload 5, 2) := by decide +kernel
theorem d_LH_isOrderSo_135 : decode m_LH_isOrderSo.2.1 135 = .ok (.iload 6, 2) := by decide +kernel
theorem d_LH_isOrderSo_137 : decode m_LH_isOrderSo.2.1 137 = .ok (.bipush 6, 2) := by decide +kernel
theorem d_LH_isOrderSo_139 : decode m_LH_isOrderSo.2.1 139 = .ok (.idiv, 1) := by decide +kernel
theorem d_LH_isOrderSo_140 : decode m_LH_isOrderSo.2.1 140 = .ok (.iload 6, 2) := by decide +kernel
theorem d_LH_isOrderSo_142 : decode m_LH_isOrderSo.2.1 142 = .ok (.bipush 6, 2) := by decide +kernel
theorem d_LH_isOrderSo_144 : decode m_LH_isOrderSo.2.1 144 = .ok (.irem, 1) := by decide +kernel
theorem d_LH_isOrderSo_145 : decode m_LH_isOrderSo.2.1 145 = .ok (.iconst 0, 1) := by decide +kernel
theorem d_LH_isOrderSo_146 : decode m_LH_isOrderSo.2.1 146 = .ok (.iconst 0, 1) := by decide +kernel
theorem d_LH_isOrderSo_147 : decode m_LH_isOrderSo.2.1 147 = .ok (.iconst 0, 1) := by decide +kernel
theorem d_LH_isOrderSo_148 : decode m_LH_isOrderSo.2.1 148 = .ok (.invokestatic 163, 3) := by decide +kernel
theorem d_LH_isOrderSo_151 : decode m_LH_isOrderSo.2.1 151 = .ok (.istore 7, 2) := by decide +kernel
theorem d_LH_isOrderSo_153 : decode m_LH_isOrderSo.2.1 153 = .ok (.iload 7, 2) := by decide +kernel
theorem d_LH_isOrderSo_155 : decode m_LH_isOrderSo.2.1 155 = .ok (.ldc 57, 2) := by decide +kernel
theorem d_LH_isOrderSo_157 : decode m_LH_isOrderSo.2.1 157 = .ok (.if_icmp .eq 38, 3) := by decide +kernel
theorem d_LH_isOrderSo_160 : decode m_LH_isOrderSo.2.1 160 = .ok (.aload_n 0, 1) := by decide +kernel
theorem d_LH_isOrderSo_161 : decode m_LH_isOrderSo.2.1 161 = .ok (.iload 5, 2) := by decide +kernel
theorem d_LH_isOrderSo_163 : decode m_LH_isOrderSo.2.1 163 = .ok (.iload 6, 2) := by decide +kernel
theorem d_LH_isOrderSo_165 : decode m_LH_isOrderSo.2.1 165 = .ok (.bipush 6, 2) := by decide +kernel
theorem d_LH_isOrderSo_167 : decode m_LH_isOrderSo.2.1 167 = .ok (.idiv, 1) := by decide +kernel
theorem d_LH_isOrderSo_168 : decode m_LH_isOrderSo.2.1 168 = .ok (.invokevirtual 196, 3) := by decide +kernel
theorem d_LH_isOrderSo_171 : decode m_LH_isOrderSo.2.1 171 = .ok (.ifCond .eq 28, 3) := by decide +kernel
theorem d_LH_isOrderSo_174 : decode m_LH_isOrderSo.2.1 174 = .ok (.iload 7, 2) := by decide +kernel
theorem d_LH_isOrderSo_176 : decode m_LH_isOrderSo.2.1 176 = .ok (.ldc 155, 2) := by decide +kernel
theorem d_LH_isOrderSo_178 : decode m_LH_isOrderSo.2.1 178 = .ok (.if_icmp .eq 17, 3) := by decide +kernel
theorem d_LH_isOrderSo_181 : decode m_LH_isOrderSo.2.1 181 = .ok (.iload 7, 2) := by decide +kernel
theorem d_LH_isOrderSo_183 : decode m_LH_isOrderSo.2.1 183 = .ok (.ldc 202, 2) := by decide +kernel
theorem d_LH_isOrderSo_185 : decode m_LH_isOrderSo.2.1 185 = .ok (.if_icmp .lt 14, 3) := by decide +kernel
theorem d_LH_isOrderSo_188 : decode m_LH_isOrderSo.2.1 188 = .ok (.iload 7, 2) := by decide +kernel
theorem d_LH_isOrderSo_190 : decode m_LH_isOrderSo.2.1 190 = .ok (.ldc 203, 2) := by decide +kernel
theorem d_LH_isOrderSo_192 : decode m_LH_isOrderSo.2.1 192 = .ok (.if_icmp .gt 7, 3) := by decide +kernel
theorem d_LH_isOrderSo_195 : decode m_LH_isOrderSo.2.1 195 = .ok (.iconst 1, 1) := by decide +kernel
theorem d_LH_isOrderSo_196 : decode m_LH_isOrderSo.2.1 196 = .ok (.goto 4, 3) := by decide +kernel
theorem d_LH_isOrderSo_199 : decode m_LH_isOrderSo.2.1 199 = .ok (.iconst 0, 1) := by decide +kernel
theorem d_LH_isOrderSo_200 : decode m_LH_isOrderSo.2.1 200 = .ok (.istore 4, 2) := by decide +kernel
theorem d_LH_isOrderSo_202 : decode m_LH_isOrderSo.2.1 202 = .ok (.iinc 6 1, 3) := by decide +kernel
theorem d_LH_isOrderSo_205 : decode m_LH_isOrderSo.2.1 205 = .ok (.goto (-94), 3) := by decide +kernel
theorem d_LH_isOrderSo_208 : decode m_LH_isOrderSo.2.1 208 = .ok (.iinc 5 1, 3) := by decide +kernel
theorem d_LH_isOrderSo_211 : decode m_LH_isOrderSo.2.1 211 = .ok (.goto (-114), 3) := by decide +kernel
theorem d_LH_isOrderSo_214 : decode m_LH_isOrderSo.2.1 214 = .ok (.iload 4, 2) := by decide +kernel
theorem d_LH_isOrderSo_216 : decode m_LH_isOrderSo.2.1 216 = .ok (.ifCond .eq 13, 3) := by decide +kernel
theorem d_LH_isOrderSo_219 : decode m_LH_isOrderSo.2.1 219 = .ok (.iload_n 2, 1) := by decide +kernel
theorem d_LH_isOrderSo_220 : decode m_LH_isOrderSo.2.1 220 = .ok (.bipush 24, 2) := by decide +kernel
theorem d_LH_isOrderSo_222 : decode m_LH_isOrderSo.2.1 222 = .ok (.if_icmp .gt 7, 3) := by decide +kernel
theorem d_LH_isOrderSo_225 : decode m_LH_isOrderSo.2.1 225 = .ok (.iconst 1, 1) := by decide +kernel
theorem d_LH_isOrderSo_226 : decode m_LH_isOrderSo.2.1 226 = .ok (.goto 4, 3) := by decide +kernel
theorem d_LH_isOrderSo_229 : decode m_LH_isOrderSo.2.1 229 = .ok (.iconst 0, 1) := by decide +kernel
theorem d_LH_isOrderSo_230 : decode m_LH_isOrderSo.2.1 230 = .ok (.ireturn, 1) := by decide +kernel
theorem d_LH_isAnswerSo_0 : decode m_LH_isAnswerSo.2.1 0 = .ok (.aload_n 0, 1) := by decide +kernel
theorem d_LH_isAnswerSo_1 : decode m_LH_isAnswerSo.2.1 1 = .ok (.iconst 0, 1) := by decide +kernel
theorem d_LH_isAnswerSo_2 : decode m_LH_isAnswerSo.2.1 2 = .ok (.iload_n 2, 1) := by decide +kernel
theorem d_LH_isAnswerSo_3 : decode m_LH_isAnswerSo.2.1 3 = .ok (.invokestatic 199, 3) := by decide +kernel
theorem d_LH_isAnswerSo_6 : decode m_LH_isAnswerSo.2.1 6 = .ok (.istore 4, 2) := by decide +kernel
theorem d_LH_isAnswerSo_8 : decode m_LH_isAnswerSo.2.1 8 = .ok (.aload_n 0, 1) := by decide +kernel
theorem d_LH_isAnswerSo_9 : decode m_LH_isAnswerSo.2.1 9 = .ok (.iconst 1, 1) := by decide +kernel
theorem d_LH_isAnswerSo_10 : decode m_LH_isAnswerSo.2.1 10 = .ok (.iload_n 2, 1) := by decide +kernel
theorem d_LH_isAnswerSo_11 : decode m_LH_isAnswerSo.2.1 11 = .ok (.invokestatic 199, 3) := by decide +kernel
theorem d_LH_isAnswerSo_14 : decode m_LH_isAnswerSo.2.1 14 = .ok (.istore 5, 2) := by decide +kernel
theorem d_LH_isAnswerSo_16 : decode m_LH_isAnswerSo.2.1 16 = .ok (.iload 4, 2) := by decide +kernel
theorem d_LH_isAnswerSo_18 : decode m_LH_isAnswerSo.2.1 18 = .ok (.iconst 1, 1) := by decide +kernel
theorem d_LH_isAnswerSo_19 : decode m_LH_isAnswerSo.2.1 19 = .ok (.if_icmp .lt 9, 3) := by decide +kernel
theorem d_LH_isAnswerSo_22 : decode m_LH_isAnswerSo.2.1 22 = .ok (.iload 5, 2) := by decide +kernel
theorem d_LH_isAnswerSo_24 : decode m_LH_isAnswerSo.2.1 24 = .ok (.iconst 1, 1) := by decide +kernel
theorem d_LH_isAnswerSo_25 : decode m_LH_isAnswerSo.2.1 25 = .ok (.if_icmp .ge 26, 3) := by decide +kernel
theorem d_LH_isAnswerSo_28 : decode m_LH_isAnswerSo.2.1 28 = .ok (.iload 4, 2) := by decide +kernel
theorem d_LH_isAnswerSo_30 : decode m_LH_isAnswerSo.2.1 30 = .ok (.ldc 57, 2) := by decide +kernel
theorem d_LH_isAnswerSo_32 : decode m_LH_isAnswerSo.2.1 32 = .ok (.if_icmp .eq 13, 3) := by decide +kernel
theorem d_LH_isAnswerSo_35 : decode m_LH_isAnswerSo.2.1 35 = .ok (.iload 4, 2) := by decide +kernel
theorem d_LH_isAnswerSo_37 : decode m_LH_isAnswerSo.2.1 37 = .ok (.ifCond .eq 8, 3) := by decide +kernel
theorem d_LH_isAnswerSo_40 : decode m_LH_isAnswerSo.2.1 40 = .ok (.iload 5, 2) := by decide +kernel
theorem d_LH_isAnswerSo_42 : decode m_LH_isAnswerSo.2.1 42 = .ok (.ifCond .ne 7, 3) := by decide +kernel
theorem d_LH_isAnswerSo_45 : decode m_LH_isAnswerSo.2.1 45 = .ok (.iconst 1, 1) := by decide +kernel
theorem d_LH_isAnswerSo_46 : decode m_LH_isAnswerSo.2.1 46 = .ok (.goto 4, 3) := by decide +kernel
theorem d_LH_isAnswerSo_49 : decode m_LH_isAnswerSo.2.1 49 = .ok (.iconst 0, 1) := by decide +kernel
theorem d_LH_isAnswerSo_50 : decode m_LH_isAnswerSo.2.1 50 = .ok (.ireturn, 1) := by decide +kernel
theorem d_LH_isAnswerSo_51 : decode m_LH_isAnswerSo.2.1 51 = .ok (.iload_n 3, 1) := by decide +kernel
theorem d_LH_isAnswerSo_52 : decode m_LH_isAnswerSo.2.1 52 = .ok (.iload 4, 2) := by decide +kernel
theorem d_LH_isAnswerSo_54 : decode m_LH_isAnswerSo.2.1 54 = .ok (.invokestatic 156, 3) := by decide +kernel
theorem d_LH_isAnswerSo_57 : decode m_LH_isAnswerSo.2.1 57 = .ok (.istore 6, 2) := by decide +kernel
theorem d_LH_isAnswerSo_59 : decode m_LH_isAnswerSo.2.1 59 = .ok (.iload_n 3, 1) := by decide +kernel
theorem d_LH_isAnswerSo_60 : decode m_LH_isAnswerSo.2.1 60 = .ok (.iconst 4, 1) := by decide +kernel
theorem d_LH_isAnswerSo_61 : decode m_LH_isAnswerSo.2.1 61 = .ok (.ishr, 1) := by decide +kernel
theorem d_LH_isAnswerSo_62 : decode m_LH_isAnswerSo.2.1 62 = .ok (.iload 5, 2) := by decide +kernel
theorem d_LH_isAnswerSo_64 : decode m_LH_isAnswerSo.2.1 64 = .ok (.invokestatic 156, 3) := by decide +kernel
theorem d_LH_isAnswerSo_67 : decode m_LH_isAnswerSo.2.1 67 = .ok (.istore 7, 2) := by decide +kernel
theorem d_LH_isAnswerSo_69 : decode m_LH_isAnswerSo.2.1 69 = .ok (.aload_n 0, 1) := by decide +kernel
theorem d_LH_isAnswerSo_70 : decode m_LH_isAnswerSo.2.1 70 = .ok (.iload_n 2, 1) := by decide +kernel
theorem d_LH_isAnswerSo_71 : decode m_LH_isAnswerSo.2.1 71 = .ok (.iload 6, 2) := by decide +kernel
theorem d_LH_isAnswerSo_73 : decode m_LH_isAnswerSo.2.1 73 = .ok (.iload 7, 2) := by decide +kernel
theorem d_LH_isAnswerSo_75 : decode m_LH_isAnswerSo.2.1 75 = .ok (.invokevirtual 122, 3) := by decide +kernel
theorem d_LH_isAnswerSo_78 : decode m_LH_isAnswerSo.2.1 78 = .ok (.istore 8, 2) := by decide +kernel
theorem d_LH_isAnswerSo_80 : decode m_LH_isAnswerSo.2.1 80 = .ok (.aload_n 0, 1) := by decide +kernel
theorem d_LH_isAnswerSo_81 : decode m_LH_isAnswerSo.2.1 81 = .ok (.iload_n 2, 1) := by decide +kernel
theorem d_LH_isAnswerSo_82 : decode m_LH_isAnswerSo.2.1 82 = .ok (.iload 6, 2) := by decide +kernel
theorem d_LH_isAnswerSo_84 : decode m_LH_isAnswerSo.2.1 84 = .ok (.iload 7, 2) := by decide +kernel
theorem d_LH_isAnswerSo_86 : decode m_LH_isAnswerSo.2.1 86 = .ok (.invokevirtual 125, 3) := by decide +kernel
theorem d_LH_isAnswerSo_89 : decode m_LH_isAnswerSo.2.1 89 = .ok (.istore 9, 2) := by decide +kernel
theorem d_LH_isAnswerSo_91 : decode m_LH_isAnswerSo.2.1 91 = .ok (.iload 4, 2) := by decide +kernel
theorem d_LH_isAnswerSo_93 : decode m_LH_isAnswerSo.2.1 93 = .ok (.bipush 30, 2) := by decide +kernel
theorem d_LH_isAnswerSo_95 : decode m_LH_isAnswerSo.2.1 95 = .ok (.if_icmp .gt 72, 3) := by decide +kernel
theorem d_LH_isAnswerSo_98 : decode m_LH_isAnswerSo.2.1 98 = .ok (.aload_n 0, 1) := by decide +kernel
theorem d_LH_isAnswerSo_99 : decode m_LH_isAnswerSo.2.1 99 = .ok (.iconst 4, 1) := by decide +kernel
theorem d_LH_isAnswerSo_100 : decode m_LH_isAnswerSo.2.1 100 = .ok (.iload_n 2, 1) := by decide +kernel
theorem d_LH_isAnswerSo_101 : decode m_LH_isAnswerSo.2.1 101 = .ok (.iload 4, 2) := by decide +kernel
theorem d_LH_isAnswerSo_103 : decode m_LH_isAnswerSo.2.1 103 = .ok (.iconst 0, 1) := by decide +kernel
theorem d_LH_isAnswerSo_104 : decode m_LH_isAnswerSo.2.1 104 = .ok (.iconst 0, 1) := by decide +kernel
theorem d_LH_isAnswerSo_105 : decode m_LH_isAnswerSo.2.1 105 = .ok (.iconst 0, 1) := by decide +kernel
theorem d_LH_isAnswerSo_106 : decode m_LH_isAnswerSo.2.1 106 = .ok (.invokestatic 171, 3) := by decide +kernel
theorem d_LH_isAnswerSo_109 : decode m_LH_isAnswerSo.2.1 109 = .ok (.ldc 57, 2) := by decide +kernel
theorem d_LH_isAnswerSo_111 : decode m_LH_isAnswerSo.2.1 111 = .ok (.if_icmp .ne 56, 3) := by decide +kernel
theorem d_LH_isAnswerSo_114 : decode m_LH_isAnswerSo.2.1 114 = .ok (.aload_n 0, 1) := by decide +kernel
theorem d_LH_isAnswerSo_115 : decode m_LH_isAnswerSo.2.1 115 = .ok (.iconst 4, 1) := by decide +kernel
theorem d_LH_isAnswerSo_116 : decode m_LH_isAnswerSo.2.1 116 = .ok (.iload_n 2, 1) := by decide +kernel
theorem d_LH_isAnswerSo_117 : decode m_LH_isAnswerSo.2.1 117 = .ok (.iconst 0, 1) := by decide +kernel
theorem d_LH_isAnswerSo_118 : decode m_LH_isAnswerSo.2.1 118 = .ok (.iload 5, 2) := by decide +kernel
theorem d_LH_isAnswerSo_120 : decode m_LH_isAnswerSo.2.1 120 = .ok (.iconst 0, 1) := by decide +kernel
theorem d_LH_isAnswerSo_121 : decode m_LH_isAnswerSo.2.1 121 = .ok (.iconst 0, 1) := by decide +kernel
theorem d_LH_isAnswerSo_122 : decode m_LH_isAnswerSo.2.1 122 = .ok (.invokestatic 171, 3) := by decide +kernel
theorem d_LH_isAnswerSo_125 : decode m_LH_isAnswerSo.2.1 125 = .ok (.ldc 57, 2) := by decide +kernel
theorem d_LH_isAnswerSo_127 : decode m_LH_isAnswerSo.2.1 127 = .ok (.if_icmp .ne 40, 3) := by decide +kernel
theorem d_LH_isAnswerSo_130 : decode m_LH_isAnswerSo.2.1 130 = .ok (.iload 9, 2) := by decide +kernel
theorem d_LH_isAnswerSo_132 : decode m_LH_isAnswerSo.2.1 132 = .ok (.ifCond .lt 31, 3) := by decide +kernel
theorem d_LH_isAnswerSo_135 : decode m_LH_isAnswerSo.2.1 135 = .ok (.aload_n 0, 1) := by decide +kernel
theorem d_LH_isAnswerSo_136 : decode m_LH_isAnswerSo.2.1 136 = .ok (.iload 9, 2) := by decide +kernel
theorem d_LH_isAnswerSo_138 : decode m_LH_isAnswerSo.2.1 138 = .ok (.sipush 1000, 3) := by decide +kernel
theorem d_LH_isAnswerSo_141 : decode m_LH_isAnswerSo.2.1 141 = .ok (.idiv, 1) := by decide +kernel
theorem d_LH_isAnswerSo_142 : decode m_LH_isAnswerSo.2.1 142 = .ok (.iload 9, 2) := by decide +kernel
theorem d_LH_isAnswerSo_144 : decode m_LH_isAnswerSo.2.1 144 = .ok (.bipush 10, 2) := by decide +kernel
theorem d_LH_isAnswerSo_146 : decode m_LH_isAnswerSo.2.1 146 = .ok (.idiv, 1) := by decide +kernel
theorem d_LH_isAnswerSo_147 : decode m_LH_isAnswerSo.2.1 147 = .ok (.bipush 100, 2) := by decide +kernel
theorem d_LH_isAnswerSo_149 : decode m_LH_isAnswerSo.2.1 149 = .ok (.irem, 1) := by decide +kernel
theorem d_LH_isAnswerSo_150 : decode m_LH_isAnswerSo.2.1 150 = .ok (.iload 9, 2) := by decide +kernel
theorem d_LH_isAnswerSo_152 : decode m_LH_isAnswerSo.2.1 152 = .ok (.bipush 10, 2) := by decide +kernel
theorem d_LH_isAnswerSo_154 : decode m_LH_isAnswerSo.2.1 154 = .ok (.irem, 1) := by decide +kernel
theorem d_LH_isAnswerSo_155 : decode m_LH_isAnswerSo.2.1 155 = .ok (.invokevirtual 101, 3) := by decide +kernel
theorem d_LH_isAnswerSo_158 : decode m_LH_isAnswerSo.2.1 158 = .ok (.iload 8, 2) := by decide +kernel
theorem d_LH_isAnswerSo_160 : decode m_LH_isAnswerSo.2.1 160 = .ok (.if_icmp .ne 7, 3) := by decide +kernel
theorem d_LH_isAnswerSo_163 : decode m_LH_isAnswerSo.2.1 163 = .ok (.iconst 1, 1) := by decide +kernel
theorem d_LH_isAnswerSo_164 : decode m_LH_isAnswerSo.2.1 164 = .ok (.goto 4, 3) := by decide +kernel
theorem d_LH_isAnswerSo_167 : decode m_LH_isAnswerSo.2.1 167 = .ok (.iconst 0, 1) := by decide +kernel
theorem d_LH_isAnswerSo_168 : decode m_LH_isAnswerSo.2.1 168 = .ok (.istore 10, 2) := by decide +kernel
theorem d_LH_isAnswerSo_170 : decode m_LH_isAnswerSo.2.1 170 = .ok (.iload_n 3, 1) := by decide +kernel
theorem d_LH_isAnswerSo_171 : decode m_LH_isAnswerSo.2.1 171 = .ok (.bipush 7, 2) := by decide +kernel
theorem d_LH_isAnswerSo_173 : decode m_LH_isAnswerSo.2.1 173 = .ok (.ishr, 1) := by decide +kernel
theorem d_LH_isAnswerSo_174 : decode m_LH_isAnswerSo.2.1 174 = .ok (.bipush 12, 2) := by decide +kernel
theorem d_LH_isAnswerSo_176 : decode m_LH_isAnswerSo.2.1 176 = .ok (.invokestatic 156, 3) := by decide +kernel
theorem d_LH_isAnswerSo_179 : decode m_LH_isAnswerSo.2.1 179 = .ok (.istore 11, 2) := by decide +kernel
theorem d_LH_isAnswerSo_181 : decode m_LH_isAnswerSo.2.1 181 = .ok (.aload_n 0, 1) := by decide +kernel
theorem d_LH_isAnswerSo_182 : decode m_LH_isAnswerSo.2.1 182 = .ok (.bipush 6, 2) := by decide +kernel
theorem d_LH_isAnswerSo_184 : decode m_LH_isAnswerSo.2.1 184 = .ok (.iload_n 2, 1) := by decide +kernel
theorem d_LH_isAnswerSo_185 : decode m_LH_isAnswerSo.2.1 185 = .ok (.iload 6, 2) := by decide +kernel
theorem d_LH_isAnswerSo_187 : decode m_LH_isAnswerSo.2.1 187 = .ok (.iload 7, 2) := by decide +kernel
theorem d_LH_isAnswerSo_189 : decode m_LH_isAnswerSo.2.1 189 = .ok (.iload 11, 2) := by decide +kernel
theorem d_LH_isAnswerSo_191 : decode m_LH_isAnswerSo.2.1 191 = .ok (.iconst 0, 1) := by decide +kernel
theorem d_LH_isAnswerSo_192 : decode m_LH_isAnswerSo.2.1 192 = .ok (.invokestatic 171, 3) := by decide +kernel
theorem d_LH_isAnswerSo_195 : decode m_LH_isAnswerSo.2.1 195 = .ok (.istore 12, 2) := by decide +kernel
theorem d_LH_isAnswerSo_197 : decode m_LH_isAnswerSo.2.1 197 = .ok (.iload 10, 2) := by decide +kernel
theorem d_LH_isAnswerSo_199 : decode m_LH_isAnswerSo.2.1 199 = .ok (.ifCond .eq 53, 3) := by decide +kernel
theorem d_LH_isAnswerSo_202 : decode m_LH_isAnswerSo.2.1 202 = .ok (.aload_n 1, 1) := by decide +kernel
theorem d_LH_isAnswerSo_203 : decode m_LH_isAnswerSo.2.1 203 = .ok (.bipush 6, 2) := by decide +kernel
theorem d_LH_isAnswerSo_205 : decode m_LH_isAnswerSo.2.1 205 = .ok (.iload_n 2, 1) := by decide +kernel
theorem d_LH_isAnswerSo_206 : decode m_LH_isAnswerSo.2.1 206 = .ok (.iload 6, 2) := by decide +kernel
theorem d_LH_isAnswerSo_208 : decode m_LH_isAnswerSo.2.1 208 = .ok (.iload 7, 2) := by decide +kernel
theorem d_LH_isAnswerSo_210 : decode m_LH_isAnswerSo.2.1 210 = .ok (.iload 11, 2) := by decide +kernel
theorem d_LH_isAnswerSo_212 : decode m_LH_isAnswerSo.2.1 212 = .ok (.iconst 0, 1) := by decide +kernel
theorem d_LH_isAnswerSo_213 : decode m_LH_isAnswerSo.2.1 213 = .ok (.invokestatic 171, 3) := by decide +kernel
theorem d_LH_isAnswerSo_216 : decode m_LH_isAnswerSo.2.1 216 = .ok (.iload 12, 2) := by decide +kernel
theorem d_LH_isAnswerSo_218 : decode m_LH_isAnswerSo.2.1 218 = .ok (.if_icmp .ne 34, 3) := by decide +kernel
theorem d_LH_isAnswerSo_221 : decode m_LH_isAnswerSo.2.1 221 = .ok (.iload 9, 2) := by decide +kernel
theorem d_LH_isAnswerSo_223 : decode m_LH_isAnswerSo.2.1 223 = .ok (.ifCond .ge 25, 3) := by decide +kernel
theorem d_LH_isAnswerSo_226 : decode m_LH_isAnswerSo.2.1 226 = .ok (.iload 12, 2) := by decide +kernel
theorem d_LH_isAnswerSo_228 : decode m_LH_isAnswerSo.2.1 228 = .ok (.ifCond .ne 24, 3) := by decide +kernel
theorem d_LH_isAnswerSo_231 : decode m_LH_isAnswerSo.2.1 231 = .ok (.aload_n 0, 1) := by decide +kernel
theorem d_LH_isAnswerSo_232 : decode m_LH_isAnswerSo.2.1 232 = .ok (.invokevirtual 181, 3) := by decide +kernel
theorem d_LH_isAnswerSo_235 : decode m_LH_isAnswerSo.2.1 235 = .ok (.bipush 7, 2) := by decide +kernel
theorem d_LH_isAnswerSo_237 : decode m_LH_isAnswerSo.2.1 237 = .ok (.if_icmp .ne 15, 3) := by decide +kernel
theorem d_LH_isAnswerSo_240 : decode m_LH_isAnswerSo.2.1 240 = .ok (.aload_n 0, 1) := by decide +kernel
theorem d_LH_isAnswerSo_241 : decode m_LH_isAnswerSo.2.1 241 = .ok (.invokevirtual 184, 3) := by decide +kernel
theorem d_LH_isAnswerSo_244 : decode m_LH_isAnswerSo.2.1 244 = .ok (.iconst (-1), 1) := by decide +kernel
theorem d_LH_isAnswerSo_245 : decode m_LH_isAnswerSo.2.1 245 = .ok (.if_icmp .ne 7, 3) := by decide +kernel
theorem d_LH_isAnswerSo_248 : decode m_LH_isAnswerSo.2.1 248 = .ok (.iconst 1, 1) := by decide +kernel
theorem d_LH_isAnswerSo_249 : decode m_LH_isAnswerSo.2.1 249 = .ok (.goto 4, 3) := by decide +kernel
theorem d_LH_isAnswerSo_252 : decode m_LH_isAnswerSo.2.1 252 = .ok (.iconst 0, 1) := by decide +kernel
theorem d_LH_isAnswerSo_253 : decode m_LH_isAnswerSo.2.1 253 = .ok (.istore 10, 2) := by decide +kernel
theorem d_LH_isAnswerSo_255 : decode m_LH_isAnswerSo.2.1 255 = .ok (.iload 10, 2) := by decide +kernel
theorem d_LH_isAnswerSo_257 : decode m_LH_isAnswerSo.2.1 257 = .ok (.ifCond .eq 84, 3) := by decide +kernel
theorem d_LH_isAnswerSo_260 : decode m_LH_isAnswerSo.2.1 260 = .ok (.iload 9, 2) := by decide +kernel
theorem d_LH_isAnswerSo_262 : decode m_LH_isAnswerSo.2.1 262 = .ok (.ifCond .lt 42, 3) := by decide +kernel
theorem d_LH_isAnswerSo_265 : decode m_LH_isAnswerSo.2.1 265 = .ok (.aload_n 0, 1) := by decide +kernel
theorem d_LH_isAnswerSo_266 : decode m_LH_isAnswerSo.2.1 266 = .ok (.iload 9, 2) := by decide +kernel
theorem d_LH_isAnswerSo_268 : decode m_LH_isAnswerSo.2.1 268 = .ok (.sipush 1000, 3) := by decide +kernel
theorem d_LH_isAnswerSo_271 : decode m_LH_isAnswerSo.2.1 271 = .ok (.idiv, 1) := by decide +kernel
theorem d_LH_isAnswerSo_272 : decode m_LH_isAnswerSo.2.1 272 = .ok (.iload 9, 2) := by decide +kernel
theorem d_LH_isAnswerSo_274 : decode m_LH_isAnswerSo.2.1 274 = .ok (.bipush 10, 2) := by decide +kernel
theorem d_LH_isAnswerSo_276 : decode m_LH_isAnswerSo.2.1 276 = .ok (.idiv, 1) := by decide +kernel
theorem d_LH_isAnswerSo_277 : decode m_LH_isAnswerSo.2.1 277 = .ok (.bipush 100, 2) := by decide +kernel
theorem d_LH_isAnswerSo_279 : decode m_LH_isAnswerSo.2.1 279 = .ok (.irem, 1) := by decide +kernel
theorem d_LH_isAnswerSo_280 : decode m_LH_isAnswerSo.2.1 280 = .ok (.iload 9, 2) := by decide +kernel
theorem d_LH_isAnswerSo_282 : decode m_LH_isAnswerSo.2.1 282 = .ok (.bipush 10, 2) := by decide +kernel
theorem d_LH_isAnswerSo_284 : decode m_LH_isAnswerSo.2.1 284 = .ok (.irem, 1) := by decide +kernel
theorem d_LH_isAnswerSo_285 : decode m_LH_isAnswerSo.2.1 285 = .ok (.invokevirtual 101, 3) := by decide +kernel
theorem d_LH_isAnswerSo_288 : decode m_LH_isAnswerSo.2.1 288 = .ok (.iload 12, 2) := by decide +kernel
theorem d_LH_isAnswerSo_290 : decode m_LH_isAnswerSo.2.1 290 = .ok (.iconst 1, 1) := by decide +kernel
theorem d_LH_isAnswerSo_291 : decode m_LH_isAnswerSo.2.1 291 = .ok (.if_icmp .ne 8, 3) := by decide +kernel
theorem d_LH_isAnswerSo_294 : decode m_LH_isAnswerSo.2.1 294 = .ok (.iload 11, 2) := by decide +kernel
theorem d_LH_isAnswerSo_296 : decode m_LH_isAnswerSo.2.1 296 = .ok (.goto 5, 3) := by decide +kernel
theorem d_LH_isAnswerSo_299 : decode m_LH_isAnswerSo.2.1 299 = .ok (.iload 8, 2) := by decide +kernel
theorem d_LH_isAnswerSo_301 : decode m_LH_isAnswerSo.2.1 301 = .ok (.if_icmp .ne 40, 3) := by decide +kernel
theorem d_LH_isAnswerSo_304 : decode m_LH_isAnswerSo.2.1 304 = .ok (.iload 12, 2) := by decide +kernel
theorem d_LH_isAnswerSo_306 : decode m_LH_isAnswerSo.2.1 306 = .ok (.iconst 1, 1) := by decide +kernel
theorem d_LH_isAnswerSo_307 : decode m_LH_isAnswerSo.2.1 307 = .ok (.if_icmp .ne 7, 3) := by decide +kernel
theorem d_LH_isAnswerSo_310 : decode m_LH_isAnswerSo.2.1 310 = .ok (.iconst 1, 1) := by decide +kernel
theorem d_LH_isAnswerSo_311 : decode m_LH_isAnswerSo.2.1 311 = .ok (.goto 4, 3) := by decide +kernel
theorem d_LH_isAnswerSo_314 : decode m_LH_isAnswerSo.2.1 314 = .ok (.iconst 0, 1) := by decide +kernel
theorem d_LH_isAnswerSo_315 : decode m_LH_isAnswerSo.2.1 315 = .ok (.aload_n 0, 1) := by decide +kernel
theorem d_LH_isAnswerSo_316 : decode m_LH_isAnswerSo.2.1 316 = .ok (.invokevirtual 181, 3) := by decide +kernel
theorem d_LH_isAnswerSo_319 : decode m_LH_isAnswerSo.2.1 319 = .ok (.ifCond .ne 7, 3) := by decide +kernel
theorem d_LH_isAnswerSo_322 : decode m_LH_isAnswerSo.2.1 322 = .ok (.iconst 1, 1) := by decide +kernel
theorem d_LH_isAnswerSo_323 : decode m_LH_isAnswerSo.2.1 323 = .ok (.goto 4, 3) := by decide +kernel
theorem d_LH_isAnswerSo_326 : decode m_LH_isAnswerSo.2.1 326 = .ok (.iconst 0, 1) := by decide +kernel
theorem d_LH_isAnswerSo_327 : decode m_LH_isAnswerSo.2.1 327 = .ok (.if_icmp .ne 14, 3) := by decide +kernel
theorem d_LH_isAnswerSo_330 : decode m_LH_isAnswerSo.2.1 330 = .ok (.aload_n 0, 1) := by decide +kernel
theorem d_LH_isAnswerSo_331 : decode m_LH_isAnswerSo.2.1 331 = .ok (.invokevirtual 175, 3) := by decide +kernel
theorem d_LH_isAnswerSo_334 : decode m_LH_isAnswerSo.2.1 334 = .ok (.ifCond .ne 7, 3) := by decide +kernel
theorem d_LH_isAnswerSo_337 : decode m_LH_isAnswerSo.2.1 337 = .ok (.iconst 1, 1) := by decide +kernel
theorem d_LH_isAnswerSo_338 : decode m_LH_isAnswerSo.2.1 338 = .ok (.goto 4, 3) := by decide +kernel
theorem d_LH_isAnswerSo_341 : decode m_LH_isAnswerSo.2.1 341 = .ok (.iconst 0, 1) := by decide +kernel
theorem d_LH_isAnswerSo_342 : decode m_LH_isAnswerSo.2.1 342 = .ok (.ireturn, 1) := by decide +kernel
theorem d_LH_isChoiceSo_0 : decode m_LH_isChoiceSo.2.1 0 = .ok (.aload_n 0, 1) := by decide +kernel
theorem d_LH_isChoiceSo_1 : decode m_LH_isChoiceSo.2.1 1 = .ok (.invokevirtual 181, 3) := by decide +kernel
theorem d_LH_isChoiceSo_4 : decode m_LH_isChoiceSo.2.1 4 = .ok (.istore 5, 2) := by decide +kernel
theorem d_LH_isChoiceSo_6 : decode m_LH_isChoiceSo.2.1 6 = .ok (.aload_n 0, 1) := by decide +kernel
theorem d_LH_isChoiceSo_7 : decode m_LH_isChoiceSo.2.1 7 = .ok (.bipush 9, 2) := by decide +kernel
theorem d_LH_isChoiceSo_9 : decode m_LH_isChoiceSo.2.1 9 = .ok (.iload_n 2, 1) := by decide +kernel
theorem d_LH_isChoiceSo_10 : decode m_LH_isChoiceSo.2.1 10 = .ok (.iload_n 3, 1) := by decide +kernel
theorem d_LH_isChoiceSo_11 : decode m_LH_isChoiceSo.2.1 11 = .ok (.iload 4, 2) := by decide +kernel
theorem d_LH_isChoiceSo_13 : decode m_LH_isChoiceSo.2.1 13 = .ok (.iconst 0, 1) := by decide +kernel
theorem d_LH_isChoiceSo_14 : decode m_LH_isChoiceSo.2.1 14 = .ok (.iconst 0, 1) := by decide +kernel
theorem d_LH_isChoiceSo_15 : decode m_LH_isChoiceSo.2.1 15 = .ok (.iconst 0, 1) := by decide +kernel
theorem d_LH_isChoiceSo_16 : decode m_LH_isChoiceSo.2.1 16 = .ok (.invokestatic 163, 3) := by decide +kernel
theorem d_LH_isChoiceSo_19 : decode m_LH_isChoiceSo.2.1 19 = .ok (.istore 6, 2) := by decide +kernel
theorem d_LH_isChoiceSo_21 : decode m_LH_isChoiceSo.2.1 21 = .ok (.aload_n 1, 1) := by decide +kernel
theorem d_LH_isChoiceSo_22 : decode m_LH_isChoiceSo.2.1 22 = .ok (.bipush 9, 2) := by decide +kernel
theorem d_LH_isChoiceSo_24 : decode m_LH_isChoiceSo.2.1 24 = .ok (.iload_n 2, 1) := by decide +kernel
theorem d_LH_isChoiceSo_25 : decode m_LH_isChoiceSo.2.1 25 = .ok (.iload_n 3, 1) := by decide +kernel
theorem d_LH_isChoiceSo_26 : decode m_LH_isChoiceSo.2.1 26 = .ok (.iload 4, 2) := by decide +kernel
theorem d_LH_isChoiceSo_28 : decode m_LH_isChoiceSo.2.1 28 = .ok (.iconst 0, 1) := by decide +kernel
theorem d_LH_isChoiceSo_29 : decode m_LH_isChoiceSo.2.1 29 = .ok (.iconst 0, 1) := by decide +kernel
theorem d_LH_isChoiceSo_30 : decode m_LH_isChoiceSo.2.1 30 = .ok (.iconst 0, 1) := by decide +kernel
theorem d_LH_isChoiceSo_31 : decode m_LH_isChoiceSo.2.1 31 = .ok (.invokestatic 163, 3) := by decide +kernel
theorem d_LH_isChoiceSo_34 : decode m_LH_isChoiceSo.2.1 34 = .ok (.iload 6, 2) := by decide +kernel
theorem d_LH_isChoiceSo_36 : decode m_LH_isChoiceSo.2.1 36 = .ok (.if_icmp .ne 16, 3) := by decide +kernel
theorem d_LH_isChoiceSo_39 : decode m_LH_isChoiceSo.2.1 39 = .ok (.aload_n 0, 1) := by decide +kernel
theorem d_LH_isChoiceSo_40 : decode m_LH_isChoiceSo.2.1 40 = .ok (.invokevirtual 181, 3) := by decide +kernel
theorem d_LH_isChoiceSo_43 : decode m_LH_isChoiceSo.2.1 43 = .ok (.iload 5, 2) := by decide +kernel
theorem d_LH_isChoiceSo_45 : decode m_LH_isChoiceSo.2.1 45 = .ok (.if_icmp .ne 7, 3) := by decide +kernel
theorem d_LH_isChoiceSo_48 : decode m_LH_isChoiceSo.2.1 48 = .ok (.iconst 1, 1) := by decide +kernel
theorem d_LH_isChoiceSo_49 : decode m_LH_isChoiceSo.2.1 49 = .ok (.goto 4, 3) := by decide +kernel
theorem d_LH_isChoiceSo_52 : decode m_LH_isChoiceSo.2.1 52 = .ok (.iconst 0, 1) := by decide +kernel
theorem d_LH_isChoiceSo_53 : decode m_LH_isChoiceSo.2.1 53 = .ok (.istore 7, 2) := by decide +kernel
theorem d_LH_isChoiceSo_55 : decode m_LH_isChoiceSo.2.1 55 = .ok (.iload 6, 2) := by decide +kernel
theorem d_LH_isChoiceSo_57 : decode m_LH_isChoiceSo.2.1 57 = .ok (.ifCond .ge 6, 3) := by decide +kernel
theorem d_LH_isChoiceSo_60 : decode m_LH_isChoiceSo.2.1 60 = .ok (.iload 7, 2) := by decide +kernel
theorem d_LH_isChoiceSo_62 : decode m_LH_isChoiceSo.2.1 62 = .ok (.ireturn, 1) := by decide +kernel
theorem d_LH_isChoiceSo_63 : decode m_LH_isChoiceSo.2.1 63 = .ok (.iload 7, 2) := by decide +kernel
theorem d_LH_isChoiceSo_65 : decode m_LH_isChoiceSo.2.1 65 = .ok (.ifCond .eq 50, 3) := by decide +kernel
theorem d_LH_isChoiceSo_68 : decode m_LH_isChoiceSo.2.1 68 = .ok (.iload 6, 2) := by decide +kernel
theorem d_LH_isChoiceSo_70 : decode m_LH_isChoiceSo.2.1 70 = .ok (.ifCond .eq 41, 3) := by decide +kernel
theorem d_LH_isChoiceSo_73 : decode m_LH_isChoiceSo.2.1 73 = .ok (.aload_n 0, 1) := by decide +kernel
theorem d_LH_isChoiceSo_74 : decode m_LH_isChoiceSo.2.1 74 = .ok (.bipush 8, 2) := by decide +kernel
theorem d_LH_isChoiceSo_76 : decode m_LH_isChoiceSo.2.1 76 = .ok (.iload_n 2, 1) := by decide +kernel
theorem d_LH_isChoiceSo_77 : decode m_LH_isChoiceSo.2.1 77 = .ok (.iload_n 3, 1) := by decide +kernel
theorem d_LH_isChoiceSo_78 : decode m_LH_isChoiceSo.2.1 78 = .ok (.iload 4, 2) := by decide +kernel
theorem d_LH_isChoiceSo_80 : decode m_LH_isChoiceSo.2.1 80 = .ok (.iload 6, 2) := by decide +kernel
theorem d_LH_isChoiceSo_82 : decode m_LH_isChoiceSo.2.1 82 = .ok (.iconst 1, 1) := by decide +kernel
theorem d_LH_isChoiceSo_83 : decode m_LH_isChoiceSo.2.1 83 = .ok (.isub, 1) := by decide +kernel
theorem d_LH_isChoiceSo_84 : decode m_LH_isChoiceSo.2.1 84 = .ok (.iconst 0, 1) := by decide +kernel
theorem d_LH_isChoiceSo_85 : decode m_LH_isChoiceSo.2.1 85 = .ok (.iconst 0, 1) := by decide +kernel
theorem d_LH_isChoiceSo_86 : decode m_LH_isChoiceSo.2.1 86 = .ok (.invokestatic 163, 3) := by decide +kernel
theorem d_LH_isChoiceSo_89 : decode m_LH_isChoiceSo.2.1 89 = .ok (.ifCond .ne 26, 3) := by decide +kernel
theorem d_LH_isChoiceSo_92 : decode m_LH_isChoiceSo.2.1 92 = .ok (.aload_n 1, 1) := by decide +kernel
theorem d_LH_isChoiceSo_93 : decode m_LH_isChoiceSo.2.1 93 = .ok (.bipush 8, 2) := by decide +kernel
theorem d_LH_isChoiceSo_95 : decode m_LH_isChoiceSo.2.1 95 = .ok (.iload_n 2, 1) := by decide +kernel
theorem d_LH_isChoiceSo_96 : decode m_LH_isChoiceSo.2.1 96 = .ok (.iload_n 3, 1) := by decide +kernel
theorem d_LH_isChoiceSo_97 : decode m_LH_isChoiceSo.2.1 97 = .ok (.iload 4, 2) := by decide +kernel
theorem d_LH_isChoiceSo_99 : decode m_LH_isChoiceSo.2.1 99 = .ok (.iload 6, 2) := by decide +kernel
theorem d_LH_isChoiceSo_101 : decode m_LH_isChoiceSo.2.1 101 = .ok (.iconst 1, 1) := by decide +kernel
theorem d_LH_isChoiceSo_102 : decode m_LH_isChoiceSo.2.1 102 = .ok (.isub, 1) := by decide +kernel
theorem d_LH_isChoiceSo_103 : decode m_LH_isChoiceSo.2.1 103 = .ok (.iconst 0, 1) := by decide +kernel
theorem d_LH_isChoiceSo_104 : decode m_LH_isChoiceSo.2.1 104 = .ok (.iconst 0, 1) := by decide +kernel
theorem d_LH_isChoiceSo_105 : decode m_LH_isChoiceSo.2.1 105 = .ok (.invokestatic 163, 3) := by decide +kernel
theorem d_LH_isChoiceSo_108 : decode m_LH_isChoiceSo.2.1 108 = .ok (.ifCond .ne 7, 3) := by decide +kernel
theorem d_LH_isChoiceSo_111 : decode m_LH_isChoiceSo.2.1 111 = .ok (.iconst 1, 1) := by decide +kernel
theorem d_LH_isChoiceSo_112 : decode m_LH_isChoiceSo.2.1 112 = .ok (.goto 4, 3) := by decide +kernel
theorem d_LH_isChoiceSo_115 : decode m_LH_isChoiceSo.2.1 115 = .ok (.iconst 0, 1) := by decide +kernel
theorem d_LH_isChoiceSo_116 : decode m_LH_isChoiceSo.2.1 116 = .ok (.istore 7, 2) := by decide +kernel
theorem d_LH_isChoiceSo_118 : decode m_LH_isChoiceSo.2.1 118 = .ok (.iload 7, 2) := by decide +kernel
theorem d_LH_isChoiceSo_120 : decode m_LH_isChoiceSo.2.1 120 = .ok (.ifCond .eq 56, 3) := by decide +kernel
theorem d_LH_isChoiceSo_123 : decode m_LH_isChoiceSo.2.1 123 = .ok (.aload_n 0, 1) := by decide +kernel
theorem d_LH_isChoiceSo_124 : decode m_LH_isChoiceSo.2.1 124 = .ok (.bipush 8, 2) := by decide +kernel
theorem d_LH_isChoiceSo_126 : decode m_LH_isChoiceSo.2.1 126 = .ok (.iload_n 2, 1) := by decide +kernel
theorem d_LH_isChoiceSo_127 : decode m_LH_isChoiceSo.2.1 127 = .ok (.iload_n 3, 1) := by decide +kernel
theorem d_LH_isChoiceSo_128 : decode m_LH_isChoiceSo.2.1 128 = .ok (.iload 4, 2) := by decide +kernel
theorem d_LH_isChoiceSo_130 : decode m_LH_isChoiceSo.2.1 130 = .ok (.iload 6, 2) := by decide +kernel
theorem d_LH_isChoiceSo_132 : decode m_LH_isChoiceSo.2.1 132 = .ok (.iconst 0, 1) := by decide +kernel
theorem d_LH_isChoiceSo_133 : decode m_LH_isChoiceSo.2.1 133 = .ok (.iconst 0, 1) := by decide +kernel
theorem d_LH_isChoiceSo_134 : decode m_LH_isChoiceSo.2.1 134 = .ok (.invokestatic 163, 3) := by decide +kernel
theorem d_LH_isChoiceSo_137 : decode m_LH_isChoiceSo.2.1 137 = .ok (.iconst 1, 1) := by decide +kernel
theorem d_LH_isChoiceSo_138 : decode m_LH_isChoiceSo.2.1 138 = .ok (.if_icmp .ne 38, 3) := by decide +kernel
theorem d_LH_isChoiceSo_141 : decode m_LH_isChoiceSo.2.1 141 = .ok (.aload_n 1, 1) := by decide +kernel
theorem d_LH_isChoiceSo_142 : decode m_LH_isChoiceSo.2.1 142 = .ok (.bipush 8, 2) := by decide +kernel
theorem d_LH_isChoiceSo_144 : decode m_LH_isChoiceSo.2.1 144 = .ok (.iload_n 2, 1) := by decide +kernel
theorem d_LH_isChoiceSo_145 : decode m_LH_isChoiceSo.2.1 145 = .ok (.iload_n 3, 1) := by decide +kernel
theorem d_LH_isChoiceSo_146 : decode m_LH_isChoiceSo.2.1 146 = .ok (.iload 4, 2) := by decide +kernel
theorem d_LH_isChoiceSo_148 : decode m_LH_isChoiceSo.2.1 148 = .ok (.iload 6, 2) := by decide +kernel
theorem d_LH_isChoiceSo_150 : decode m_LH_isChoiceSo.2.1 150 = .ok (.iconst 0, 1) := by decide +kernel
theorem d_LH_isChoiceSo_151 : decode m_LH_isChoiceSo.2.1 151 = .ok (.iconst 0, 1) := by decide +kernel
theorem d_LH_isChoiceSo_152 : decode m_LH_isChoiceSo.2.1 152 = .ok (.invokestatic 163, 3) := by decide +kernel
theorem d_LH_isChoiceSo_155 : decode m_LH_isChoiceSo.2.1 155 = .ok (.iconst 1, 1) := by decide +kernel
theorem d_LH_isChoiceSo_156 : decode m_LH_isChoiceSo.2.1 156 = .ok (.if_icmp .ne 20, 3) := by decide +kernel
theorem d_LH_isChoiceSo_159 : decode m_LH_isChoiceSo.2.1 159 = .ok (.aload_n 0, 1) := by decide +kernel
theorem d_LH_isChoiceSo_160 : decode m_LH_isChoiceSo.2.1 160 = .ok (.iload_n 2, 1) := by decide +kernel
theorem d_LH_isChoiceSo_161 : decode m_LH_isChoiceSo.2.1 161 = .ok (.iload_n 3, 1) := by decide +kernel
theorem d_LH_isChoiceSo_162 : decode m_LH_isChoiceSo.2.1 162 = .ok (.iload 4, 2) := by decide +kernel
theorem d_LH_isChoiceSo_164 : decode m_LH_isChoiceSo.2.1 164 = .ok (.invokevirtual 101, 3) := by decide +kernel
theorem d_LH_isChoiceSo_167 : decode m_LH_isChoiceSo.2.1 167 = .ok (.iload 6, 2) := by decide +kernel
theorem d_LH_isChoiceSo_169 : decode m_LH_isChoiceSo.2.1 169 = .ok (.if_icmp .ne 7, 3) := by decide +kernel
theorem d_LH_isChoiceSo_172 : decode m_LH_isChoiceSo.2.1 172 = .ok (.iconst 1, 1) := by decide +kernel
theorem d_LH_isChoiceSo_173 : decode m_LH_isChoiceSo.2.1 173 = .ok (.goto 4, 3) := by decide +kernel
theorem d_LH_isChoiceSo_176 : decode m_LH_isChoiceSo.2.1 176 = .ok (.iconst 0, 1) := by decide +kernel
theorem d_LH_isChoiceSo_177 : decode m_LH_isChoiceSo.2.1 177 = .ok (.ireturn, 1) := by decide +kernel
theorem d_LH_isActSo_0 : decode m_LH_isActSo.2.1 0 = .ok (.aload_n 0, 1) := by decide +kernel
theorem d_LH_isActSo_1 : decode m_LH_isActSo.2.1 1 = .ok (.invokevirtual 178, 3) := by decide +kernel
theorem d_LH_isActSo_4 : decode m_LH_isActSo.2.1 4 = .ok (.istore_n 3, 1) := by decide +kernel
theorem d_LH_isActSo_5 : decode m_LH_isActSo.2.1 5 = .ok (.aload_n 0, 1) := by decide +kernel
theorem d_LH_isActSo_6 : decode m_LH_isActSo.2.1 6 = .ok (.bipush 11, 2) := by decide +kernel
theorem d_LH_isActSo_8 : decode m_LH_isActSo.2.1 8 = .ok (.iload_n 2, 1) := by decide +kernel
theorem d_LH_isActSo_9 : decode m_LH_isActSo.2.1 9 = .ok (.iconst 0, 1) := by decide +kernel
theorem d_LH_isActSo_10 : decode m_LH_isActSo.2.1 10 = .ok (.iconst 0, 1) := by decide +kernel
theorem d_LH_isActSo_11 : decode m_LH_isActSo.2.1 11 = .ok (.invokestatic 159, 3) := by decide +kernel
theorem d_LH_isActSo_14 : decode m_LH_isActSo.2.1 14 = .ok (.istore 4, 2) := by decide +kernel
theorem d_LH_isActSo_16 : decode m_LH_isActSo.2.1 16 = .ok (.iload 4, 2) := by decide +kernel
theorem d_LH_isActSo_18 : decode m_LH_isActSo.2.1 18 = .ok (.ldc 57, 2) := by decide +kernel
theorem d_LH_isActSo_20 : decode m_LH_isActSo.2.1 20 = .ok (.if_icmp .ne 23, 3) := by decide +kernel
theorem d_LH_isActSo_23 : decode m_LH_isActSo.2.1 23 = .ok (.aload_n 1, 1) := by decide +kernel
theorem d_LH_isActSo_24 : decode m_LH_isActSo.2.1 24 = .ok (.bipush 11, 2) := by decide +kernel
theorem d_LH_isActSo_26 : decode m_LH_isActSo.2.1 26 = .ok (.iload_n 2, 1) := by decide +kernel
theorem d_LH_isActSo_27 : decode m_LH_isActSo.2.1 27 = .ok (.iconst 0, 1) := by decide +kernel
theorem d_LH_isActSo_28 : decode m_LH_isActSo.2.1 28 = .ok (.iconst 0, 1) := by decide +kernel
theorem d_LH_isActSo_29 : decode m_LH_isActSo.2.1 29 = .ok (.invokestatic 159, 3) := by decide +kernel
theorem d_LH_isActSo_32 : decode m_LH_isActSo.2.1 32 = .ok (.iload 4, 2) := by decide +kernel
theorem d_LH_isActSo_34 : decode m_LH_isActSo.2.1 34 = .ok (.if_icmp .ne 7, 3) := by decide +kernel
theorem d_LH_isActSo_37 : decode m_LH_isActSo.2.1 37 = .ok (.iconst 1, 1) := by decide +kernel
theorem d_LH_isActSo_38 : decode m_LH_isActSo.2.1 38 = .ok (.goto 4, 3) := by decide +kernel
theorem d_LH_isActSo_41 : decode m_LH_isActSo.2.1 41 = .ok (.iconst 0, 1) := by decide +kernel
theorem d_LH_isActSo_42 : decode m_LH_isActSo.2.1 42 = .ok (.ireturn, 1) := by decide +kernel
theorem d_LH_isActSo_43 : decode m_LH_isActSo.2.1 43 = .ok (.aload_n 0, 1) := by decide +kernel
theorem d_LH_isActSo_44 : decode m_LH_isActSo.2.1 44 = .ok (.invokevirtual 175, 3) := by decide +kernel
theorem d_LH_isActSo_47 : decode m_LH_isActSo.2.1 47 = .ok (.ifCond .ne 74, 3) := by decide +kernel
theorem d_LH_isActSo_50 : decode m_LH_isActSo.2.1 50 = .ok (.iload 4, 2) := by decide +kernel
theorem d_LH_isActSo_52 : decode m_LH_isActSo.2.1 52 = .ok (.iconst 1, 1) := by decide +kernel
theorem d_LH_isActSo_53 : decode m_LH_isActSo.2.1 53 = .ok (.if_icmp .ne 49, 3) := by decide +kernel
theorem d_LH_isActSo_56 : decode m_LH_isActSo.2.1 56 = .ok (.aload_n 0, 1) := by decide +kernel
theorem d_LH_isActSo_57 : decode m_LH_isActSo.2.1 57 = .ok (.invokevirtual 181, 3) := by decide +kernel
theorem d_LH_isActSo_60 : decode m_LH_isActSo.2.1 60 = .ok (.ifCond .ne 61, 3) := by decide +kernel
theorem d_LH_isActSo_63 : decode m_LH_isActSo.2.1 63 = .ok (.aload_n 0, 1) := by decide +kernel
theorem d_LH_isActSo_64 : decode m_LH_isActSo.2.1 64 = .ok (.invokevirtual 178, 3) := by decide +kernel
theorem d_LH_isActSo_67 : decode m_LH_isActSo.2.1 67 = .ok (.iload_n 3, 1) := by decide +kernel
theorem d_LH_isActSo_68 : decode m_LH_isActSo.2.1 68 = .ok (.iconst 5, 1) := by decide +kernel
theorem d_LH_isActSo_69 : decode m_LH_isActSo.2.1 69 = .ok (.if_icmp .ge 9, 3) := by decide +kernel
theorem d_LH_isActSo_72 : decode m_LH_isActSo.2.1 72 = .ok (.iload_n 3, 1) := by decide +kernel
theorem d_LH_isActSo_73 : decode m_LH_isActSo.2.1 73 = .ok (.iconst 1, 1) := by decide +kernel
theorem d_LH_isActSo_74 : decode m_LH_isActSo.2.1 74 = .ok (.iadd, 1) := by decide +kernel
theorem d_LH_isActSo_75 : decode m_LH_isActSo.2.1 75 = .ok (.goto 4, 3) := by decide +kernel
theorem d_LH_isActSo_78 : decode m_LH_isActSo.2.1 78 = .ok (.iconst 5, 1) := by decide +kernel
theorem d_LH_isActSo_79 : decode m_LH_isActSo.2.1 79 = .ok (.if_icmp .ne 42, 3) := by decide +kernel
theorem d_LH_isActSo_82 : decode m_LH_isActSo.2.1 82 = .ok (.aload_n 0, 1) := by decide +kernel
theorem d_LH_isActSo_83 : decode m_LH_isActSo.2.1 83 = .ok (.invokevirtual 48, 3) := by decide +kernel
theorem d_LH_isActSo_86 : decode m_LH_isActSo.2.1 86 = .ok (.iload_n 3, 1) := by decide +kernel
theorem d_LH_isActSo_87 : decode m_LH_isActSo.2.1 87 = .ok (.iconst 5, 1) := by decide +kernel
theorem d_LH_isActSo_88 : decode m_LH_isActSo.2.1 88 = .ok (.if_icmp .ge 7, 3) := by decide +kernel
theorem d_LH_isActSo_91 : decode m_LH_isActSo.2.1 91 = .ok (.iload_n 3, 1) := by decide +kernel
theorem d_LH_isActSo_92 : decode m_LH_isActSo.2.1 92 = .ok (.goto 4, 3) := by decide +kernel
theorem d_LH_isActSo_95 : decode m_LH_isActSo.2.1 95 = .ok (.iconst 4, 1) := by decide +kernel
theorem d_LH_isActSo_96 : decode m_LH_isActSo.2.1 96 = .ok (.if_icmp .ne 25, 3) := by decide +kernel
theorem d_LH_isActSo_99 : decode m_LH_isActSo.2.1 99 = .ok (.goto 18, 3) := by decide +kernel
theorem d_LH_isActSo_102 : decode m_LH_isActSo.2.1 102 = .ok (.aload_n 0, 1) := by decide +kernel
theorem d_LH_isActSo_103 : decode m_LH_isActSo.2.1 103 = .ok (.invokevirtual 181, 3) := by decide +kernel
theorem d_LH_isActSo_106 : decode m_LH_isActSo.2.1 106 = .ok (.ifCond .le 15, 3) := by decide +kernel
theorem d_LH_isActSo_109 : decode m_LH_isActSo.2.1 109 = .ok (.aload_n 0, 1) := by decide +kernel
theorem d_LH_isActSo_110 : decode m_LH_isActSo.2.1 110 = .ok (.invokevirtual 178, 3) := by decide +kernel
theorem d_LH_isActSo_113 : decode m_LH_isActSo.2.1 113 = .ok (.iload_n 3, 1) := by decide +kernel
theorem d_LH_isActSo_114 : decode m_LH_isActSo.2.1 114 = .ok (.if_icmp .ne 7, 3) := by decide +kernel
theorem d_LH_isActSo_117 : decode m_LH_isActSo.2.1 117 = .ok (.iconst 1, 1) := by decide +kernel
theorem d_LH_isActSo_118 : decode m_LH_isActSo.2.1 118 = .ok (.goto 4, 3) := by decide +kernel
theorem d_LH_isActSo_121 : decode m_LH_isActSo.2.1 121 = .ok (.iconst 0, 1) := by decide +kernel
theorem d_LH_isActSo_122 : decode m_LH_isActSo.2.1 122 = .ok (.istore 5, 2) := by decide +kernel
theorem d_LH_isActSo_124 : decode m_LH_isActSo.2.1 124 = .ok (.aload_n 1, 1) := by decide +kernel
theorem d_LH_isActSo_125 : decode m_LH_isActSo.2.1 125 = .ok (.bipush 11, 2) := by decide +kernel
theorem d_LH_isActSo_127 : decode m_LH_isActSo.2.1 127 = .ok (.iload_n 2, 1) := by decide +kernel
theorem d_LH_isActSo_128 : decode m_LH_isActSo.2.1 128 = .ok (.iconst 0, 1) := by decide +kernel
theorem d_LH_isActSo_129 : decode m_LH_isActSo.2.1 129 = .ok (.iconst 0, 1) := by decide +kernel
theorem d_LH_isActSo_130 : decode m_LH_isActSo.2.1 130 = .ok (.invokestatic 159, 3) := by decide +kernel
theorem d_LH_isActSo_133 : decode m_LH_isActSo.2.1 133 = .ok (.istore 6, 2) := by decide +kernel
theorem d_LH_isActSo_135 : decode m_LH_isActSo.2.1 135 = .ok (.iload 5, 2) := by decide +kernel
theorem d_LH_isActSo_137 : decode m_LH_isActSo.2.1 137 = .ok (.ifCond .eq 43, 3) := by decide +kernel
theorem d_LH_isActSo_140 : decode m_LH_isActSo.2.1 140 = .ok (.iload 6, 2) := by decide +kernel
theorem d_LH_isActSo_142 : decode m_LH_isActSo.2.1 142 = .ok (.iload 4, 2) := by decide +kernel
theorem d_LH_isActSo_144 : decode m_LH_isActSo.2.1 144 = .ok (.if_icmp .ne 36, 3) := by decide +kernel
theorem d_LH_isActSo_147 : decode m_LH_isActSo.2.1 147 = .ok (.iload 4, 2) := by decide +kernel
theorem d_LH_isActSo_149 : decode m_LH_isActSo.2.1 149 = .ok (.ifCond .eq 19, 3) := by decide +kernel
theorem d_LH_isActSo_152 : decode m_LH_isActSo.2.1 152 = .ok (.aload_n 1, 1) := by decide +kernel
theorem d_LH_isActSo_153 : decode m_LH_isActSo.2.1 153 = .ok (.bipush 10, 2) := by decide +kernel
theorem d_LH_isActSo_155 : decode m_LH_isActSo.2.1 155 = .ok (.iconst 0, 1) := by decide +kernel
theorem d_LH_isActSo_156 : decode m_LH_isActSo.2.1 156 = .ok (.iconst 0, 1) := by decide +kernel
theorem d_LH_isActSo_157 : decode m_LH_isActSo.2.1 157 = .ok (.iconst 0, 1) := by decide +kernel
theorem d_LH_isActSo_158 : decode m_LH_isActSo.2.1 158 = .ok (.invokestatic 159, 3) := by decide +kernel
theorem d_LH_isActSo_161 : decode m_LH_isActSo.2.1 161 = .ok (.aload_n 0, 1) := by decide +kernel
theorem d_LH_isActSo_162 : decode m_LH_isActSo.2.1 162 = .ok (.invokevirtual 178, 3) := by decide +kernel
theorem d_LH_isActSo_165 : decode m_LH_isActSo.2.1 165 = .ok (.if_icmp .ne 15, 3) := by decide +kernel
theorem d_LH_isActSo_168 : decode m_LH_isActSo.2.1 168 = .ok (.aload_n 0, 1) := by decide +kernel
theorem d_LH_isActSo_169 : decode m_LH_isActSo.2.1 169 = .ok (.aload_n 1, 1) := by decide +kernel
theorem d_LH_isActSo_170 : decode m_LH_isActSo.2.1 170 = .ok (.invokestatic 204, 3) := by decide +kernel
theorem d_LH_isActSo_173 : decode m_LH_isActSo.2.1 173 = .ok (.ifCond .eq 7, 3) := by decide +kernel
theorem d_LH_isActSo_176 : decode m_LH_isActSo.2.1 176 = .ok (.iconst 1, 1) := by decide +kernel
theorem d_LH_isActSo_177 : decode m_LH_isActSo.2.1 177 = .ok (.goto 4, 3) := by decide +kernel
theorem d_LH_isActSo_180 : decode m_LH_isActSo.2.1 180 = .ok (.iconst 0, 1) := by decide +kernel
theorem d_LH_isActSo_181 : decode m_LH_isActSo.2.1 181 = .ok (.ireturn, 1) := by decide +kernel
theorem d_LH_isLostSo_0 : decode m_LH_isLostSo.2.1 0 = .ok (.iload 4, 2) := by decide +kernel
theorem d_LH_isLostSo_2 : decode m_LH_isLostSo.2.1 2 = .ok (.bipush 12, 2) := by decide +kernel
theorem d_LH_isLostSo_4 : decode m_LH_isLostSo.2.1 4 = .ok (.invokestatic 156, 3) := by decide +kernel
theorem d_LH_isLostSo_7 : decode m_LH_isLostSo.2.1 7 = .ok (.istore 5, 2) := by decide +kernel
theorem d_LH_isLostSo_9 : decode m_LH_isLostSo.2.1 9 = .ok (.aload_n 0, 1) := by decide +kernel
theorem d_LH_isLostSo_10 : decode m_LH_isLostSo.2.1 10 = .ok (.bipush 11, 2) := by decide +kernel
theorem d_LH_isLostSo_12 : decode m_LH_isLostSo.2.1 12 = .ok (.iload_n 2, 1) := by decide +kernel
theorem d_LH_isLostSo_13 : decode m_LH_isLostSo.2.1 13 = .ok (.iload_n 3, 1) := by decide +kernel
theorem d_LH_isLostSo_14 : decode m_LH_isLostSo.2.1 14 = .ok (.iconst (-1), 1) := by decide +kernel
theorem d_LH_isLostSo_15 : decode m_LH_isLostSo.2.1 15 = .ok (.iload 5, 2) := by decide +kernel
theorem d_LH_isLostSo_17 : decode m_LH_isLostSo.2.1 17 = .ok (.iconst 0, 1) := by decide +kernel
theorem d_LH_isLostSo_18 : decode m_LH_isLostSo.2.1 18 = .ok (.iconst 0, 1) := by decide +kernel
theorem d_LH_isLostSo_19 : decode m_LH_isLostSo.2.1 19 = .ok (.invokestatic 163, 3) := by decide +kernel
theorem d_LH_isLostSo_22 : decode m_LH_isLostSo.2.1 22 = .ok (.istore 6, 2) := by decide +kernel
theorem d_LH_isLostSo_24 : decode m_LH_isLostSo.2.1 24 = .ok (.aload_n 0, 1) := by decide +kernel
theorem d_LH_isLostSo_25 : decode m_LH_isLostSo.2.1 25 = .ok (.iconst 4, 1) := by decide +kernel
theorem d_LH_isLostSo_26 : decode m_LH_isLostSo.2.1 26 = .ok (.iload_n 2, 1) := by decide +kernel
theorem d_LH_isLostSo_27 : decode m_LH_isLostSo.2.1 27 = .ok (.iload_n 3, 1) := by decide +kernel
theorem d_LH_isLostSo_28 : decode m_LH_isLostSo.2.1 28 = .ok (.iconst (-1), 1) := by decide +kernel
theorem d_LH_isLostSo_29 : decode m_LH_isLostSo.2.1 29 = .ok (.iload 5, 2) := by decide +kernel
theorem d_LH_isLostSo_31 : decode m_LH_isLostSo.2.1 31 = .ok (.iconst 0, 1) := by decide +kernel
theorem d_LH_isLostSo_32 : decode m_LH_isLostSo.2.1 32 = .ok (.iconst 0, 1) := by decide +kernel
theorem d_LH_isLostSo_33 : decode m_LH_isLostSo.2.1 33 = .ok (.invokestatic 163, 3) := by decide +kernel
theorem d_LH_isLostSo_36 : decode m_LH_isLostSo.2.1 36 = .ok (.istore 7, 2) := by decide +kernel
theorem d_LH_isLostSo_38 : decode m_LH_isLostSo.2.1 38 = .ok (.aload_n 1, 1) := by decide +kernel
theorem d_LH_isLostSo_39 : decode m_LH_isLostSo.2.1 39 = .ok (.iconst 4, 1) := by decide +kernel
theorem d_LH_isLostSo_40 : decode m_LH_isLostSo.2.1 40 = .ok (.iload_n 2, 1) := by decide +kernel
theorem d_LH_isLostSo_41 : decode m_LH_isLostSo.2.1 41 = .ok (.iload_n 3, 1) := by decide +kernel
theorem d_LH_isLostSo_42 : decode m_LH_isLostSo.2.1 42 = .ok (.iconst (-1), 1) := by decide +kernel
theorem d_LH_isLostSo_43 : decode m_LH_isLostSo.2.1 43 = .ok (.iload 5, 2) := by decide +kernel
theorem d_LH_isLostSo_45 : decode m_LH_isLostSo.2.1 45 = .ok (.iconst 0, 1) := by decide +kernel
theorem d_LH_isLostSo_46 : decode m_LH_isLostSo.2.1 46 = .ok (.iconst 0, 1) := by decide +kernel
theorem d_LH_isLostSo_47 : decode m_LH_isLostSo.2.1 47 = .ok (.invokestatic 163, 3) := by decide +kernel
theorem d_LH_isLostSo_50 : decode m_LH_isLostSo.2.1 50 = .ok (.iload 7, 2) := by decide +kernel
theorem d_LH_isLostSo_52 : decode m_LH_isLostSo.2.1 52 = .ok (.if_icmp .ne 79, 3) := by decide +kernel
theorem d_LH_isLostSo_55 : decode m_LH_isLostSo.2.1 55 = .ok (.iload 6, 2) := by decide +kernel
theorem d_LH_isLostSo_57 : decode m_LH_isLostSo.2.1 57 = .ok (.ldc 57, 2) := by decide +kernel
theorem d_LH_isLostSo_59 : decode m_LH_isLostSo.2.1 59 = .ok (.if_icmp .ne 7, 3) := by decide +kernel
theorem d_LH_isLostSo_62 : decode m_LH_isLostSo.2.1 62 = .ok (.iconst 1, 1) := by decide +kernel
theorem d_LH_isLostSo_63 : decode m_LH_isLostSo.2.1 63 = .ok (.goto 4, 3) := by decide +kernel
theorem d_LH_isLostSo_66 : decode m_LH_isLostSo.2.1 66 = .ok (.iconst 0, 1) := by decide +kernel
theorem d_LH_isLostSo_67 : decode m_LH_isLostSo.2.1 67 = .ok (.iload 7, 2) := by decide +kernel
theorem d_LH_isLostSo_69 : decode m_LH_isLostSo.2.1 69 = .ok (.ldc 57, 2) := by decide +kernel
theorem d_LH_isLostSo_71 : decode m_LH_isLostSo.2.1 71 = .ok (.if_icmp .ne 7, 3) := by decide +kernel
theorem d_LH_isLostSo_74 : decode m_LH_isLostSo.2.1 74 = .ok (.iconst 1, 1) := by decide +kernel
theorem d_LH_isLostSo_75 : decode m_LH_isLostSo.2.1 75 = .ok (.goto 4, 3) := by decide +kernel
theorem d_LH_isLostSo_78 : decode m_LH_isLostSo.2.1 78 = .ok (.iconst 0, 1) := by decide +kernel
theorem d_LH_isLostSo_79 : decode m_LH_isLostSo.2.1 79 = .ok (.if_icmp .ne 52, 3) := by decide +kernel
theorem d_LH_isLostSo_82 : decode m_LH_isLostSo.2.1 82 = .ok (.iload 7, 2) := by decide +kernel
theorem d_LH_isLostSo_84 : decode m_LH_isLostSo.2.1 84 = .ok (.iconst 1, 1) := by decide +kernel
theorem d_LH_isLostSo_85 : decode m_LH_isLostSo.2.1 85 = .ok (.if_icmp .ne 19, 3) := by decide +kernel
theorem d_LH_isLostSo_88 : decode m_LH_isLostSo.2.1 88 = .ok (.aload_n 0, 1) := by decide +kernel
theorem d_LH_isLostSo_89 : decode m_LH_isLostSo.2.1 89 = .ok (.bipush 11, 2) := by decide +kernel
theorem d_LH_isLostSo_91 : decode m_LH_isLostSo.2.1 91 = .ok (.iload_n 2, 1) := by decide +kernel
theorem d_LH_isLostSo_92 : decode m_LH_isLostSo.2.1 92 = .ok (.iload_n 3, 1) := by decide +kernel
theorem d_LH_isLostSo_93 : decode m_LH_isLostSo.2.1 93 = .ok (.iconst (-1), 1) := by decide +kernel
theorem d_LH_isLostSo_94 : decode m_LH_isLostSo.2.1 94 = .ok (.iload 5, 2) := by decide +kernel
theorem d_LH_isLostSo_96 : decode m_LH_isLostSo.2.1 96 = .ok (.iconst 0, 1) := by decide +kernel
theorem d_LH_isLostSo_97 : decode m_LH_isLostSo.2.1 97 = .ok (.iconst 0, 1) := by decide +kernel
theorem d_LH_isLostSo_98 : decode m_LH_isLostSo.2.1 98 = .ok (.invokestatic 163, 3) := by decide +kernel
theorem d_LH_isLostSo_101 : decode m_LH_isLostSo.2.1 101 = .ok (.ifCond .ne 30, 3) := by decide +kernel
theorem d_LH_isLostSo_104 : decode m_LH_isLostSo.2.1 104 = .ok (.iload 7, 2) := by decide +kernel
theorem d_LH_isLostSo_106 : decode m_LH_isLostSo.2.1 106 = .ok (.ifCond .ne 21, 3) := by decide +kernel
theorem d_LH_isLostSo_109 : decode m_LH_isLostSo.2.1 109 = .ok (.aload_n 0, 1) := by decide +kernel
theorem d_LH_isLostSo_110 : decode m_LH_isLostSo.2.1 110 = .ok (.bipush 11, 2) := by decide +kernel
theorem d_LH_isLostSo_112 : decode m_LH_isLostSo.2.1 112 = .ok (.iload_n 2, 1) := by decide +kernel
theorem d_LH_isLostSo_113 : decode m_LH_isLostSo.2.1 113 = .ok (.iload_n 3, 1) := by decide +kernel
theorem d_LH_isLostSo_114 : decode m_LH_isLostSo.2.1 114 = .ok (.iconst (-1), 1) := by decide +kernel
theorem d_LH_isLostSo_115 : decode m_LH_isLostSo.2.1 115 = .ok (.iload 5, 2) := by decide +kernel
theorem d_LH_isLostSo_117 : decode m_LH_isLostSo.2.1 117 = .ok (.iconst 0, 1) := by decide +kernel
theorem d_LH_isLostSo_118 : decode m_LH_isLostSo.2.1 118 = .ok (.iconst 0, 1) := by decide +kernel
theorem d_LH_isLostSo_119 : decode m_LH_isLostSo.2.1 119 = .ok (.invokestatic 163, 3) := by decide +kernel
theorem d_LH_isLostSo_122 : decode m_LH_isLostSo.2.1 122 = .ok (.iload 6, 2) := by decide +kernel
theorem d_LH_isLostSo_124 : decode m_LH_isLostSo.2.1 124 = .ok (.if_icmp .ne 7, 3) := by decide +kernel
theorem d_LH_isLostSo_127 : decode m_LH_isLostSo.2.1 127 = .ok (.iconst 1, 1) := by decide +kernel
theorem d_LH_isLostSo_128 : decode m_LH_isLostSo.2.1 128 = .ok (.goto 4, 3) := by decide +kernel
theorem d_LH_isLostSo_131 : decode m_LH_isLostSo.2.1 131 = .ok (.iconst 0, 1) := by decide +kernel
theorem d_LH_isLostSo_132 : decode m_LH_isLostSo.2.1 132 = .ok (.istore 8, 2) := by decide +kernel
theorem d_LH_isLostSo_134 : decode m_LH_isLostSo.2.1 134 = .ok (.iload 4, 2) := by decide +kernel
theorem d_LH_isLostSo_136 : decode m_LH_isLostSo.2.1 136 = .ok (.iconst 5, 1) := by decide +kernel
theorem d_LH_isLostSo_137 : decode m_LH_isLostSo.2.1 137 = .ok (.ishr, 1) := by decide +kernel
theorem d_LH_isLostSo_138 : decode m_LH_isLostSo.2.1 138 = .ok (.iconst 3, 1) := by decide +kernel
theorem d_LH_isLostSo_139 : decode m_LH_isLostSo.2.1 139 = .ok (.iand, 1) := by decide +kernel
theorem d_LH_isLostSo_140 : decode m_LH_isLostSo.2.1 140 = .ok (.ifCond .le 6, 3) := by decide +kernel
theorem d_LH_isLostSo_143 : decode m_LH_isLostSo.2.1 143 = .ok (.iload 8, 2) := by decide +kernel
theorem d_LH_isLostSo_145 : decode m_LH_isLostSo.2.1 145 = .ok (.ireturn, 1) := by decide +kernel
theorem d_LH_isLostSo_146 : decode m_LH_isLostSo.2.1 146 = .ok (.aload_n 0, 1) := by decide +kernel
theorem d_LH_isLostSo_147 : decode m_LH_isLostSo.2.1 147 = .ok (.bipush 12, 2) := by decide +kernel
theorem d_LH_isLostSo_149 : decode m_LH_isLostSo.2.1 149 = .ok (.iload_n 2, 1) := by decide +kernel
theorem d_LH_isLostSo_150 : decode m_LH_isLostSo.2.1 150 = .ok (.iload_n 3, 1) := by decide +kernel
theorem d_LH_isLostSo_151 : decode m_LH_isLostSo.2.1 151 = .ok (.iconst 0, 1) := by decide +kernel
theorem d_LH_isLostSo_152 : decode m_LH_isLostSo.2.1 152 = .ok (.iconst 0, 1) := by decide +kernel
theorem d_LH_isLostSo_153 : decode m_LH_isLostSo.2.1 153 = .ok (.iconst 0, 1) := by decide +kernel
theorem d_LH_isLostSo_154 : decode m_LH_isLostSo.2.1 154 = .ok (.iconst 0, 1) := by decide +kernel
theorem d_LH_isLostSo_155 : decode m_LH_isLostSo.2.1 155 = .ok (.invokestatic 163, 3) := by decide +kernel
theorem d_LH_isLostSo_158 : decode m_LH_isLostSo.2.1 158 = .ok (.istore 9, 2) := by decide +kernel
theorem d_LH_isLostSo_160 : decode m_LH_isLostSo.2.1 160 = .ok (.aload_n 0, 1) := by decide +kernel
theorem d_LH_isLostSo_161 : decode m_LH_isLostSo.2.1 161 = .ok (.iconst 5, 1) := by decide +kernel
theorem d_LH_isLostSo_162 : decode m_LH_isLostSo.2.1 162 = .ok (.iload_n 2, 1) := by decide +kernel
theorem d_LH_isLostSo_163 : decode m_LH_isLostSo.2.1 163 = .ok (.iload_n 3, 1) := by decide +kernel
theorem d_LH_isLostSo_164 : decode m_LH_isLostSo.2.1 164 = .ok (.iconst 0, 1) := by decide +kernel
theorem d_LH_isLostSo_165 : decode m_LH_isLostSo.2.1 165 = .ok (.iconst 0, 1) := by decide +kernel
theorem d_LH_isLostSo_166 : decode m_LH_isLostSo.2.1 166 = .ok (.iconst 0, 1) := by decide +kernel
theorem d_LH_isLostSo_167 : decode m_LH_isLostSo.2.1 167 = .ok (.iconst 0, 1) := by decide +kernel
theorem d_LH_isLostSo_168 : decode m_LH_isLostSo.2.1 168 = .ok (.invokestatic 163, 3) := by decide +kernel
theorem d_LH_isLostSo_171 : decode m_LH_isLostSo.2.1 171 = .ok (.istore 10, 2) := by decide +kernel
theorem d_LH_isLostSo_173 : decode m_LH_isLostSo.2.1 173 = .ok (.iload 8, 2) := by decide +kernel
theorem d_LH_isLostSo_175 : decode m_LH_isLostSo.2.1 175 = .ok (.ifCond .eq 75, 3) := by decide +kernel
theorem d_LH_isLostSo_178 : decode m_LH_isLostSo.2.1 178 = .ok (.aload_n 1, 1) := by decide +kernel
theorem d_LH_isLostSo_179 : decode m_LH_isLostSo.2.1 179 = .ok (.iconst 5, 1) := by decide +kernel
theorem d_LH_isLostSo_180 : decode m_LH_isLostSo.2.1 180 = .ok (.iload_n 2, 1) := by decide +kernel
theorem d_LH_isLostSo_181 : decode m_LH_isLostSo.2.1 181 = .ok (.iload_n 3, 1) := by decide +kernel
theorem d_LH_isLostSo_182 : decode m_LH_isLostSo.2.1 182 = .ok (.iconst 0, 1) := by decide +kernel
theorem d_LH_isLostSo_183 : decode m_LH_isLostSo.2.1 183 = .ok (.iconst 0, 1) := by decide +kernel
theorem d_LH_isLostSo_184 : decode m_LH_isLostSo.2.1 184 = .ok (.iconst 0, 1) := by decide +kernel
theorem d_LH_isLostSo_185 : decode m_LH_isLostSo.2.1 185 = .ok (.iconst 0, 1) := by decide +kernel
theorem d_LH_isLostSo_186 : decode m_LH_isLostSo.2.1 186 = .ok (.invokestatic 163, 3) := by decide +kernel
theorem d_LH_isLostSo_189 : decode m_LH_isLostSo.2.1 189 = .ok (.iload 10, 2) := by decide +kernel
theorem d_LH_isLostSo_191 : decode m_LH_isLostSo.2.1 191 = .ok (.if_icmp .ne 59, 3) := by decide +kernel
theorem d_LH_isLostSo_194 : decode m_LH_isLostSo.2.1 194 = .ok (.iload 10, 2) := by decide +kernel
theorem d_LH_isLostSo_196 : decode m_LH_isLostSo.2.1 196 = .ok (.iconst 1, 1) := by decide +kernel
theorem d_LH_isLostSo_197 : decode m_LH_isLostSo.2.1 197 = .ok (.if_icmp .ne 18, 3) := by decide +kernel
theorem d_LH_isLostSo_200 : decode m_LH_isLostSo.2.1 200 = .ok (.aload_n 0, 1) := by decide +kernel
theorem d_LH_isLostSo_201 : decode m_LH_isLostSo.2.1 201 = .ok (.bipush 12, 2) := by decide +kernel
theorem d_LH_isLostSo_203 : decode m_LH_isLostSo.2.1 203 = .ok (.iload_n 2, 1) := by decide +kernel
theorem d_LH_isLostSo_204 : decode m_LH_isLostSo.2.1 204 = .ok (.iload_n 3, 1) := by decide +kernel
theorem d_LH_isLostSo_205 : decode m_LH_isLostSo.2.1 205 = .ok (.iconst 0, 1) := by decide +kernel
theorem d_LH_isLostSo_206 : decode m_LH_isLostSo.2.1 206 = .ok (.iconst 0, 1) := by decide +kernel
theorem d_LH_isLostSo_207 : decode m_LH_isLostSo.2.1 207 = .ok (.iconst 0, 1) := by decide +kernel
theorem d_LH_isLostSo_208 : decode m_LH_isLostSo.2.1 208 = .ok (.iconst 0, 1) := by decide +kernel
theorem d_LH_isLostSo_209 : decode m_LH_isLostSo.2.1 209 = .ok (.invokestatic 163, 3) := by decide +kernel
theorem d_LH_isLostSo_212 : decode m_LH_isLostSo.2.1 212 = .ok (.ifCond .ne 38, 3) := by decide +kernel
theorem d_LH_isLostSo_215 : decode m_LH_isLostSo.2.1 215 = .ok (.iload 10, 2) := by decide +kernel
theorem d_LH_isLostSo_217 : decode m_LH_isLostSo.2.1 217 = .ok (.ifCond .ne 29, 3) := by decide +kernel
theorem d_LH_isLostSo_220 : decode m_LH_isLostSo.2.1 220 = .ok (.aload_n 0, 1) := by decide +kernel
theorem d_LH_isLostSo_221 : decode m_LH_isLostSo.2.1 221 = .ok (.bipush 12, 2) := by decide +kernel
theorem d_LH_isLostSo_223 : decode m_LH_isLostSo.2.1 223 = .ok (.iload_n 2, 1) := by decide +kernel
theorem d_LH_isLostSo_224 : decode m_LH_isLostSo.2.1 224 = .ok (.iload_n 3, 1) := by decide +kernel
theorem d_LH_isLostSo_225 : decode m_LH_isLostSo.2.1 225 = .ok (.iconst 0, 1) := by decide +kernel
theorem d_LH_isLostSo_226 : decode m_LH_isLostSo.2.1 226 = .ok (.iconst 0, 1) := by decide +kernel
theorem d_LH_isLostSo_227 : decode m_LH_isLostSo.2.1 227 = .ok (.iconst 0, 1) := by decide +kernel
theorem d_LH_isLostSo_228 : decode m_LH_isLostSo.2.1 228 = .ok (.iconst 0, 1) := by decide +kernel
theorem d_LH_isLostSo_229 : decode m_LH_isLostSo.2.1 229 = .ok (.invokestatic 163, 3) := by decide +kernel
theorem d_LH_isLostSo_232 : decode m_LH_isLostSo.2.1 232 = .ok (.iload 9, 2) := by decide +kernel
theorem d_LH_isLostSo_234 : decode m_LH_isLostSo.2.1 234 = .ok (.if_icmp .ne 16, 3) := by decide +kernel
theorem d_LH_isLostSo_237 : decode m_LH_isLostSo.2.1 237 = .ok (.aload_n 0, 1) := by decide +kernel
theorem d_LH_isLostSo_238 : decode m_LH_isLostSo.2.1 238 = .ok (.invokevirtual 181, 3) := by decide +kernel
theorem d_LH_isLostSo_241 : decode m_LH_isLostSo.2.1 241 = .ok (.bipush 8, 2) := by decide +kernel
theorem d_LH_isLostSo_243 : decode m_LH_isLostSo.2.1 243 = .ok (.if_icmp .ne 7, 3) := by decide +kernel
theorem d_LH_isLostSo_246 : decode m_LH_isLostSo.2.1 246 = .ok (.iconst 1, 1) := by decide +kernel
theorem d_LH_isLostSo_247 : decode m_LH_isLostSo.2.1 247 = .ok (.goto 4, 3) := by decide +kernel
theorem d_LH_isLostSo_250 : decode m_LH_isLostSo.2.1 250 = .ok (.iconst 0, 1) := by decide +kernel
theorem d_LH_isLostSo_251 : decode m_LH_isLostSo.2.1 251 = .ok (.ireturn, 1) := by decide +kernel
theorem d_LH_isBegun_0 : decode m_LH_isBegun.2.1 0 = .ok (.aload_n 0, 1) := by decide +kernel
theorem d_LH_isBegun_1 : decode m_LH_isBegun.2.1 1 = .ok (.invokevirtual 8, 3) := by decide +kernel
theorem d_LH_isBegun_4 : decode m_LH_isBegun.2.1 4 = .ok (.ifCond .ne 143, 3) := by decide +kernel
theorem d_LH_isBegun_7 : decode m_LH_isBegun.2.1 7 = .ok (.aload_n 0, 1) := by decide +kernel
theorem d_LH_isBegun_8 : decode m_LH_isBegun.2.1 8 = .ok (.invokevirtual 8, 3) := by decide +kernel
theorem d_LH_isBegun_11 : decode m_LH_isBegun.2.1 11 = .ok (.iconst 1, 1) := by decide +kernel
theorem d_LH_isBegun_12 : decode m_LH_isBegun.2.1 12 = .ok (.if_icmp .ne 135, 3) := by decide +kernel
theorem d_LH_isBegun_15 : decode m_LH_isBegun.2.1 15 = .ok (.aload_n 0, 1) := by decide +kernel
theorem d_LH_isBegun_16 : decode m_LH_isBegun.2.1 16 = .ok (.invokevirtual 8, 3) := by decide +kernel
theorem d_LH_isBegun_19 : decode m_LH_isBegun.2.1 19 = .ok (.iconst 2, 1) := by decide +kernel
theorem d_LH_isBegun_20 : decode m_LH_isBegun.2.1 20 = .ok (.if_icmp .ne 127, 3) := by decide +kernel
theorem d_LH_isBegun_23 : decode m_LH_isBegun.2.1 23 = .ok (.aload_n 0, 1) := by decide +kernel
theorem d_LH_isBegun_24 : decode m_LH_isBegun.2.1 24 = .ok (.iconst 0, 1) := by decide +kernel
theorem d_LH_isBegun_25 : decode m_LH_isBegun.2.1 25 = .ok (.bipush (-2), 2) := by decide +kernel
theorem d_LH_isBegun_27 : decode m_LH_isBegun.2.1 27 = .ok (.bipush 14, 2) := by decide +kernel
theorem d_LH_isBegun_29 : decode m_LH_isBegun.2.1 29 = .ok (.invokevirtual 14, 3) := by decide +kernel
theorem d_LH_isBegun_32 : decode m_LH_isBegun.2.1 32 = .ok (.ifCond .ne 115, 3) := by decide +kernel
theorem d_LH_isBegun_35 : decode m_LH_isBegun.2.1 35 = .ok (.aload_n 0, 1) := by decide +kernel
theorem d_LH_isBegun_36 : decode m_LH_isBegun.2.1 36 = .ok (.iconst 0, 1) := by decide +kernel
theorem d_LH_isBegun_37 : decode m_LH_isBegun.2.1 37 = .ok (.iconst 1, 1) := by decide +kernel
theorem d_LH_isBegun_38 : decode m_LH_isBegun.2.1 38 = .ok (.iconst 2, 1) := by decide +kernel
theorem d_LH_isBegun_39 : decode m_LH_isBegun.2.1 39 = .ok (.invokevirtual 18, 3) := by decide +kernel
theorem d_LH_isBegun_42 : decode m_LH_isBegun.2.1 42 = .ok (.iconst 1, 1) := by decide +kernel
theorem d_LH_isBegun_43 : decode m_LH_isBegun.2.1 43 = .ok (.if_icmp .ne 104, 3) := by decide +kernel
theorem d_LH_isBegun_46 : decode m_LH_isBegun.2.1 46 = .ok (.aload_n 0, 1) := by decide +kernel
theorem d_LH_isBegun_47 : decode m_LH_isBegun.2.1 47 = .ok (.iconst 1, 1) := by decide +kernel
theorem d_LH_isBegun_48 : decode m_LH_isBegun.2.1 48 = .ok (.bipush (-2), 2) := by decide +kernel
theorem d_LH_isBegun_50 : decode m_LH_isBegun.2.1 50 = .ok (.bipush 14, 2) := by decide +kernel
theorem d_LH_isBegun_52 : decode m_LH_isBegun.2.1 52 = .ok (.invokevirtual 14, 3) := by decide +kernel
theorem d_LH_isBegun_55 : decode m_LH_isBegun.2.1 55 = .ok (.ifCond .ne 92, 3) := by decide +kernel
theorem d_LH_isBegun_58 : decode m_LH_isBegun.2.1 58 = .ok (.aload_n 0, 1) := by decide +kernel
theorem d_LH_isBegun_59 : decode m_LH_isBegun.2.1 59 = .ok (.iconst 1, 1) := by decide +kernel
theorem d_LH_isBegun_60 : decode m_LH_isBegun.2.1 60 = .ok (.iconst 0, 1) := by decide +kernel
theorem d_LH_isBegun_61 : decode m_LH_isBegun.2.1 61 = .ok (.iconst 1, 1) := by decide +kernel
theorem d_LH_isBegun_62 : decode m_LH_isBegun.2.1 62 = .ok (.invokevirtual 18, 3) := by decide +kernel
theorem d_LH_isBegun_65 : decode m_LH_isBegun.2.1 65 = .ok (.iconst 1, 1) := by decide +kernel
theorem d_LH_isBegun_66 : decode m_LH_isBegun.2.1 66 = .ok (.if_icmp .ne 81, 3) := by decide +kernel
theorem d_LH_isBegun_69 : decode m_LH_isBegun.2.1 69 = .ok (.aload_n 0, 1) := by decide +kernel
theorem d_LH_isBegun_70 : decode m_LH_isBegun.2.1 70 = .ok (.iconst 1, 1) := by decide +kernel
theorem d_LH_isBegun_71 : decode m_LH_isBegun.2.1 71 = .ok (.iconst 3, 1) := by decide +kernel
theorem d_LH_isBegun_72 : decode m_LH_isBegun.2.1 72 = .ok (.iconst 1, 1) := by decide +kernel
theorem d_LH_isBegun_73 : decode m_LH_isBegun.2.1 73 = .ok (.iconst 0, 1) := by decide +kernel
theorem d_LH_isBegun_74 : decode m_LH_isBegun.2.1 74 = .ok (.iconst 0, 1) := by decide +kernel
theorem d_LH_isBegun_75 : decode m_LH_isBegun.2.1 75 = .ok (.invokevirtual 66, 3) := by decide +kernel
theorem d_LH_isBegun_78 : decode m_LH_isBegun.2.1 78 = .ok (.iconst 2, 1) := by decide +kernel
theorem d_LH_isBegun_79 : decode m_LH_isBegun.2.1 79 = .ok (.if_icmp .ne 68, 3) := by decide +kernel
theorem d_LH_isBegun_82 : decode m_LH_isBegun.2.1 82 = .ok (.aload_n 0, 1) := by decide +kernel
theorem d_LH_isBegun_83 : decode m_LH_isBegun.2.1 83 = .ok (.iconst 2, 1) := by decide +kernel
theorem d_LH_isBegun_84 : decode m_LH_isBegun.2.1 84 = .ok (.iconst 0, 1) := by decide +kernel
theorem d_LH_isBegun_85 : decode m_LH_isBegun.2.1 85 = .ok (.bipush 9, 2) := by decide +kernel
theorem d_LH_isBegun_87 : decode m_LH_isBegun.2.1 87 = .ok (.invokevirtual 14, 3) := by decide +kernel
theorem d_LH_isBegun_90 : decode m_LH_isBegun.2.1 90 = .ok (.ifCond .ne 57, 3) := by decide +kernel
theorem d_LH_isBegun_93 : decode m_LH_isBegun.2.1 93 = .ok (.aload_n 0, 1) := by decide +kernel
theorem d_LH_isBegun_94 : decode m_LH_isBegun.2.1 94 = .ok (.iconst 0, 1) := by decide +kernel
theorem d_LH_isBegun_95 : decode m_LH_isBegun.2.1 95 = .ok (.iconst (-1), 1) := by decide +kernel
theorem d_LH_isBegun_96 : decode m_LH_isBegun.2.1 96 = .ok (.invokevirtual 110, 3) := by decide +kernel
theorem d_LH_isBegun_99 : decode m_LH_isBegun.2.1 99 = .ok (.ifCond .ne 48, 3) := by decide +kernel
theorem d_LH_isBegun_102 : decode m_LH_isBegun.2.1 102 = .ok (.aload_n 0, 1) := by decide +kernel
theorem d_LH_isBegun_103 : decode m_LH_isBegun.2.1 103 = .ok (.iconst 0, 1) := by decide +kernel
theorem d_LH_isBegun_104 : decode m_LH_isBegun.2.1 104 = .ok (.iconst 1, 1) := by decide +kernel
theorem d_LH_isBegun_105 : decode m_LH_isBegun.2.1 105 = .ok (.invokevirtual 110, 3) := by decide +kernel
theorem d_LH_isBegun_108 : decode m_LH_isBegun.2.1 108 = .ok (.iconst 1, 1) := by decide +kernel
theorem d_LH_isBegun_109 : decode m_LH_isBegun.2.1 109 = .ok (.if_icmp .ne 38, 3) := by decide +kernel
theorem d_LH_isBegun_112 : decode m_LH_isBegun.2.1 112 = .ok (.aload_n 0, 1) := by decide +kernel
theorem d_LH_isBegun_113 : decode m_LH_isBegun.2.1 113 = .ok (.bipush 10, 2) := by decide +kernel
theorem d_LH_isBegun_115 : decode m_LH_isBegun.2.1 115 = .ok (.iconst 1, 1) := by decide +kernel
theorem d_LH_isBegun_116 : decode m_LH_isBegun.2.1 116 = .ok (.iconst 0, 1) := by decide +kernel
theorem d_LH_isBegun_117 : decode m_LH_isBegun.2.1 117 = .ok (.invokevirtual 116, 3) := by decide +kernel
theorem d_LH_isBegun_120 : decode m_LH_isBegun.2.1 120 = .ok (.iconst 2, 1) := by decide +kernel
theorem d_LH_isBegun_121 : decode m_LH_isBegun.2.1 121 = .ok (.if_icmp .ne 26, 3) := by decide +kernel
theorem d_LH_isBegun_124 : decode m_LH_isBegun.2.1 124 = .ok (.aload_n 0, 1) := by decide +kernel
theorem d_LH_isBegun_125 : decode m_LH_isBegun.2.1 125 = .ok (.invokevirtual 21, 3) := by decide +kernel
theorem d_LH_isBegun_128 : decode m_LH_isBegun.2.1 128 = .ok (.ifCond .ne 19, 3) := by decide +kernel
theorem d_LH_isBegun_131 : decode m_LH_isBegun.2.1 131 = .ok (.aload_n 0, 1) := by decide +kernel
theorem d_LH_isBegun_132 : decode m_LH_isBegun.2.1 132 = .ok (.iconst 0, 1) := by decide +kernel
theorem d_LH_isBegun_133 : decode m_LH_isBegun.2.1 133 = .ok (.iconst 0, 1) := by decide +kernel
theorem d_LH_isBegun_134 : decode m_LH_isBegun.2.1 134 = .ok (.iconst 0, 1) := by decide +kernel
theorem d_LH_isBegun_135 : decode m_LH_isBegun.2.1 135 = .ok (.iconst 3, 1) := by decide +kernel
theorem d_LH_isBegun_136 : decode m_LH_isBegun.2.1 136 = .ok (.invokevirtual 131, 3) := by decide +kernel
theorem d_LH_isBegun_139 : decode m_LH_isBegun.2.1 139 = .ok (.iconst 1, 1) := by decide +kernel
theorem d_LH_isBegun_140 : decode m_LH_isBegun.2.1 140 = .ok (.if_icmp .ne 7, 3) := by decide +kernel
theorem d_LH_isBegun_143 : decode m_LH_isBegun.2.1 143 = .ok (.iconst 1, 1) := by decide +kernel
theorem d_LH_isBegun_144 : decode m_LH_isBegun.2.1 144 = .ok (.goto 4, 3) := by decide +kernel
theorem d_LH_isBegun_147 : decode m_LH_isBegun.2.1 147 = .ok (.iconst 0, 1) := by decide +kernel
theorem d_LH_isBegun_148 : decode m_LH_isBegun.2.1 148 = .ok (.ireturn, 1) := by decide +kernel

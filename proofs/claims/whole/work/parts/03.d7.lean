theorem d_MO_isSource_0 : decode m_MO_isSource.2.1 0 = .ok (.aload_n 0, 1) := by decide +kernel
theorem d_MO_isSource_1 : decode m_MO_isSource.2.1 1 = .ok (.iload_n 1, 1) := by decide +kernel
theorem d_MO_isSource_2 : decode m_MO_isSource.2.1 2 = .ok (.invokevirtual 201, 3) := by decide +kernel
theorem d_MO_isSource_5 : decode m_MO_isSource.2.1 5 = .ok (.ifCond .ne 14, 3) := by decide +kernel
theorem d_MO_isSource_8 : decode m_MO_isSource.2.1 8 = .ok (.aload_n 0, 1) := by decide +kernel
theorem d_MO_isSource_9 : decode m_MO_isSource.2.1 9 = .ok (.iload_n 1, 1) := by decide +kernel
theorem d_MO_isSource_10 : decode m_MO_isSource.2.1 10 = .ok (.bipush 10, 2) := by decide +kernel
theorem d_MO_isSource_12 : decode m_MO_isSource.2.1 12 = .ok (.isub, 1) := by decide +kernel
theorem d_MO_isSource_13 : decode m_MO_isSource.2.1 13 = .ok (.invokevirtual 426, 3) := by decide +kernel
theorem d_MO_isSource_16 : decode m_MO_isSource.2.1 16 = .ok (.ifCond .eq 7, 3) := by decide +kernel
theorem d_MO_isSource_19 : decode m_MO_isSource.2.1 19 = .ok (.iconst 1, 1) := by decide +kernel
theorem d_MO_isSource_20 : decode m_MO_isSource.2.1 20 = .ok (.goto 4, 3) := by decide +kernel
theorem d_MO_isSource_23 : decode m_MO_isSource.2.1 23 = .ok (.iconst 0, 1) := by decide +kernel
theorem d_MO_isSource_24 : decode m_MO_isSource.2.1 24 = .ok (.ireturn, 1) := by decide +kernel
theorem d_MO_isSpan_0 : decode m_MO_isSpan.2.1 0 = .ok (.iload_n 0, 1) := by decide +kernel
theorem d_MO_isSpan_1 : decode m_MO_isSpan.2.1 1 = .ok (.sipush (-9999), 3) := by decide +kernel
theorem d_MO_isSpan_4 : decode m_MO_isSpan.2.1 4 = .ok (.sipush 9999, 3) := by decide +kernel
theorem d_MO_isSpan_7 : decode m_MO_isSpan.2.1 7 = .ok (.invokestatic 190, 3) := by decide +kernel
theorem d_MO_isSpan_10 : decode m_MO_isSpan.2.1 10 = .ok (.ifCond .eq 18, 3) := by decide +kernel
theorem d_MO_isSpan_13 : decode m_MO_isSpan.2.1 13 = .ok (.iload_n 1, 1) := by decide +kernel
theorem d_MO_isSpan_14 : decode m_MO_isSpan.2.1 14 = .ok (.iload_n 0, 1) := by decide +kernel
theorem d_MO_isSpan_15 : decode m_MO_isSpan.2.1 15 = .ok (.sipush 9999, 3) := by decide +kernel
theorem d_MO_isSpan_18 : decode m_MO_isSpan.2.1 18 = .ok (.invokestatic 190, 3) := by decide +kernel
theorem d_MO_isSpan_21 : decode m_MO_isSpan.2.1 21 = .ok (.ifCond .eq 7, 3) := by decide +kernel
theorem d_MO_isSpan_24 : decode m_MO_isSpan.2.1 24 = .ok (.iconst 1, 1) := by decide +kernel
theorem d_MO_isSpan_25 : decode m_MO_isSpan.2.1 25 = .ok (.goto 4, 3) := by decide +kernel
theorem d_MO_isSpan_28 : decode m_MO_isSpan.2.1 28 = .ok (.iconst 0, 1) := by decide +kernel
theorem d_MO_isSpan_29 : decode m_MO_isSpan.2.1 29 = .ok (.ireturn, 1) := by decide +kernel
theorem d_MO_isStored_0 : decode m_MO_isStored.2.1 0 = .ok (.aload_n 0, 1) := by decide +kernel
theorem d_MO_isStored_1 : decode m_MO_isStored.2.1 1 = .ok (.getfield 13, 3) := by decide +kernel
theorem d_MO_isStored_4 : decode m_MO_isStored.2.1 4 = .ok (.iload_n 1, 1) := by decide +kernel
theorem d_MO_isStored_5 : decode m_MO_isStored.2.1 5 = .ok (.iaload, 1) := by decide +kernel
theorem d_MO_isStored_6 : decode m_MO_isStored.2.1 6 = .ok (.ifCond .eq 13, 3) := by decide +kernel
theorem d_MO_isStored_9 : decode m_MO_isStored.2.1 9 = .ok (.aload_n 0, 1) := by decide +kernel
theorem d_MO_isStored_10 : decode m_MO_isStored.2.1 10 = .ok (.getfield 13, 3) := by decide +kernel
theorem d_MO_isStored_13 : decode m_MO_isStored.2.1 13 = .ok (.iload_n 1, 1) := by decide +kernel
theorem d_MO_isStored_14 : decode m_MO_isStored.2.1 14 = .ok (.iaload, 1) := by decide +kernel
theorem d_MO_isStored_15 : decode m_MO_isStored.2.1 15 = .ok (.iconst 1, 1) := by decide +kernel
theorem d_MO_isStored_16 : decode m_MO_isStored.2.1 16 = .ok (.if_icmp .ne 7, 3) := by decide +kernel
theorem d_MO_isStored_19 : decode m_MO_isStored.2.1 19 = .ok (.iconst 1, 1) := by decide +kernel
theorem d_MO_isStored_20 : decode m_MO_isStored.2.1 20 = .ok (.goto 4, 3) := by decide +kernel
theorem d_MO_isStored_23 : decode m_MO_isStored.2.1 23 = .ok (.iconst 0, 1) := by decide +kernel
theorem d_MO_isStored_24 : decode m_MO_isStored.2.1 24 = .ok (.ireturn, 1) := by decide +kernel
theorem d_MO_isTable_0 : decode m_MO_isTable.2.1 0 = .ok (.iload_n 1, 1) := by decide +kernel
theorem d_MO_isTable_1 : decode m_MO_isTable.2.1 1 = .ok (.iconst 0, 1) := by decide +kernel
theorem d_MO_isTable_2 : decode m_MO_isTable.2.1 2 = .ok (.aload_n 0, 1) := by decide +kernel
theorem d_MO_isTable_3 : decode m_MO_isTable.2.1 3 = .ok (.getfield 198, 3) := by decide +kernel
theorem d_MO_isTable_6 : decode m_MO_isTable.2.1 6 = .ok (.iconst 1, 1) := by decide +kernel
theorem d_MO_isTable_7 : decode m_MO_isTable.2.1 7 = .ok (.isub, 1) := by decide +kernel
theorem d_MO_isTable_8 : decode m_MO_isTable.2.1 8 = .ok (.invokestatic 190, 3) := by decide +kernel
theorem d_MO_isTable_11 : decode m_MO_isTable.2.1 11 = .ok (.ireturn, 1) := by decide +kernel
theorem d_MO_isThere_0 : decode m_MO_isThere.2.1 0 = .ok (.aload_n 0, 1) := by decide +kernel
theorem d_MO_isThere_1 : decode m_MO_isThere.2.1 1 = .ok (.aload_n 0, 1) := by decide +kernel
theorem d_MO_isThere_2 : decode m_MO_isThere.2.1 2 = .ok (.iload_n 1, 1) := by decide +kernel
theorem d_MO_isThere_3 : decode m_MO_isThere.2.1 3 = .ok (.invokevirtual 201, 3) := by decide +kernel
theorem d_MO_isThere_6 : decode m_MO_isThere.2.1 6 = .ok (.ifCond .eq 7, 3) := by decide +kernel
theorem d_MO_isThere_9 : decode m_MO_isThere.2.1 9 = .ok (.iconst 0, 1) := by decide +kernel
theorem d_MO_isThere_10 : decode m_MO_isThere.2.1 10 = .ok (.goto 4, 3) := by decide +kernel
theorem d_MO_isThere_13 : decode m_MO_isThere.2.1 13 = .ok (.iconst 1, 1) := by decide +kernel
theorem d_MO_isThere_14 : decode m_MO_isThere.2.1 14 = .ok (.invokevirtual 292, 3) := by decide +kernel
theorem d_MO_isThere_17 : decode m_MO_isThere.2.1 17 = .ok (.ifCond .eq 16, 3) := by decide +kernel
theorem d_MO_isThere_20 : decode m_MO_isThere.2.1 20 = .ok (.aload_n 0, 1) := by decide +kernel
theorem d_MO_isThere_21 : decode m_MO_isThere.2.1 21 = .ok (.iload_n 1, 1) := by decide +kernel
theorem d_MO_isThere_22 : decode m_MO_isThere.2.1 22 = .ok (.iload_n 2, 1) := by decide +kernel
theorem d_MO_isThere_23 : decode m_MO_isThere.2.1 23 = .ok (.invokevirtual 233, 3) := by decide +kernel
theorem d_MO_isThere_26 : decode m_MO_isThere.2.1 26 = .ok (.ifCond .eq 7, 3) := by decide +kernel
theorem d_MO_isThere_29 : decode m_MO_isThere.2.1 29 = .ok (.iconst 1, 1) := by decide +kernel
theorem d_MO_isThere_30 : decode m_MO_isThere.2.1 30 = .ok (.goto 4, 3) := by decide +kernel
theorem d_MO_isThere_33 : decode m_MO_isThere.2.1 33 = .ok (.iconst 0, 1) := by decide +kernel
theorem d_MO_isThere_34 : decode m_MO_isThere.2.1 34 = .ok (.ireturn, 1) := by decide +kernel
theorem d_MO_isUnwritable_0 : decode m_MO_isUnwritable.2.1 0 = .ok (.aload_n 0, 1) := by decide +kernel
theorem d_MO_isUnwritable_1 : decode m_MO_isUnwritable.2.1 1 = .ok (.bipush 7, 2) := by decide +kernel
theorem d_MO_isUnwritable_3 : decode m_MO_isUnwritable.2.1 3 = .ok (.iconst (-1), 1) := by decide +kernel
theorem d_MO_isUnwritable_4 : decode m_MO_isUnwritable.2.1 4 = .ok (.iconst (-1), 1) := by decide +kernel
theorem d_MO_isUnwritable_5 : decode m_MO_isUnwritable.2.1 5 = .ok (.iconst (-1), 1) := by decide +kernel
theorem d_MO_isUnwritable_6 : decode m_MO_isUnwritable.2.1 6 = .ok (.invokevirtual 261, 3) := by decide +kernel
theorem d_MO_isUnwritable_9 : decode m_MO_isUnwritable.2.1 9 = .ok (.pop, 1) := by decide +kernel
theorem d_MO_isUnwritable_10 : decode m_MO_isUnwritable.2.1 10 = .ok (.iconst 0, 1) := by decide +kernel
theorem d_MO_isUnwritable_11 : decode m_MO_isUnwritable.2.1 11 = .ok (.ireturn, 1) := by decide +kernel
theorem d_MO_isUsed_0 : decode m_MO_isUsed.2.1 0 = .ok (.bipush 6, 2) := by decide +kernel
theorem d_MO_isUsed_2 : decode m_MO_isUsed.2.1 2 = .ok (.iload_n 1, 1) := by decide +kernel
theorem d_MO_isUsed_3 : decode m_MO_isUsed.2.1 3 = .ok (.imul, 1) := by decide +kernel
theorem d_MO_isUsed_4 : decode m_MO_isUsed.2.1 4 = .ok (.iload_n 2, 1) := by decide +kernel
theorem d_MO_isUsed_5 : decode m_MO_isUsed.2.1 5 = .ok (.iadd, 1) := by decide +kernel
theorem d_MO_isUsed_6 : decode m_MO_isUsed.2.1 6 = .ok (.istore_n 3, 1) := by decide +kernel
theorem d_MO_isUsed_7 : decode m_MO_isUsed.2.1 7 = .ok (.iconst 0, 1) := by decide +kernel
theorem d_MO_isUsed_8 : decode m_MO_isUsed.2.1 8 = .ok (.istore 4, 2) := by decide +kernel
theorem d_MO_isUsed_10 : decode m_MO_isUsed.2.1 10 = .ok (.iconst 0, 1) := by decide +kernel
theorem d_MO_isUsed_11 : decode m_MO_isUsed.2.1 11 = .ok (.istore 5, 2) := by decide +kernel
theorem d_MO_isUsed_13 : decode m_MO_isUsed.2.1 13 = .ok (.iload 5, 2) := by decide +kernel
theorem d_MO_isUsed_15 : decode m_MO_isUsed.2.1 15 = .ok (.bipush 24, 2) := by decide +kernel
theorem d_MO_isUsed_17 : decode m_MO_isUsed.2.1 17 = .ok (.if_icmp .ge 52, 3) := by decide +kernel
theorem d_MO_isUsed_20 : decode m_MO_isUsed.2.1 20 = .ok (.iload 4, 2) := by decide +kernel
theorem d_MO_isUsed_22 : decode m_MO_isUsed.2.1 22 = .ok (.ifCond .ne 34, 3) := by decide +kernel
theorem d_MO_isUsed_25 : decode m_MO_isUsed.2.1 25 = .ok (.aload_n 0, 1) := by decide +kernel
theorem d_MO_isUsed_26 : decode m_MO_isUsed.2.1 26 = .ok (.getfield 13, 3) := by decide +kernel
theorem d_MO_isUsed_29 : decode m_MO_isUsed.2.1 29 = .ok (.iload 5, 2) := by decide +kernel
theorem d_MO_isUsed_31 : decode m_MO_isUsed.2.1 31 = .ok (.iaload, 1) := by decide +kernel
theorem d_MO_isUsed_32 : decode m_MO_isUsed.2.1 32 = .ok (.iconst 2, 1) := by decide +kernel
theorem d_MO_isUsed_33 : decode m_MO_isUsed.2.1 33 = .ok (.if_icmp .ne 27, 3) := by decide +kernel
theorem d_MO_isUsed_36 : decode m_MO_isUsed.2.1 36 = .ok (.aload_n 0, 1) := by decide +kernel
theorem d_MO_isUsed_37 : decode m_MO_isUsed.2.1 37 = .ok (.iload 5, 2) := by decide +kernel
theorem d_MO_isUsed_39 : decode m_MO_isUsed.2.1 39 = .ok (.invokevirtual 208, 3) := by decide +kernel
theorem d_MO_isUsed_42 : decode m_MO_isUsed.2.1 42 = .ok (.iload_n 3, 1) := by decide +kernel
theorem d_MO_isUsed_43 : decode m_MO_isUsed.2.1 43 = .ok (.if_icmp .eq 13, 3) := by decide +kernel
theorem d_MO_isUsed_46 : decode m_MO_isUsed.2.1 46 = .ok (.aload_n 0, 1) := by decide +kernel
theorem d_MO_isUsed_47 : decode m_MO_isUsed.2.1 47 = .ok (.iload 5, 2) := by decide +kernel
theorem d_MO_isUsed_49 : decode m_MO_isUsed.2.1 49 = .ok (.invokevirtual 215, 3) := by decide +kernel
theorem d_MO_isUsed_52 : decode m_MO_isUsed.2.1 52 = .ok (.iload_n 3, 1) := by decide +kernel
theorem d_MO_isUsed_53 : decode m_MO_isUsed.2.1 53 = .ok (.if_icmp .ne 7, 3) := by decide +kernel
theorem d_MO_isUsed_56 : decode m_MO_isUsed.2.1 56 = .ok (.iconst 1, 1) := by decide +kernel
theorem d_MO_isUsed_57 : decode m_MO_isUsed.2.1 57 = .ok (.goto 4, 3) := by decide +kernel
theorem d_MO_isUsed_60 : decode m_MO_isUsed.2.1 60 = .ok (.iconst 0, 1) := by decide +kernel
theorem d_MO_isUsed_61 : decode m_MO_isUsed.2.1 61 = .ok (.istore 4, 2) := by decide +kernel
theorem d_MO_isUsed_63 : decode m_MO_isUsed.2.1 63 = .ok (.iinc 5 1, 3) := by decide +kernel
theorem d_MO_isUsed_66 : decode m_MO_isUsed.2.1 66 = .ok (.goto (-53), 3) := by decide +kernel
theorem d_MO_isUsed_69 : decode m_MO_isUsed.2.1 69 = .ok (.iconst 0, 1) := by decide +kernel
theorem d_MO_isUsed_70 : decode m_MO_isUsed.2.1 70 = .ok (.istore 5, 2) := by decide +kernel
theorem d_MO_isUsed_72 : decode m_MO_isUsed.2.1 72 = .ok (.iload 5, 2) := by decide +kernel
theorem d_MO_isUsed_74 : decode m_MO_isUsed.2.1 74 = .ok (.aload_n 0, 1) := by decide +kernel
theorem d_MO_isUsed_75 : decode m_MO_isUsed.2.1 75 = .ok (.getfield 265, 3) := by decide +kernel
theorem d_MO_isUsed_78 : decode m_MO_isUsed.2.1 78 = .ok (.if_icmp .ge 64, 3) := by decide +kernel
theorem d_MO_isUsed_81 : decode m_MO_isUsed.2.1 81 = .ok (.iload 4, 2) := by decide +kernel
theorem d_MO_isUsed_83 : decode m_MO_isUsed.2.1 83 = .ok (.ifCond .ne 46, 3) := by decide +kernel
theorem d_MO_isUsed_86 : decode m_MO_isUsed.2.1 86 = .ok (.aload_n 0, 1) := by decide +kernel
theorem d_MO_isUsed_87 : decode m_MO_isUsed.2.1 87 = .ok (.getfield 68, 3) := by decide +kernel
theorem d_MO_isUsed_90 : decode m_MO_isUsed.2.1 90 = .ok (.iload 5, 2) := by decide +kernel
theorem d_MO_isUsed_92 : decode m_MO_isUsed.2.1 92 = .ok (.baload, 1) := by decide +kernel
theorem d_MO_isUsed_93 : decode m_MO_isUsed.2.1 93 = .ok (.ifCond .ne 40, 3) := by decide +kernel
theorem d_MO_isUsed_96 : decode m_MO_isUsed.2.1 96 = .ok (.aload_n 0, 1) := by decide +kernel
theorem d_MO_isUsed_97 : decode m_MO_isUsed.2.1 97 = .ok (.getfield 53, 3) := by decide +kernel
theorem d_MO_isUsed_100 : decode m_MO_isUsed.2.1 100 = .ok (.iload 5, 2) := by decide +kernel
theorem d_MO_isUsed_102 : decode m_MO_isUsed.2.1 102 = .ok (.iaload, 1) := by decide +kernel
theorem d_MO_isUsed_103 : decode m_MO_isUsed.2.1 103 = .ok (.iload_n 1, 1) := by decide +kernel
theorem d_MO_isUsed_104 : decode m_MO_isUsed.2.1 104 = .ok (.if_icmp .ne 29, 3) := by decide +kernel
theorem d_MO_isUsed_107 : decode m_MO_isUsed.2.1 107 = .ok (.aload_n 0, 1) := by decide +kernel
theorem d_MO_isUsed_108 : decode m_MO_isUsed.2.1 108 = .ok (.getfield 56, 3) := by decide +kernel
theorem d_MO_isUsed_111 : decode m_MO_isUsed.2.1 111 = .ok (.iload 5, 2) := by decide +kernel
theorem d_MO_isUsed_113 : decode m_MO_isUsed.2.1 113 = .ok (.iaload, 1) := by decide +kernel
theorem d_MO_isUsed_114 : decode m_MO_isUsed.2.1 114 = .ok (.iload_n 2, 1) := by decide +kernel
theorem d_MO_isUsed_115 : decode m_MO_isUsed.2.1 115 = .ok (.if_icmp .eq 14, 3) := by decide +kernel
theorem d_MO_isUsed_118 : decode m_MO_isUsed.2.1 118 = .ok (.aload_n 0, 1) := by decide +kernel
theorem d_MO_isUsed_119 : decode m_MO_isUsed.2.1 119 = .ok (.getfield 62, 3) := by decide +kernel
theorem d_MO_isUsed_122 : decode m_MO_isUsed.2.1 122 = .ok (.iload 5, 2) := by decide +kernel
theorem d_MO_isUsed_124 : decode m_MO_isUsed.2.1 124 = .ok (.iaload, 1) := by decide +kernel
theorem d_MO_isUsed_125 : decode m_MO_isUsed.2.1 125 = .ok (.iload_n 2, 1) := by decide +kernel
theorem d_MO_isUsed_126 : decode m_MO_isUsed.2.1 126 = .ok (.if_icmp .ne 7, 3) := by decide +kernel
theorem d_MO_isUsed_129 : decode m_MO_isUsed.2.1 129 = .ok (.iconst 1, 1) := by decide +kernel
theorem d_MO_isUsed_130 : decode m_MO_isUsed.2.1 130 = .ok (.goto 4, 3) := by decide +kernel
theorem d_MO_isUsed_133 : decode m_MO_isUsed.2.1 133 = .ok (.iconst 0, 1) := by decide +kernel
theorem d_MO_isUsed_134 : decode m_MO_isUsed.2.1 134 = .ok (.istore 4, 2) := by decide +kernel
theorem d_MO_isUsed_136 : decode m_MO_isUsed.2.1 136 = .ok (.iinc 5 1, 3) := by decide +kernel
theorem d_MO_isUsed_139 : decode m_MO_isUsed.2.1 139 = .ok (.goto (-67), 3) := by decide +kernel
theorem d_MO_isUsed_142 : decode m_MO_isUsed.2.1 142 = .ok (.iconst 0, 1) := by decide +kernel
theorem d_MO_isUsed_143 : decode m_MO_isUsed.2.1 143 = .ok (.istore 5, 2) := by decide +kernel
theorem d_MO_isUsed_145 : decode m_MO_isUsed.2.1 145 = .ok (.iload 5, 2) := by decide +kernel
theorem d_MO_isUsed_147 : decode m_MO_isUsed.2.1 147 = .ok (.aload_n 0, 1) := by decide +kernel
theorem d_MO_isUsed_148 : decode m_MO_isUsed.2.1 148 = .ok (.getfield 345, 3) := by decide +kernel
theorem d_MO_isUsed_151 : decode m_MO_isUsed.2.1 151 = .ok (.if_icmp .ge 31, 3) := by decide +kernel
theorem d_MO_isUsed_154 : decode m_MO_isUsed.2.1 154 = .ok (.iload 4, 2) := by decide +kernel
theorem d_MO_isUsed_156 : decode m_MO_isUsed.2.1 156 = .ok (.ifCond .ne 13, 3) := by decide +kernel
theorem d_MO_isUsed_159 : decode m_MO_isUsed.2.1 159 = .ok (.aload_n 0, 1) := by decide +kernel
theorem d_MO_isUsed_160 : decode m_MO_isUsed.2.1 160 = .ok (.iload 5, 2) := by decide +kernel
theorem d_MO_isUsed_162 : decode m_MO_isUsed.2.1 162 = .ok (.iload_n 3, 1) := by decide +kernel
theorem d_MO_isUsed_163 : decode m_MO_isUsed.2.1 163 = .ok (.invokevirtual 348, 3) := by decide +kernel
theorem d_MO_isUsed_166 : decode m_MO_isUsed.2.1 166 = .ok (.ifCond .eq 7, 3) := by decide +kernel
theorem d_MO_isUsed_169 : decode m_MO_isUsed.2.1 169 = .ok (.iconst 1, 1) := by decide +kernel
theorem d_MO_isUsed_170 : decode m_MO_isUsed.2.1 170 = .ok (.goto 4, 3) := by decide +kernel
theorem d_MO_isUsed_173 : decode m_MO_isUsed.2.1 173 = .ok (.iconst 0, 1) := by decide +kernel
theorem d_MO_isUsed_174 : decode m_MO_isUsed.2.1 174 = .ok (.istore 4, 2) := by decide +kernel
theorem d_MO_isUsed_176 : decode m_MO_isUsed.2.1 176 = .ok (.iinc 5 1, 3) := by decide +kernel
theorem d_MO_isUsed_179 : decode m_MO_isUsed.2.1 179 = .ok (.goto (-34), 3) := by decide +kernel
theorem d_MO_isUsed_182 : decode m_MO_isUsed.2.1 182 = .ok (.iload 4, 2) := by decide +kernel
theorem d_MO_isUsed_184 : decode m_MO_isUsed.2.1 184 = .ok (.ireturn, 1) := by decide +kernel
theorem d_MO_isWhole_0 : decode m_MO_isWhole.2.1 0 = .ok (.aload_n 0, 1) := by decide +kernel
theorem d_MO_isWhole_1 : decode m_MO_isWhole.2.1 1 = .ok (.invokevirtual 275, 3) := by decide +kernel
theorem d_MO_isWhole_4 : decode m_MO_isWhole.2.1 4 = .ok (.aload_n 0, 1) := by decide +kernel
theorem d_MO_isWhole_5 : decode m_MO_isWhole.2.1 5 = .ok (.iconst 0, 1) := by decide +kernel
theorem d_MO_isWhole_6 : decode m_MO_isWhole.2.1 6 = .ok (.iconst (-1), 1) := by decide +kernel
theorem d_MO_isWhole_7 : decode m_MO_isWhole.2.1 7 = .ok (.iconst (-1), 1) := by decide +kernel
theorem d_MO_isWhole_8 : decode m_MO_isWhole.2.1 8 = .ok (.iconst (-1), 1) := by decide +kernel
theorem d_MO_isWhole_9 : decode m_MO_isWhole.2.1 9 = .ok (.invokevirtual 261, 3) := by decide +kernel
theorem d_MO_isWhole_12 : decode m_MO_isWhole.2.1 12 = .ok (.pop, 1) := by decide +kernel
theorem d_MO_isWhole_13 : decode m_MO_isWhole.2.1 13 = .ok (.aload_n 0, 1) := by decide +kernel
theorem d_MO_isWhole_14 : decode m_MO_isWhole.2.1 14 = .ok (.iconst 1, 1) := by decide +kernel
theorem d_MO_isWhole_15 : decode m_MO_isWhole.2.1 15 = .ok (.invokevirtual 278, 3) := by decide +kernel
theorem d_MO_isWhole_18 : decode m_MO_isWhole.2.1 18 = .ok (.ifCond .ne 7, 3) := by decide +kernel
theorem d_MO_isWhole_21 : decode m_MO_isWhole.2.1 21 = .ok (.iconst 1, 1) := by decide +kernel
theorem d_MO_isWhole_22 : decode m_MO_isWhole.2.1 22 = .ok (.goto 4, 3) := by decide +kernel
theorem d_MO_isWhole_25 : decode m_MO_isWhole.2.1 25 = .ok (.iconst 0, 1) := by decide +kernel
theorem d_MO_isWhole_26 : decode m_MO_isWhole.2.1 26 = .ok (.ireturn, 1) := by decide +kernel
theorem d_MO_joins_0 : decode m_MO_joins.2.1 0 = .ok (.aload_n 0, 1) := by decide +kernel
theorem d_MO_joins_1 : decode m_MO_joins.2.1 1 = .ok (.getfield 22, 3) := by decide +kernel
theorem d_MO_joins_4 : decode m_MO_joins.2.1 4 = .ok (.aload_n 0, 1) := by decide +kernel
theorem d_MO_joins_5 : decode m_MO_joins.2.1 5 = .ok (.iload_n 2, 1) := by decide +kernel
theorem d_MO_joins_6 : decode m_MO_joins.2.1 6 = .ok (.iload_n 3, 1) := by decide +kernel
theorem d_MO_joins_7 : decode m_MO_joins.2.1 7 = .ok (.invokevirtual 342, 3) := by decide +kernel
theorem d_MO_joins_10 : decode m_MO_joins.2.1 10 = .ok (.iaload, 1) := by decide +kernel
theorem d_MO_joins_11 : decode m_MO_joins.2.1 11 = .ok (.istore 4, 2) := by decide +kernel
theorem d_MO_joins_13 : decode m_MO_joins.2.1 13 = .ok (.aload_n 0, 1) := by decide +kernel
theorem d_MO_joins_14 : decode m_MO_joins.2.1 14 = .ok (.getfield 117, 3) := by decide +kernel
theorem d_MO_joins_17 : decode m_MO_joins.2.1 17 = .ok (.iload_n 1, 1) := by decide +kernel
theorem d_MO_joins_18 : decode m_MO_joins.2.1 18 = .ok (.iload_n 3, 1) := by decide +kernel
theorem d_MO_joins_19 : decode m_MO_joins.2.1 19 = .ok (.iastore, 1) := by decide +kernel
theorem d_MO_joins_20 : decode m_MO_joins.2.1 20 = .ok (.iconst 0, 1) := by decide +kernel
theorem d_MO_joins_21 : decode m_MO_joins.2.1 21 = .ok (.istore 5, 2) := by decide +kernel
theorem d_MO_joins_23 : decode m_MO_joins.2.1 23 = .ok (.iload 5, 2) := by decide +kernel
theorem d_MO_joins_25 : decode m_MO_joins.2.1 25 = .ok (.aload_n 0, 1) := by decide +kernel
theorem d_MO_joins_26 : decode m_MO_joins.2.1 26 = .ok (.getfield 7, 3) := by decide +kernel
theorem d_MO_joins_29 : decode m_MO_joins.2.1 29 = .ok (.iload 4, 2) := by decide +kernel
theorem d_MO_joins_31 : decode m_MO_joins.2.1 31 = .ok (.iaload, 1) := by decide +kernel
theorem d_MO_joins_32 : decode m_MO_joins.2.1 32 = .ok (.if_icmp .ge 43, 3) := by decide +kernel
theorem d_MO_joins_35 : decode m_MO_joins.2.1 35 = .ok (.aload_n 0, 1) := by decide +kernel
theorem d_MO_joins_36 : decode m_MO_joins.2.1 36 = .ok (.getfield 156, 3) := by decide +kernel
theorem d_MO_joins_39 : decode m_MO_joins.2.1 39 = .ok (.bipush 54, 2) := by decide +kernel
theorem d_MO_joins_41 : decode m_MO_joins.2.1 41 = .ok (.iload_n 1, 1) := by decide +kernel
theorem d_MO_joins_42 : decode m_MO_joins.2.1 42 = .ok (.imul, 1) := by decide +kernel
theorem d_MO_joins_43 : decode m_MO_joins.2.1 43 = .ok (.aload_n 0, 1) := by decide +kernel
theorem d_MO_joins_44 : decode m_MO_joins.2.1 44 = .ok (.getfield 147, 3) := by decide +kernel
theorem d_MO_joins_47 : decode m_MO_joins.2.1 47 = .ok (.iload_n 1, 1) := by decide +kernel
theorem d_MO_joins_48 : decode m_MO_joins.2.1 48 = .ok (.iaload, 1) := by decide +kernel
theorem d_MO_joins_49 : decode m_MO_joins.2.1 49 = .ok (.iadd, 1) := by decide +kernel
theorem d_MO_joins_50 : decode m_MO_joins.2.1 50 = .ok (.bipush 6, 2) := by decide +kernel
theorem d_MO_joins_52 : decode m_MO_joins.2.1 52 = .ok (.iload 4, 2) := by decide +kernel
theorem d_MO_joins_54 : decode m_MO_joins.2.1 54 = .ok (.imul, 1) := by decide +kernel
theorem d_MO_joins_55 : decode m_MO_joins.2.1 55 = .ok (.iload 5, 2) := by decide +kernel
theorem d_MO_joins_57 : decode m_MO_joins.2.1 57 = .ok (.iadd, 1) := by decide +kernel
theorem d_MO_joins_58 : decode m_MO_joins.2.1 58 = .ok (.iastore, 1) := by decide +kernel
theorem d_MO_joins_59 : decode m_MO_joins.2.1 59 = .ok (.aload_n 0, 1) := by decide +kernel
theorem d_MO_joins_60 : decode m_MO_joins.2.1 60 = .ok (.getfield 147, 3) := by decide +kernel
theorem d_MO_joins_63 : decode m_MO_joins.2.1 63 = .ok (.iload_n 1, 1) := by decide +kernel
theorem d_MO_joins_64 : decode m_MO_joins.2.1 64 = .ok (.dup2, 1) := by decide +kernel
theorem d_MO_joins_65 : decode m_MO_joins.2.1 65 = .ok (.iaload, 1) := by decide +kernel
theorem d_MO_joins_66 : decode m_MO_joins.2.1 66 = .ok (.iconst 1, 1) := by decide +kernel
theorem d_MO_joins_67 : decode m_MO_joins.2.1 67 = .ok (.iadd, 1) := by decide +kernel
theorem d_MO_joins_68 : decode m_MO_joins.2.1 68 = .ok (.iastore, 1) := by decide +kernel
theorem d_MO_joins_69 : decode m_MO_joins.2.1 69 = .ok (.iinc 5 1, 3) := by decide +kernel
theorem d_MO_joins_72 : decode m_MO_joins.2.1 72 = .ok (.goto (-49), 3) := by decide +kernel
theorem d_MO_joins_75 : decode m_MO_joins.2.1 75 = .ok (.return_, 1) := by decide +kernel
theorem d_MO_keepsRows_0 : decode m_MO_keepsRows.2.1 0 = .ok (.aload_n 0, 1) := by decide +kernel
theorem d_MO_keepsRows_1 : decode m_MO_keepsRows.2.1 1 = .ok (.iload_n 1, 1) := by decide +kernel
theorem d_MO_keepsRows_2 : decode m_MO_keepsRows.2.1 2 = .ok (.invokevirtual 429, 3) := by decide +kernel
theorem d_MO_keepsRows_5 : decode m_MO_keepsRows.2.1 5 = .ok (.iconst 0, 1) := by decide +kernel
theorem d_MO_keepsRows_6 : decode m_MO_keepsRows.2.1 6 = .ok (.istore_n 3, 1) := by decide +kernel
theorem d_MO_keepsRows_7 : decode m_MO_keepsRows.2.1 7 = .ok (.iload_n 3, 1) := by decide +kernel
theorem d_MO_keepsRows_8 : decode m_MO_keepsRows.2.1 8 = .ok (.aload_n 0, 1) := by decide +kernel
theorem d_MO_keepsRows_9 : decode m_MO_keepsRows.2.1 9 = .ok (.getfield 144, 3) := by decide +kernel
theorem d_MO_keepsRows_12 : decode m_MO_keepsRows.2.1 12 = .ok (.iload_n 1, 1) := by decide +kernel
theorem d_MO_keepsRows_13 : decode m_MO_keepsRows.2.1 13 = .ok (.iaload, 1) := by decide +kernel
theorem d_MO_keepsRows_14 : decode m_MO_keepsRows.2.1 14 = .ok (.if_icmp .ge 32, 3) := by decide +kernel
theorem d_MO_keepsRows_17 : decode m_MO_keepsRows.2.1 17 = .ok (.aload_n 0, 1) := by decide +kernel
theorem d_MO_keepsRows_18 : decode m_MO_keepsRows.2.1 18 = .ok (.getfield 183, 3) := by decide +kernel
theorem d_MO_keepsRows_21 : decode m_MO_keepsRows.2.1 21 = .ok (.iload_n 3, 1) := by decide +kernel
theorem d_MO_keepsRows_22 : decode m_MO_keepsRows.2.1 22 = .ok (.aload_n 0, 1) := by decide +kernel
theorem d_MO_keepsRows_23 : decode m_MO_keepsRows.2.1 23 = .ok (.getfield 153, 3) := by decide +kernel
theorem d_MO_keepsRows_26 : decode m_MO_keepsRows.2.1 26 = .ok (.sipush 1620, 3) := by decide +kernel
theorem d_MO_keepsRows_29 : decode m_MO_keepsRows.2.1 29 = .ok (.iload_n 1, 1) := by decide +kernel
theorem d_MO_keepsRows_30 : decode m_MO_keepsRows.2.1 30 = .ok (.imul, 1) := by decide +kernel
theorem d_MO_keepsRows_31 : decode m_MO_keepsRows.2.1 31 = .ok (.bipush 54, 2) := by decide +kernel
theorem d_MO_keepsRows_33 : decode m_MO_keepsRows.2.1 33 = .ok (.iload_n 3, 1) := by decide +kernel
theorem d_MO_keepsRows_34 : decode m_MO_keepsRows.2.1 34 = .ok (.imul, 1) := by decide +kernel
theorem d_MO_keepsRows_35 : decode m_MO_keepsRows.2.1 35 = .ok (.iadd, 1) := by decide +kernel
theorem d_MO_keepsRows_36 : decode m_MO_keepsRows.2.1 36 = .ok (.iload_n 2, 1) := by decide +kernel
theorem d_MO_keepsRows_37 : decode m_MO_keepsRows.2.1 37 = .ok (.iadd, 1) := by decide +kernel
theorem d_MO_keepsRows_38 : decode m_MO_keepsRows.2.1 38 = .ok (.iaload, 1) := by decide +kernel
theorem d_MO_keepsRows_39 : decode m_MO_keepsRows.2.1 39 = .ok (.iastore, 1) := by decide +kernel
theorem d_MO_keepsRows_40 : decode m_MO_keepsRows.2.1 40 = .ok (.iinc 3 1, 3) := by decide +kernel
theorem d_MO_keepsRows_43 : decode m_MO_keepsRows.2.1 43 = .ok (.goto (-36), 3) := by decide +kernel
theorem d_MO_keepsRows_46 : decode m_MO_keepsRows.2.1 46 = .ok (.aload_n 0, 1) := by decide +kernel
theorem d_MO_keepsRows_47 : decode m_MO_keepsRows.2.1 47 = .ok (.getfield 144, 3) := by decide +kernel
theorem d_MO_keepsRows_50 : decode m_MO_keepsRows.2.1 50 = .ok (.iload_n 1, 1) := by decide +kernel
theorem d_MO_keepsRows_51 : decode m_MO_keepsRows.2.1 51 = .ok (.iaload, 1) := by decide +kernel
theorem d_MO_keepsRows_52 : decode m_MO_keepsRows.2.1 52 = .ok (.ireturn, 1) := by decide +kernel
theorem d_MO_keyOf_0 : decode m_MO_keyOf.2.1 0 = .ok (.aload_n 0, 1) := by decide +kernel
theorem d_MO_keyOf_1 : decode m_MO_keyOf.2.1 1 = .ok (.iload_n 1, 1) := by decide +kernel
theorem d_MO_keyOf_2 : decode m_MO_keyOf.2.1 2 = .ok (.invokevirtual 426, 3) := by decide +kernel
theorem d_MO_keyOf_5 : decode m_MO_keyOf.2.1 5 = .ok (.ifCond .eq 23, 3) := by decide +kernel
theorem d_MO_keyOf_8 : decode m_MO_keyOf.2.1 8 = .ok (.iload_n 2, 1) := by decide +kernel
theorem d_MO_keyOf_9 : decode m_MO_keyOf.2.1 9 = .ok (.ifCond .le 19, 3) := by decide +kernel
theorem d_MO_keyOf_12 : decode m_MO_keyOf.2.1 12 = .ok (.aload_n 0, 1) := by decide +kernel
theorem d_MO_keyOf_13 : decode m_MO_keyOf.2.1 13 = .ok (.iload_n 1, 1) := by decide +kernel
theorem d_MO_keyOf_14 : decode m_MO_keyOf.2.1 14 = .ok (.bipush 10, 2) := by decide +kernel
theorem d_MO_keyOf_16 : decode m_MO_keyOf.2.1 16 = .ok (.iadd, 1) := by decide +kernel
theorem d_MO_keyOf_17 : decode m_MO_keyOf.2.1 17 = .ok (.iload_n 2, 1) := by decide +kernel
theorem d_MO_keyOf_18 : decode m_MO_keyOf.2.1 18 = .ok (.invokevirtual 435, 3) := by decide +kernel
theorem d_MO_keyOf_21 : decode m_MO_keyOf.2.1 21 = .ok (.ifCond .eq 7, 3) := by decide +kernel
theorem d_MO_keyOf_24 : decode m_MO_keyOf.2.1 24 = .ok (.iconst 1, 1) := by decide +kernel
theorem d_MO_keyOf_25 : decode m_MO_keyOf.2.1 25 = .ok (.goto 4, 3) := by decide +kernel
theorem d_MO_keyOf_28 : decode m_MO_keyOf.2.1 28 = .ok (.iconst 0, 1) := by decide +kernel
theorem d_MO_keyOf_29 : decode m_MO_keyOf.2.1 29 = .ok (.istore_n 3, 1) := by decide +kernel
theorem d_MO_keyOf_30 : decode m_MO_keyOf.2.1 30 = .ok (.aload_n 0, 1) := by decide +kernel
theorem d_MO_keyOf_31 : decode m_MO_keyOf.2.1 31 = .ok (.iload_n 3, 1) := by decide +kernel
theorem d_MO_keyOf_32 : decode m_MO_keyOf.2.1 32 = .ok (.ifCond .ne 7, 3) := by decide +kernel
theorem d_MO_keyOf_35 : decode m_MO_keyOf.2.1 35 = .ok (.iconst 1, 1) := by decide +kernel
theorem d_MO_keyOf_36 : decode m_MO_keyOf.2.1 36 = .ok (.goto 18, 3) := by decide +kernel
theorem d_MO_keyOf_39 : decode m_MO_keyOf.2.1 39 = .ok (.aload_n 0, 1) := by decide +kernel
theorem d_MO_keyOf_40 : decode m_MO_keyOf.2.1 40 = .ok (.getfield 108, 3) := by decide +kernel
theorem d_MO_keyOf_43 : decode m_MO_keyOf.2.1 43 = .ok (.iload_n 1, 1) := by decide +kernel
theorem d_MO_keyOf_44 : decode m_MO_keyOf.2.1 44 = .ok (.iaload, 1) := by decide +kernel
theorem d_MO_keyOf_45 : decode m_MO_keyOf.2.1 45 = .ok (.iconst 2, 1) := by decide +kernel
theorem d_MO_keyOf_46 : decode m_MO_keyOf.2.1 46 = .ok (.if_icmp .ne 7, 3) := by decide +kernel
theorem d_MO_keyOf_49 : decode m_MO_keyOf.2.1 49 = .ok (.iconst 0, 1) := by decide +kernel
theorem d_MO_keyOf_50 : decode m_MO_keyOf.2.1 50 = .ok (.goto 4, 3) := by decide +kernel
theorem d_MO_keyOf_53 : decode m_MO_keyOf.2.1 53 = .ok (.iconst 2, 1) := by decide +kernel
theorem d_MO_keyOf_54 : decode m_MO_keyOf.2.1 54 = .ok (.invokevirtual 292, 3) := by decide +kernel
theorem d_MO_keyOf_57 : decode m_MO_keyOf.2.1 57 = .ok (.ifCond .eq 19, 3) := by decide +kernel
theorem d_MO_keyOf_60 : decode m_MO_keyOf.2.1 60 = .ok (.aload_n 0, 1) := by decide +kernel
theorem d_MO_keyOf_61 : decode m_MO_keyOf.2.1 61 = .ok (.getfield 159, 3) := by decide +kernel
theorem d_MO_keyOf_64 : decode m_MO_keyOf.2.1 64 = .ok (.bipush 30, 2) := by decide +kernel
theorem d_MO_keyOf_66 : decode m_MO_keyOf.2.1 66 = .ok (.iload_n 1, 1) := by decide +kernel
theorem d_MO_keyOf_67 : decode m_MO_keyOf.2.1 67 = .ok (.imul, 1) := by decide +kernel
theorem d_MO_keyOf_68 : decode m_MO_keyOf.2.1 68 = .ok (.iload_n 2, 1) := by decide +kernel
theorem d_MO_keyOf_69 : decode m_MO_keyOf.2.1 69 = .ok (.iadd, 1) := by decide +kernel
theorem d_MO_keyOf_70 : decode m_MO_keyOf.2.1 70 = .ok (.iconst 1, 1) := by decide +kernel
theorem d_MO_keyOf_71 : decode m_MO_keyOf.2.1 71 = .ok (.isub, 1) := by decide +kernel
theorem d_MO_keyOf_72 : decode m_MO_keyOf.2.1 72 = .ok (.iaload, 1) := by decide +kernel
theorem d_MO_keyOf_73 : decode m_MO_keyOf.2.1 73 = .ok (.goto 4, 3) := by decide +kernel
theorem d_MO_keyOf_76 : decode m_MO_keyOf.2.1 76 = .ok (.iconst 0, 1) := by decide +kernel
theorem d_MO_keyOf_77 : decode m_MO_keyOf.2.1 77 = .ok (.ireturn, 1) := by decide +kernel
theorem d_MO_kindOf_0 : decode m_MO_kindOf.2.1 0 = .ok (.aload_n 0, 1) := by decide +kernel
theorem d_MO_kindOf_1 : decode m_MO_kindOf.2.1 1 = .ok (.getfield 13, 3) := by decide +kernel
theorem d_MO_kindOf_4 : decode m_MO_kindOf.2.1 4 = .ok (.bipush 6, 2) := by decide +kernel
theorem d_MO_kindOf_6 : decode m_MO_kindOf.2.1 6 = .ok (.iload_n 1, 1) := by decide +kernel
theorem d_MO_kindOf_7 : decode m_MO_kindOf.2.1 7 = .ok (.imul, 1) := by decide +kernel
theorem d_MO_kindOf_8 : decode m_MO_kindOf.2.1 8 = .ok (.iload_n 2, 1) := by decide +kernel
theorem d_MO_kindOf_9 : decode m_MO_kindOf.2.1 9 = .ok (.iadd, 1) := by decide +kernel
theorem d_MO_kindOf_10 : decode m_MO_kindOf.2.1 10 = .ok (.iaload, 1) := by decide +kernel
theorem d_MO_kindOf_11 : decode m_MO_kindOf.2.1 11 = .ok (.ireturn, 1) := by decide +kernel
theorem d_MO_lays_0 : decode m_MO_lays.2.1 0 = .ok (.iconst 0, 1) := by decide +kernel
theorem d_MO_lays_1 : decode m_MO_lays.2.1 1 = .ok (.istore_n 2, 1) := by decide +kernel
theorem d_MO_lays_2 : decode m_MO_lays.2.1 2 = .ok (.iload_n 2, 1) := by decide +kernel
theorem d_MO_lays_3 : decode m_MO_lays.2.1 3 = .ok (.aload_n 0, 1) := by decide +kernel
theorem d_MO_lays_4 : decode m_MO_lays.2.1 4 = .ok (.getfield 198, 3) := by decide +kernel
theorem d_MO_lays_7 : decode m_MO_lays.2.1 7 = .ok (.if_icmp .ge 14, 3) := by decide +kernel
theorem d_MO_lays_10 : decode m_MO_lays.2.1 10 = .ok (.aload_n 0, 1) := by decide +kernel
theorem d_MO_lays_11 : decode m_MO_lays.2.1 11 = .ok (.iload_n 2, 1) := by decide +kernel
theorem d_MO_lays_12 : decode m_MO_lays.2.1 12 = .ok (.invokevirtual 414, 3) := by decide +kernel
theorem d_MO_lays_15 : decode m_MO_lays.2.1 15 = .ok (.iinc 2 1, 3) := by decide +kernel
theorem d_MO_lays_18 : decode m_MO_lays.2.1 18 = .ok (.goto (-16), 3) := by decide +kernel
theorem d_MO_lays_21 : decode m_MO_lays.2.1 21 = .ok (.iconst 0, 1) := by decide +kernel
theorem d_MO_lays_22 : decode m_MO_lays.2.1 22 = .ok (.istore_n 2, 1) := by decide +kernel
theorem d_MO_lays_23 : decode m_MO_lays.2.1 23 = .ok (.iload_n 2, 1) := by decide +kernel
theorem d_MO_lays_24 : decode m_MO_lays.2.1 24 = .ok (.iload_n 1, 1) := by decide +kernel
theorem d_MO_lays_25 : decode m_MO_lays.2.1 25 = .ok (.if_icmp .gt 49, 3) := by decide +kernel
theorem d_MO_lays_28 : decode m_MO_lays.2.1 28 = .ok (.aload_n 0, 1) := by decide +kernel
theorem d_MO_lays_29 : decode m_MO_lays.2.1 29 = .ok (.getfield 108, 3) := by decide +kernel
theorem d_MO_lays_32 : decode m_MO_lays.2.1 32 = .ok (.iload_n 2, 1) := by decide +kernel
theorem d_MO_lays_33 : decode m_MO_lays.2.1 33 = .ok (.iaload, 1) := by decide +kernel
theorem d_MO_lays_34 : decode m_MO_lays.2.1 34 = .ok (.ifCond .ne 11, 3) := by decide +kernel
theorem d_MO_lays_37 : decode m_MO_lays.2.1 37 = .ok (.aload_n 0, 1) := by decide +kernel
theorem d_MO_lays_38 : decode m_MO_lays.2.1 38 = .ok (.iload_n 2, 1) := by decide +kernel
theorem d_MO_lays_39 : decode m_MO_lays.2.1 39 = .ok (.invokevirtual 417, 3) := by decide +kernel
theorem d_MO_lays_42 : decode m_MO_lays.2.1 42 = .ok (.goto 26, 3) := by decide +kernel
theorem d_MO_lays_45 : decode m_MO_lays.2.1 45 = .ok (.aload_n 0, 1) := by decide +kernel
theorem d_MO_lays_46 : decode m_MO_lays.2.1 46 = .ok (.getfield 108, 3) := by decide +kernel
theorem d_MO_lays_49 : decode m_MO_lays.2.1 49 = .ok (.iload_n 2, 1) := by decide +kernel
theorem d_MO_lays_50 : decode m_MO_lays.2.1 50 = .ok (.iaload, 1) := by decide +kernel
theorem d_MO_lays_51 : decode m_MO_lays.2.1 51 = .ok (.iconst 1, 1) := by decide +kernel
theorem d_MO_lays_52 : decode m_MO_lays.2.1 52 = .ok (.if_icmp .ne 11, 3) := by decide +kernel
theorem d_MO_lays_55 : decode m_MO_lays.2.1 55 = .ok (.aload_n 0, 1) := by decide +kernel
theorem d_MO_lays_56 : decode m_MO_lays.2.1 56 = .ok (.iload_n 2, 1) := by decide +kernel
theorem d_MO_lays_57 : decode m_MO_lays.2.1 57 = .ok (.invokevirtual 420, 3) := by decide +kernel
theorem d_MO_lays_60 : decode m_MO_lays.2.1 60 = .ok (.goto 8, 3) := by decide +kernel
theorem d_MO_lays_63 : decode m_MO_lays.2.1 63 = .ok (.aload_n 0, 1) := by decide +kernel
theorem d_MO_lays_64 : decode m_MO_lays.2.1 64 = .ok (.iload_n 2, 1) := by decide +kernel
theorem d_MO_lays_65 : decode m_MO_lays.2.1 65 = .ok (.invokevirtual 423, 3) := by decide +kernel
theorem d_MO_lays_68 : decode m_MO_lays.2.1 68 = .ok (.iinc 2 1, 3) := by decide +kernel
theorem d_MO_lays_71 : decode m_MO_lays.2.1 71 = .ok (.goto (-48), 3) := by decide +kernel
theorem d_MO_lays_74 : decode m_MO_lays.2.1 74 = .ok (.return_, 1) := by decide +kernel
theorem d_MO_laysAnswer_0 : decode m_MO_laysAnswer.2.1 0 = .ok (.sipush 1620, 3) := by decide +kernel
theorem d_MO_laysAnswer_3 : decode m_MO_laysAnswer.2.1 3 = .ok (.iload_n 1, 1) := by decide +kernel
theorem d_MO_laysAnswer_4 : decode m_MO_laysAnswer.2.1 4 = .ok (.imul, 1) := by decide +kernel
theorem d_MO_laysAnswer_5 : decode m_MO_laysAnswer.2.1 5 = .ok (.bipush 54, 2) := by decide +kernel
theorem d_MO_laysAnswer_7 : decode m_MO_laysAnswer.2.1 7 = .ok (.aload_n 0, 1) := by decide +kernel
theorem d_MO_laysAnswer_8 : decode m_MO_laysAnswer.2.1 8 = .ok (.getfield 144, 3) := by decide +kernel
theorem d_MO_laysAnswer_11 : decode m_MO_laysAnswer.2.1 11 = .ok (.iload_n 1, 1) := by decide +kernel
theorem d_MO_laysAnswer_12 : decode m_MO_laysAnswer.2.1 12 = .ok (.iaload, 1) := by decide +kernel
theorem d_MO_laysAnswer_13 : decode m_MO_laysAnswer.2.1 13 = .ok (.imul, 1) := by decide +kernel
theorem d_MO_laysAnswer_14 : decode m_MO_laysAnswer.2.1 14 = .ok (.iadd, 1) := by decide +kernel
theorem d_MO_laysAnswer_15 : decode m_MO_laysAnswer.2.1 15 = .ok (.istore_n 3, 1) := by decide +kernel
theorem d_MO_laysAnswer_16 : decode m_MO_laysAnswer.2.1 16 = .ok (.iconst 0, 1) := by decide +kernel
theorem d_MO_laysAnswer_17 : decode m_MO_laysAnswer.2.1 17 = .ok (.istore 4, 2) := by decide +kernel
theorem d_MO_laysAnswer_19 : decode m_MO_laysAnswer.2.1 19 = .ok (.iload 4, 2) := by decide +kernel
theorem d_MO_laysAnswer_21 : decode m_MO_laysAnswer.2.1 21 = .ok (.aload_n 0, 1) := by decide +kernel
theorem d_MO_laysAnswer_22 : decode m_MO_laysAnswer.2.1 22 = .ok (.getfield 114, 3) := by decide +kernel
theorem d_MO_laysAnswer_25 : decode m_MO_laysAnswer.2.1 25 = .ok (.iload_n 1, 1) := by decide +kernel
theorem d_MO_laysAnswer_26 : decode m_MO_laysAnswer.2.1 26 = .ok (.iaload, 1) := by decide +kernel
theorem d_MO_laysAnswer_27 : decode m_MO_laysAnswer.2.1 27 = .ok (.if_icmp .ge 45, 3) := by decide +kernel
theorem d_MO_laysAnswer_30 : decode m_MO_laysAnswer.2.1 30 = .ok (.aload_n 0, 1) := by decide +kernel
theorem d_MO_laysAnswer_31 : decode m_MO_laysAnswer.2.1 31 = .ok (.getfield 150, 3) := by decide +kernel
theorem d_MO_laysAnswer_34 : decode m_MO_laysAnswer.2.1 34 = .ok (.iload_n 3, 1) := by decide +kernel
theorem d_MO_laysAnswer_35 : decode m_MO_laysAnswer.2.1 35 = .ok (.iload 4, 2) := by decide +kernel
theorem d_MO_laysAnswer_37 : decode m_MO_laysAnswer.2.1 37 = .ok (.iadd, 1) := by decide +kernel
theorem d_MO_laysAnswer_38 : decode m_MO_laysAnswer.2.1 38 = .ok (.aload_n 0, 1) := by decide +kernel
theorem d_MO_laysAnswer_39 : decode m_MO_laysAnswer.2.1 39 = .ok (.getfield 150, 3) := by decide +kernel
theorem d_MO_laysAnswer_42 : decode m_MO_laysAnswer.2.1 42 = .ok (.iload_n 2, 1) := by decide +kernel
theorem d_MO_laysAnswer_43 : decode m_MO_laysAnswer.2.1 43 = .ok (.iload 4, 2) := by decide +kernel
theorem d_MO_laysAnswer_45 : decode m_MO_laysAnswer.2.1 45 = .ok (.iadd, 1) := by decide +kernel
theorem d_MO_laysAnswer_46 : decode m_MO_laysAnswer.2.1 46 = .ok (.iaload, 1) := by decide +kernel
theorem d_MO_laysAnswer_47 : decode m_MO_laysAnswer.2.1 47 = .ok (.iastore, 1) := by decide +kernel
theorem d_MO_laysAnswer_48 : decode m_MO_laysAnswer.2.1 48 = .ok (.aload_n 0, 1) := by decide +kernel
theorem d_MO_laysAnswer_49 : decode m_MO_laysAnswer.2.1 49 = .ok (.getfield 153, 3) := by decide +kernel
theorem d_MO_laysAnswer_52 : decode m_MO_laysAnswer.2.1 52 = .ok (.iload_n 3, 1) := by decide +kernel
theorem d_MO_laysAnswer_53 : decode m_MO_laysAnswer.2.1 53 = .ok (.iload 4, 2) := by decide +kernel
theorem d_MO_laysAnswer_55 : decode m_MO_laysAnswer.2.1 55 = .ok (.iadd, 1) := by decide +kernel
theorem d_MO_laysAnswer_56 : decode m_MO_laysAnswer.2.1 56 = .ok (.aload_n 0, 1) := by decide +kernel
theorem d_MO_laysAnswer_57 : decode m_MO_laysAnswer.2.1 57 = .ok (.getfield 153, 3) := by decide +kernel
theorem d_MO_laysAnswer_60 : decode m_MO_laysAnswer.2.1 60 = .ok (.iload_n 2, 1) := by decide +kernel
theorem d_MO_laysAnswer_61 : decode m_MO_laysAnswer.2.1 61 = .ok (.iload 4, 2) := by decide +kernel
theorem d_MO_laysAnswer_63 : decode m_MO_laysAnswer.2.1 63 = .ok (.iadd, 1) := by decide +kernel
theorem d_MO_laysAnswer_64 : decode m_MO_laysAnswer.2.1 64 = .ok (.iaload, 1) := by decide +kernel
theorem d_MO_laysAnswer_65 : decode m_MO_laysAnswer.2.1 65 = .ok (.iastore, 1) := by decide +kernel
theorem d_MO_laysAnswer_66 : decode m_MO_laysAnswer.2.1 66 = .ok (.iinc 4 1, 3) := by decide +kernel
theorem d_MO_laysAnswer_69 : decode m_MO_laysAnswer.2.1 69 = .ok (.goto (-50), 3) := by decide +kernel
theorem d_MO_laysAnswer_72 : decode m_MO_laysAnswer.2.1 72 = .ok (.aload_n 0, 1) := by decide +kernel
theorem d_MO_laysAnswer_73 : decode m_MO_laysAnswer.2.1 73 = .ok (.getfield 117, 3) := by decide +kernel
theorem d_MO_laysAnswer_76 : decode m_MO_laysAnswer.2.1 76 = .ok (.iload_n 1, 1) := by decide +kernel
theorem d_MO_laysAnswer_77 : decode m_MO_laysAnswer.2.1 77 = .ok (.iaload, 1) := by decide +kernel
theorem d_MO_laysAnswer_78 : decode m_MO_laysAnswer.2.1 78 = .ok (.iconst (-1), 1) := by decide +kernel
theorem d_MO_laysAnswer_79 : decode m_MO_laysAnswer.2.1 79 = .ok (.if_icmp .ne 10, 3) := by decide +kernel
theorem d_MO_laysAnswer_82 : decode m_MO_laysAnswer.2.1 82 = .ok (.aload_n 0, 1) := by decide +kernel
theorem d_MO_laysAnswer_83 : decode m_MO_laysAnswer.2.1 83 = .ok (.iload_n 1, 1) := by decide +kernel
theorem d_MO_laysAnswer_84 : decode m_MO_laysAnswer.2.1 84 = .ok (.iload_n 3, 1) := by decide +kernel
theorem d_MO_laysAnswer_85 : decode m_MO_laysAnswer.2.1 85 = .ok (.invokevirtual 391, 3) := by decide +kernel
theorem d_MO_laysAnswer_88 : decode m_MO_laysAnswer.2.1 88 = .ok (.ireturn, 1) := by decide +kernel
theorem d_MO_laysAnswer_89 : decode m_MO_laysAnswer.2.1 89 = .ok (.aload_n 0, 1) := by decide +kernel
theorem d_MO_laysAnswer_90 : decode m_MO_laysAnswer.2.1 90 = .ok (.getfield 150, 3) := by decide +kernel
theorem d_MO_laysAnswer_93 : decode m_MO_laysAnswer.2.1 93 = .ok (.iload_n 2, 1) := by decide +kernel
theorem d_MO_laysAnswer_94 : decode m_MO_laysAnswer.2.1 94 = .ok (.aload_n 0, 1) := by decide +kernel
theorem d_MO_laysAnswer_95 : decode m_MO_laysAnswer.2.1 95 = .ok (.getfield 117, 3) := by decide +kernel
theorem d_MO_laysAnswer_98 : decode m_MO_laysAnswer.2.1 98 = .ok (.iload_n 1, 1) := by decide +kernel
theorem d_MO_laysAnswer_99 : decode m_MO_laysAnswer.2.1 99 = .ok (.iaload, 1) := by decide +kernel
theorem d_MO_laysAnswer_100 : decode m_MO_laysAnswer.2.1 100 = .ok (.iadd, 1) := by decide +kernel
theorem d_MO_laysAnswer_101 : decode m_MO_laysAnswer.2.1 101 = .ok (.iaload, 1) := by decide +kernel
theorem d_MO_laysAnswer_102 : decode m_MO_laysAnswer.2.1 102 = .ok (.istore 4, 2) := by decide +kernel
theorem d_MO_laysAnswer_104 : decode m_MO_laysAnswer.2.1 104 = .ok (.aload_n 0, 1) := by decide +kernel
theorem d_MO_laysAnswer_105 : decode m_MO_laysAnswer.2.1 105 = .ok (.getfield 22, 3) := by decide +kernel
theorem d_MO_laysAnswer_108 : decode m_MO_laysAnswer.2.1 108 = .ok (.aload_n 0, 1) := by decide +kernel
theorem d_MO_laysAnswer_109 : decode m_MO_laysAnswer.2.1 109 = .ok (.aload_n 0, 1) := by decide +kernel
theorem d_MO_laysAnswer_110 : decode m_MO_laysAnswer.2.1 110 = .ok (.getfield 111, 3) := by decide +kernel
theorem d_MO_laysAnswer_113 : decode m_MO_laysAnswer.2.1 113 = .ok (.iload_n 1, 1) := by decide +kernel
theorem d_MO_laysAnswer_114 : decode m_MO_laysAnswer.2.1 114 = .ok (.iaload, 1) := by decide +kernel
theorem d_MO_laysAnswer_115 : decode m_MO_laysAnswer.2.1 115 = .ok (.aload_n 0, 1) := by decide +kernel
theorem d_MO_laysAnswer_116 : decode m_MO_laysAnswer.2.1 116 = .ok (.getfield 117, 3) := by decide +kernel
theorem d_MO_laysAnswer_119 : decode m_MO_laysAnswer.2.1 119 = .ok (.iload_n 1, 1) := by decide +kernel
theorem d_MO_laysAnswer_120 : decode m_MO_laysAnswer.2.1 120 = .ok (.iaload, 1) := by decide +kernel
theorem d_MO_laysAnswer_121 : decode m_MO_laysAnswer.2.1 121 = .ok (.invokevirtual 342, 3) := by decide +kernel
theorem d_MO_laysAnswer_124 : decode m_MO_laysAnswer.2.1 124 = .ok (.iaload, 1) := by decide +kernel
theorem d_MO_laysAnswer_125 : decode m_MO_laysAnswer.2.1 125 = .ok (.istore 5, 2) := by decide +kernel
theorem d_MO_laysAnswer_127 : decode m_MO_laysAnswer.2.1 127 = .ok (.aload_n 0, 1) := by decide +kernel
theorem d_MO_laysAnswer_128 : decode m_MO_laysAnswer.2.1 128 = .ok (.getfield 114, 3) := by decide +kernel
theorem d_MO_laysAnswer_131 : decode m_MO_laysAnswer.2.1 131 = .ok (.iload_n 1, 1) := by decide +kernel
theorem d_MO_laysAnswer_132 : decode m_MO_laysAnswer.2.1 132 = .ok (.iaload, 1) := by decide +kernel
theorem d_MO_laysAnswer_133 : decode m_MO_laysAnswer.2.1 133 = .ok (.istore 6, 2) := by decide +kernel
theorem d_MO_laysAnswer_135 : decode m_MO_laysAnswer.2.1 135 = .ok (.iload 6, 2) := by decide +kernel
theorem d_MO_laysAnswer_137 : decode m_MO_laysAnswer.2.1 137 = .ok (.aload_n 0, 1) := by decide +kernel
theorem d_MO_laysAnswer_138 : decode m_MO_laysAnswer.2.1 138 = .ok (.getfield 147, 3) := by decide +kernel
theorem d_MO_laysAnswer_141 : decode m_MO_laysAnswer.2.1 141 = .ok (.iload_n 1, 1) := by decide +kernel
theorem d_MO_laysAnswer_142 : decode m_MO_laysAnswer.2.1 142 = .ok (.iaload, 1) := by decide +kernel
theorem d_MO_laysAnswer_143 : decode m_MO_laysAnswer.2.1 143 = .ok (.if_icmp .ge 57, 3) := by decide +kernel
theorem d_MO_laysAnswer_146 : decode m_MO_laysAnswer.2.1 146 = .ok (.iload 4, 2) := by decide +kernel
theorem d_MO_laysAnswer_148 : decode m_MO_laysAnswer.2.1 148 = .ok (.ldc 186, 2) := by decide +kernel
theorem d_MO_laysAnswer_150 : decode m_MO_laysAnswer.2.1 150 = .ok (.if_icmp .eq 50, 3) := by decide +kernel
theorem d_MO_laysAnswer_153 : decode m_MO_laysAnswer.2.1 153 = .ok (.aload_n 0, 1) := by decide +kernel
theorem d_MO_laysAnswer_154 : decode m_MO_laysAnswer.2.1 154 = .ok (.getfield 150, 3) := by decide +kernel
theorem d_MO_laysAnswer_157 : decode m_MO_laysAnswer.2.1 157 = .ok (.iload_n 3, 1) := by decide +kernel
theorem d_MO_laysAnswer_158 : decode m_MO_laysAnswer.2.1 158 = .ok (.iload 6, 2) := by decide +kernel
theorem d_MO_laysAnswer_160 : decode m_MO_laysAnswer.2.1 160 = .ok (.iadd, 1) := by decide +kernel
theorem d_MO_laysAnswer_161 : decode m_MO_laysAnswer.2.1 161 = .ok (.aload_n 0, 1) := by decide +kernel
theorem d_MO_laysAnswer_162 : decode m_MO_laysAnswer.2.1 162 = .ok (.getfield 77, 3) := by decide +kernel
theorem d_MO_laysAnswer_165 : decode m_MO_laysAnswer.2.1 165 = .ok (.iload 5, 2) := by decide +kernel
theorem d_MO_laysAnswer_167 : decode m_MO_laysAnswer.2.1 167 = .ok (.iload 4, 2) := by decide +kernel
theorem d_MO_laysAnswer_169 : decode m_MO_laysAnswer.2.1 169 = .ok (.iload 6, 2) := by decide +kernel
theorem d_MO_laysAnswer_171 : decode m_MO_laysAnswer.2.1 171 = .ok (.aload_n 0, 1) := by decide +kernel
theorem d_MO_laysAnswer_172 : decode m_MO_laysAnswer.2.1 172 = .ok (.getfield 114, 3) := by decide +kernel
theorem d_MO_laysAnswer_175 : decode m_MO_laysAnswer.2.1 175 = .ok (.iload_n 1, 1) := by decide +kernel
theorem d_MO_laysAnswer_176 : decode m_MO_laysAnswer.2.1 176 = .ok (.iaload, 1) := by decide +kernel
theorem d_MO_laysAnswer_177 : decode m_MO_laysAnswer.2.1 177 = .ok (.isub, 1) := by decide +kernel
theorem d_MO_laysAnswer_178 : decode m_MO_laysAnswer.2.1 178 = .ok (.invokestatic 225, 3) := by decide +kernel
theorem d_MO_laysAnswer_181 : decode m_MO_laysAnswer.2.1 181 = .ok (.iaload, 1) := by decide +kernel
theorem d_MO_laysAnswer_182 : decode m_MO_laysAnswer.2.1 182 = .ok (.iastore, 1) := by decide +kernel
theorem d_MO_laysAnswer_183 : decode m_MO_laysAnswer.2.1 183 = .ok (.aload_n 0, 1) := by decide +kernel
theorem d_MO_laysAnswer_184 : decode m_MO_laysAnswer.2.1 184 = .ok (.getfield 153, 3) := by decide +kernel
theorem d_MO_laysAnswer_187 : decode m_MO_laysAnswer.2.1 187 = .ok (.iload_n 3, 1) := by decide +kernel
theorem d_MO_laysAnswer_188 : decode m_MO_laysAnswer.2.1 188 = .ok (.iload 6, 2) := by decide +kernel
theorem d_MO_laysAnswer_190 : decode m_MO_laysAnswer.2.1 190 = .ok (.iadd, 1) := by decide +kernel
theorem d_MO_laysAnswer_191 : decode m_MO_laysAnswer.2.1 191 = .ok (.iload 4, 2) := by decide +kernel
theorem d_MO_laysAnswer_193 : decode m_MO_laysAnswer.2.1 193 = .ok (.iastore, 1) := by decide +kernel
theorem d_MO_laysAnswer_194 : decode m_MO_laysAnswer.2.1 194 = .ok (.iinc 6 1, 3) := by decide +kernel
theorem d_MO_laysAnswer_197 : decode m_MO_laysAnswer.2.1 197 = .ok (.goto (-62), 3) := by decide +kernel
theorem d_MO_laysAnswer_200 : decode m_MO_laysAnswer.2.1 200 = .ok (.iload 4, 2) := by decide +kernel
theorem d_MO_laysAnswer_202 : decode m_MO_laysAnswer.2.1 202 = .ok (.ldc 186, 2) := by decide +kernel
theorem d_MO_laysAnswer_204 : decode m_MO_laysAnswer.2.1 204 = .ok (.if_icmp .eq 16, 3) := by decide +kernel
theorem d_MO_laysAnswer_207 : decode m_MO_laysAnswer.2.1 207 = .ok (.aload_n 0, 1) := by decide +kernel
theorem d_MO_laysAnswer_208 : decode m_MO_laysAnswer.2.1 208 = .ok (.iload_n 1, 1) := by decide +kernel
theorem d_MO_laysAnswer_209 : decode m_MO_laysAnswer.2.1 209 = .ok (.iload_n 3, 1) := by decide +kernel
theorem d_MO_laysAnswer_210 : decode m_MO_laysAnswer.2.1 210 = .ok (.invokevirtual 391, 3) := by decide +kernel
theorem d_MO_laysAnswer_213 : decode m_MO_laysAnswer.2.1 213 = .ok (.ifCond .eq 7, 3) := by decide +kernel
theorem d_MO_laysAnswer_216 : decode m_MO_laysAnswer.2.1 216 = .ok (.iconst 1, 1) := by decide +kernel
theorem d_MO_laysAnswer_217 : decode m_MO_laysAnswer.2.1 217 = .ok (.goto 4, 3) := by decide +kernel
theorem d_MO_laysAnswer_220 : decode m_MO_laysAnswer.2.1 220 = .ok (.iconst 0, 1) := by decide +kernel
theorem d_MO_laysAnswer_221 : decode m_MO_laysAnswer.2.1 221 = .ok (.ireturn, 1) := by decide +kernel
theorem d_MO_laysCross_0 : decode m_MO_laysCross.2.1 0 = .ok (.aload_n 0, 1) := by decide +kernel
theorem d_MO_laysCross_1 : decode m_MO_laysCross.2.1 1 = .ok (.getfield 111, 3) := by decide +kernel
theorem d_MO_laysCross_4 : decode m_MO_laysCross.2.1 4 = .ok (.iload_n 1, 1) := by decide +kernel
theorem d_MO_laysCross_5 : decode m_MO_laysCross.2.1 5 = .ok (.iaload, 1) := by decide +kernel
theorem d_MO_laysCross_6 : decode m_MO_laysCross.2.1 6 = .ok (.invokestatic 394, 3) := by decide +kernel
theorem d_MO_laysCross_9 : decode m_MO_laysCross.2.1 9 = .ok (.istore_n 2, 1) := by decide +kernel
theorem d_MO_laysCross_10 : decode m_MO_laysCross.2.1 10 = .ok (.aload_n 0, 1) := by decide +kernel
theorem d_MO_laysCross_11 : decode m_MO_laysCross.2.1 11 = .ok (.iload_n 2, 1) := by decide +kernel
theorem d_MO_laysCross_12 : decode m_MO_laysCross.2.1 12 = .ok (.aload_n 0, 1) := by decide +kernel
theorem d_MO_laysCross_13 : decode m_MO_laysCross.2.1 13 = .ok (.getfield 123, 3) := by decide +kernel
theorem d_MO_laysCross_16 : decode m_MO_laysCross.2.1 16 = .ok (.iload_n 1, 1) := by decide +kernel
theorem d_MO_laysCross_17 : decode m_MO_laysCross.2.1 17 = .ok (.iaload, 1) := by decide +kernel
theorem d_MO_laysCross_18 : decode m_MO_laysCross.2.1 18 = .ok (.invokevirtual 406, 3) := by decide +kernel
theorem d_MO_laysCross_21 : decode m_MO_laysCross.2.1 21 = .ok (.aload_n 0, 1) := by decide +kernel
theorem d_MO_laysCross_22 : decode m_MO_laysCross.2.1 22 = .ok (.getfield 147, 3) := by decide +kernel
theorem d_MO_laysCross_25 : decode m_MO_laysCross.2.1 25 = .ok (.iload_n 1, 1) := by decide +kernel
theorem d_MO_laysCross_26 : decode m_MO_laysCross.2.1 26 = .ok (.iconst 1, 1) := by decide +kernel
theorem d_MO_laysCross_27 : decode m_MO_laysCross.2.1 27 = .ok (.aload_n 0, 1) := by decide +kernel
theorem d_MO_laysCross_28 : decode m_MO_laysCross.2.1 28 = .ok (.getfield 400, 3) := by decide +kernel
theorem d_MO_laysCross_31 : decode m_MO_laysCross.2.1 31 = .ok (.iadd, 1) := by decide +kernel
theorem d_MO_laysCross_32 : decode m_MO_laysCross.2.1 32 = .ok (.iastore, 1) := by decide +kernel
theorem d_MO_laysCross_33 : decode m_MO_laysCross.2.1 33 = .ok (.iconst 0, 1) := by decide +kernel
theorem d_MO_laysCross_34 : decode m_MO_laysCross.2.1 34 = .ok (.istore_n 3, 1) := by decide +kernel
theorem d_MO_laysCross_35 : decode m_MO_laysCross.2.1 35 = .ok (.iload_n 3, 1) := by decide +kernel
theorem d_MO_laysCross_36 : decode m_MO_laysCross.2.1 36 = .ok (.aload_n 0, 1) := by decide +kernel
theorem d_MO_laysCross_37 : decode m_MO_laysCross.2.1 37 = .ok (.getfield 400, 3) := by decide +kernel
theorem d_MO_laysCross_40 : decode m_MO_laysCross.2.1 40 = .ok (.if_icmp .ge 26, 3) := by decide +kernel
theorem d_MO_laysCross_43 : decode m_MO_laysCross.2.1 43 = .ok (.aload_n 0, 1) := by decide +kernel
theorem d_MO_laysCross_44 : decode m_MO_laysCross.2.1 44 = .ok (.getfield 159, 3) := by decide +kernel
theorem d_MO_laysCross_47 : decode m_MO_laysCross.2.1 47 = .ok (.bipush 30, 2) := by decide +kernel
theorem d_MO_laysCross_49 : decode m_MO_laysCross.2.1 49 = .ok (.iload_n 1, 1) := by decide +kernel
theorem d_MO_laysCross_50 : decode m_MO_laysCross.2.1 50 = .ok (.imul, 1) := by decide +kernel
theorem d_MO_laysCross_51 : decode m_MO_laysCross.2.1 51 = .ok (.iload_n 3, 1) := by decide +kernel
theorem d_MO_laysCross_52 : decode m_MO_laysCross.2.1 52 = .ok (.iadd, 1) := by decide +kernel
theorem d_MO_laysCross_53 : decode m_MO_laysCross.2.1 53 = .ok (.aload_n 0, 1) := by decide +kernel
theorem d_MO_laysCross_54 : decode m_MO_laysCross.2.1 54 = .ok (.getfield 162, 3) := by decide +kernel
theorem d_MO_laysCross_57 : decode m_MO_laysCross.2.1 57 = .ok (.iload_n 3, 1) := by decide +kernel
theorem d_MO_laysCross_58 : decode m_MO_laysCross.2.1 58 = .ok (.iaload, 1) := by decide +kernel
theorem d_MO_laysCross_59 : decode m_MO_laysCross.2.1 59 = .ok (.iastore, 1) := by decide +kernel
theorem d_MO_laysCross_60 : decode m_MO_laysCross.2.1 60 = .ok (.iinc 3 1, 3) := by decide +kernel
theorem d_MO_laysCross_63 : decode m_MO_laysCross.2.1 63 = .ok (.goto (-28), 3) := by decide +kernel
theorem d_MO_laysCross_66 : decode m_MO_laysCross.2.1 66 = .ok (.aload_n 0, 1) := by decide +kernel
theorem d_MO_laysCross_67 : decode m_MO_laysCross.2.1 67 = .ok (.iload_n 2, 1) := by decide +kernel
theorem d_MO_laysCross_68 : decode m_MO_laysCross.2.1 68 = .ok (.aload_n 0, 1) := by decide +kernel
theorem d_MO_laysCross_69 : decode m_MO_laysCross.2.1 69 = .ok (.getfield 120, 3) := by decide +kernel
theorem d_MO_laysCross_72 : decode m_MO_laysCross.2.1 72 = .ok (.iload_n 1, 1) := by decide +kernel
theorem d_MO_laysCross_73 : decode m_MO_laysCross.2.1 73 = .ok (.iaload, 1) := by decide +kernel
theorem d_MO_laysCross_74 : decode m_MO_laysCross.2.1 74 = .ok (.invokevirtual 406, 3) := by decide +kernel
theorem d_MO_laysCross_77 : decode m_MO_laysCross.2.1 77 = .ok (.aload_n 0, 1) := by decide +kernel
theorem d_MO_laysCross_78 : decode m_MO_laysCross.2.1 78 = .ok (.getfield 144, 3) := by decide +kernel
theorem d_MO_laysCross_81 : decode m_MO_laysCross.2.1 81 = .ok (.iload_n 1, 1) := by decide +kernel
theorem d_MO_laysCross_82 : decode m_MO_laysCross.2.1 82 = .ok (.aload_n 0, 1) := by decide +kernel
theorem d_MO_laysCross_83 : decode m_MO_laysCross.2.1 83 = .ok (.getfield 400, 3) := by decide +kernel
theorem d_MO_laysCross_86 : decode m_MO_laysCross.2.1 86 = .ok (.iastore, 1) := by decide +kernel
theorem d_MO_laysCross_87 : decode m_MO_laysCross.2.1 87 = .ok (.iconst 0, 1) := by decide +kernel
theorem d_MO_laysCross_88 : decode m_MO_laysCross.2.1 88 = .ok (.istore_n 3, 1) := by decide +kernel
theorem d_MO_laysCross_89 : decode m_MO_laysCross.2.1 89 = .ok (.iload_n 3, 1) := by decide +kernel
theorem d_MO_laysCross_90 : decode m_MO_laysCross.2.1 90 = .ok (.aload_n 0, 1) := by decide +kernel
theorem d_MO_laysCross_91 : decode m_MO_laysCross.2.1 91 = .ok (.getfield 400, 3) := by decide +kernel
theorem d_MO_laysCross_94 : decode m_MO_laysCross.2.1 94 = .ok (.if_icmp .ge 90, 3) := by decide +kernel
theorem d_MO_laysCross_97 : decode m_MO_laysCross.2.1 97 = .ok (.sipush 1620, 3) := by decide +kernel
theorem d_MO_laysCross_100 : decode m_MO_laysCross.2.1 100 = .ok (.iload_n 1, 1) := by decide +kernel
theorem d_MO_laysCross_101 : decode m_MO_laysCross.2.1 101 = .ok (.imul, 1) := by decide +kernel
theorem d_MO_laysCross_102 : decode m_MO_laysCross.2.1 102 = .ok (.bipush 54, 2) := by decide +kernel
theorem d_MO_laysCross_104 : decode m_MO_laysCross.2.1 104 = .ok (.iload_n 3, 1) := by decide +kernel
theorem d_MO_laysCross_105 : decode m_MO_laysCross.2.1 105 = .ok (.imul, 1) := by decide +kernel
theorem d_MO_laysCross_106 : decode m_MO_laysCross.2.1 106 = .ok (.iadd, 1) := by decide +kernel
theorem d_MO_laysCross_107 : decode m_MO_laysCross.2.1 107 = .ok (.istore 4, 2) := by decide +kernel
theorem d_MO_laysCross_109 : decode m_MO_laysCross.2.1 109 = .ok (.aload_n 0, 1) := by decide +kernel
theorem d_MO_laysCross_110 : decode m_MO_laysCross.2.1 110 = .ok (.getfield 150, 3) := by decide +kernel
theorem d_MO_laysCross_113 : decode m_MO_laysCross.2.1 113 = .ok (.iload 4, 2) := by decide +kernel
theorem d_MO_laysCross_115 : decode m_MO_laysCross.2.1 115 = .ok (.aload_n 0, 1) := by decide +kernel
theorem d_MO_laysCross_116 : decode m_MO_laysCross.2.1 116 = .ok (.getfield 162, 3) := by decide +kernel
theorem d_MO_laysCross_119 : decode m_MO_laysCross.2.1 119 = .ok (.iload_n 3, 1) := by decide +kernel
theorem d_MO_laysCross_120 : decode m_MO_laysCross.2.1 120 = .ok (.iaload, 1) := by decide +kernel
theorem d_MO_laysCross_121 : decode m_MO_laysCross.2.1 121 = .ok (.iastore, 1) := by decide +kernel
theorem d_MO_laysCross_122 : decode m_MO_laysCross.2.1 122 = .ok (.iconst 1, 1) := by decide +kernel
theorem d_MO_laysCross_123 : decode m_MO_laysCross.2.1 123 = .ok (.istore 5, 2) := by decide +kernel
theorem d_MO_laysCross_125 : decode m_MO_laysCross.2.1 125 = .ok (.iload 5, 2) := by decide +kernel
theorem d_MO_laysCross_127 : decode m_MO_laysCross.2.1 127 = .ok (.aload_n 0, 1) := by decide +kernel
theorem d_MO_laysCross_128 : decode m_MO_laysCross.2.1 128 = .ok (.getfield 147, 3) := by decide +kernel
theorem d_MO_laysCross_131 : decode m_MO_laysCross.2.1 131 = .ok (.iload_n 1, 1) := by decide +kernel
theorem d_MO_laysCross_132 : decode m_MO_laysCross.2.1 132 = .ok (.iaload, 1) := by decide +kernel
theorem d_MO_laysCross_133 : decode m_MO_laysCross.2.1 133 = .ok (.if_icmp .ge 45, 3) := by decide +kernel
theorem d_MO_laysCross_136 : decode m_MO_laysCross.2.1 136 = .ok (.aload_n 0, 1) := by decide +kernel
theorem d_MO_laysCross_137 : decode m_MO_laysCross.2.1 137 = .ok (.getfield 150, 3) := by decide +kernel
theorem d_MO_laysCross_140 : decode m_MO_laysCross.2.1 140 = .ok (.iload 4, 2) := by decide +kernel
theorem d_MO_laysCross_142 : decode m_MO_laysCross.2.1 142 = .ok (.iload 5, 2) := by decide +kernel
theorem d_MO_laysCross_144 : decode m_MO_laysCross.2.1 144 = .ok (.iadd, 1) := by decide +kernel
theorem d_MO_laysCross_145 : decode m_MO_laysCross.2.1 145 = .ok (.aload_n 0, 1) := by decide +kernel
theorem d_MO_laysCross_146 : decode m_MO_laysCross.2.1 146 = .ok (.iload_n 1, 1) := by decide +kernel
theorem d_MO_laysCross_147 : decode m_MO_laysCross.2.1 147 = .ok (.iload_n 2, 1) := by decide +kernel
theorem d_MO_laysCross_148 : decode m_MO_laysCross.2.1 148 = .ok (.aload_n 0, 1) := by decide +kernel
theorem d_MO_laysCross_149 : decode m_MO_laysCross.2.1 149 = .ok (.getfield 162, 3) := by decide +kernel
theorem d_MO_laysCross_152 : decode m_MO_laysCross.2.1 152 = .ok (.iload_n 3, 1) := by decide +kernel
theorem d_MO_laysCross_153 : decode m_MO_laysCross.2.1 153 = .ok (.iaload, 1) := by decide +kernel
theorem d_MO_laysCross_154 : decode m_MO_laysCross.2.1 154 = .ok (.aload_n 0, 1) := by decide +kernel
theorem d_MO_laysCross_155 : decode m_MO_laysCross.2.1 155 = .ok (.getfield 159, 3) := by decide +kernel
theorem d_MO_laysCross_158 : decode m_MO_laysCross.2.1 158 = .ok (.bipush 30, 2) := by decide +kernel
theorem d_MO_laysCross_160 : decode m_MO_laysCross.2.1 160 = .ok (.iload_n 1, 1) := by decide +kernel
theorem d_MO_laysCross_161 : decode m_MO_laysCross.2.1 161 = .ok (.imul, 1) := by decide +kernel
theorem d_MO_laysCross_162 : decode m_MO_laysCross.2.1 162 = .ok (.iload 5, 2) := by decide +kernel
theorem d_MO_laysCross_164 : decode m_MO_laysCross.2.1 164 = .ok (.iadd, 1) := by decide +kernel
theorem d_MO_laysCross_165 : decode m_MO_laysCross.2.1 165 = .ok (.iconst 1, 1) := by decide +kernel
theorem d_MO_laysCross_166 : decode m_MO_laysCross.2.1 166 = .ok (.isub, 1) := by decide +kernel
theorem d_MO_laysCross_167 : decode m_MO_laysCross.2.1 167 = .ok (.iaload, 1) := by decide +kernel
theorem d_MO_laysCross_168 : decode m_MO_laysCross.2.1 168 = .ok (.invokevirtual 403, 3) := by decide +kernel
theorem d_MO_laysCross_171 : decode m_MO_laysCross.2.1 171 = .ok (.iastore, 1) := by decide +kernel
theorem d_MO_laysCross_172 : decode m_MO_laysCross.2.1 172 = .ok (.iinc 5 1, 3) := by decide +kernel
theorem d_MO_laysCross_175 : decode m_MO_laysCross.2.1 175 = .ok (.goto (-50), 3) := by decide +kernel
theorem d_MO_laysCross_178 : decode m_MO_laysCross.2.1 178 = .ok (.iinc 3 1, 3) := by decide +kernel
theorem d_MO_laysCross_181 : decode m_MO_laysCross.2.1 181 = .ok (.goto (-92), 3) := by decide +kernel
theorem d_MO_laysCross_184 : decode m_MO_laysCross.2.1 184 = .ok (.return_, 1) := by decide +kernel
theorem d_MO_laysGroup_0 : decode m_MO_laysGroup.2.1 0 = .ok (.iconst 0, 1) := by decide +kernel
theorem d_MO_laysGroup_1 : decode m_MO_laysGroup.2.1 1 = .ok (.istore 5, 2) := by decide +kernel
theorem d_MO_laysGroup_3 : decode m_MO_laysGroup.2.1 3 = .ok (.ldc 186, 2) := by decide +kernel
theorem d_MO_laysGroup_5 : decode m_MO_laysGroup.2.1 5 = .ok (.istore 6, 2) := by decide +kernel
theorem d_MO_laysGroup_7 : decode m_MO_laysGroup.2.1 7 = .ok (.ldc 186, 2) := by decide +kernel
theorem d_MO_laysGroup_9 : decode m_MO_laysGroup.2.1 9 = .ok (.istore 7, 2) := by decide +kernel
theorem d_MO_laysGroup_11 : decode m_MO_laysGroup.2.1 11 = .ok (.iconst 0, 1) := by decide +kernel
theorem d_MO_laysGroup_12 : decode m_MO_laysGroup.2.1 12 = .ok (.istore 8, 2) := by decide +kernel
theorem d_MO_laysGroup_14 : decode m_MO_laysGroup.2.1 14 = .ok (.iload 8, 2) := by decide +kernel
theorem d_MO_laysGroup_16 : decode m_MO_laysGroup.2.1 16 = .ok (.aload_n 0, 1) := by decide +kernel
theorem d_MO_laysGroup_17 : decode m_MO_laysGroup.2.1 17 = .ok (.getfield 144, 3) := by decide +kernel
theorem d_MO_laysGroup_20 : decode m_MO_laysGroup.2.1 20 = .ok (.iload_n 2, 1) := by decide +kernel
theorem d_MO_laysGroup_21 : decode m_MO_laysGroup.2.1 21 = .ok (.iaload, 1) := by decide +kernel
theorem d_MO_laysGroup_22 : decode m_MO_laysGroup.2.1 22 = .ok (.if_icmp .ge 135, 3) := by decide +kernel
theorem d_MO_laysGroup_25 : decode m_MO_laysGroup.2.1 25 = .ok (.sipush 1620, 3) := by decide +kernel
theorem d_MO_laysGroup_28 : decode m_MO_laysGroup.2.1 28 = .ok (.iload_n 2, 1) := by decide +kernel
theorem d_MO_laysGroup_29 : decode m_MO_laysGroup.2.1 29 = .ok (.imul, 1) := by decide +kernel
theorem d_MO_laysGroup_30 : decode m_MO_laysGroup.2.1 30 = .ok (.bipush 54, 2) := by decide +kernel
theorem d_MO_laysGroup_32 : decode m_MO_laysGroup.2.1 32 = .ok (.iload 8, 2) := by decide +kernel
theorem d_MO_laysGroup_34 : decode m_MO_laysGroup.2.1 34 = .ok (.imul, 1) := by decide +kernel
theorem d_MO_laysGroup_35 : decode m_MO_laysGroup.2.1 35 = .ok (.iadd, 1) := by decide +kernel
theorem d_MO_laysGroup_36 : decode m_MO_laysGroup.2.1 36 = .ok (.istore 9, 2) := by decide +kernel
theorem d_MO_laysGroup_38 : decode m_MO_laysGroup.2.1 38 = .ok (.aload_n 0, 1) := by decide +kernel
theorem d_MO_laysGroup_39 : decode m_MO_laysGroup.2.1 39 = .ok (.getfield 150, 3) := by decide +kernel
theorem d_MO_laysGroup_42 : decode m_MO_laysGroup.2.1 42 = .ok (.iload 9, 2) := by decide +kernel
theorem d_MO_laysGroup_44 : decode m_MO_laysGroup.2.1 44 = .ok (.aload_n 0, 1) := by decide +kernel
theorem d_MO_laysGroup_45 : decode m_MO_laysGroup.2.1 45 = .ok (.getfield 120, 3) := by decide +kernel
theorem d_MO_laysGroup_48 : decode m_MO_laysGroup.2.1 48 = .ok (.iload_n 1, 1) := by decide +kernel
theorem d_MO_laysGroup_49 : decode m_MO_laysGroup.2.1 49 = .ok (.iaload, 1) := by decide +kernel
theorem d_MO_laysGroup_50 : decode m_MO_laysGroup.2.1 50 = .ok (.iadd, 1) := by decide +kernel
theorem d_MO_laysGroup_51 : decode m_MO_laysGroup.2.1 51 = .ok (.iaload, 1) := by decide +kernel
theorem d_MO_laysGroup_52 : decode m_MO_laysGroup.2.1 52 = .ok (.iload 4, 2) := by decide +kernel
theorem d_MO_laysGroup_54 : decode m_MO_laysGroup.2.1 54 = .ok (.if_icmp .ne 7, 3) := by decide +kernel
theorem d_MO_laysGroup_57 : decode m_MO_laysGroup.2.1 57 = .ok (.iconst 1, 1) := by decide +kernel
theorem d_MO_laysGroup_58 : decode m_MO_laysGroup.2.1 58 = .ok (.goto 4, 3) := by decide +kernel
theorem d_MO_laysGroup_61 : decode m_MO_laysGroup.2.1 61 = .ok (.iconst 0, 1) := by decide +kernel
theorem d_MO_laysGroup_62 : decode m_MO_laysGroup.2.1 62 = .ok (.istore 10, 2) := by decide +kernel
theorem d_MO_laysGroup_64 : decode m_MO_laysGroup.2.1 64 = .ok (.iload 10, 2) := by decide +kernel
theorem d_MO_laysGroup_66 : decode m_MO_laysGroup.2.1 66 = .ok (.ifCond .eq 20, 3) := by decide +kernel
theorem d_MO_laysGroup_69 : decode m_MO_laysGroup.2.1 69 = .ok (.aload_n 0, 1) := by decide +kernel
theorem d_MO_laysGroup_70 : decode m_MO_laysGroup.2.1 70 = .ok (.getfield 150, 3) := by decide +kernel
theorem d_MO_laysGroup_73 : decode m_MO_laysGroup.2.1 73 = .ok (.iload 9, 2) := by decide +kernel
theorem d_MO_laysGroup_75 : decode m_MO_laysGroup.2.1 75 = .ok (.aload_n 0, 1) := by decide +kernel
theorem d_MO_laysGroup_76 : decode m_MO_laysGroup.2.1 76 = .ok (.getfield 126, 3) := by decide +kernel
theorem d_MO_laysGroup_79 : decode m_MO_laysGroup.2.1 79 = .ok (.iload_n 1, 1) := by decide +kernel
theorem d_MO_laysGroup_80 : decode m_MO_laysGroup.2.1 80 = .ok (.iaload, 1) := by decide +kernel
theorem d_MO_laysGroup_81 : decode m_MO_laysGroup.2.1 81 = .ok (.iadd, 1) := by decide +kernel
theorem d_MO_laysGroup_82 : decode m_MO_laysGroup.2.1 82 = .ok (.iaload, 1) := by decide +kernel
theorem d_MO_laysGroup_83 : decode m_MO_laysGroup.2.1 83 = .ok (.goto 5, 3) := by decide +kernel
theorem d_MO_laysGroup_86 : decode m_MO_laysGroup.2.1 86 = .ok (.ldc 186, 2) := by decide +kernel
theorem d_MO_laysGroup_88 : decode m_MO_laysGroup.2.1 88 = .ok (.istore 11, 2) := by decide +kernel
theorem d_MO_laysGroup_90 : decode m_MO_laysGroup.2.1 90 = .ok (.iload 5, 2) := by decide +kernel
theorem d_MO_laysGroup_92 : decode m_MO_laysGroup.2.1 92 = .ok (.iload 10, 2) := by decide +kernel
theorem d_MO_laysGroup_94 : decode m_MO_laysGroup.2.1 94 = .ok (.ifCond .eq 7, 3) := by decide +kernel
theorem d_MO_laysGroup_97 : decode m_MO_laysGroup.2.1 97 = .ok (.iconst 1, 1) := by decide +kernel
theorem d_MO_laysGroup_98 : decode m_MO_laysGroup.2.1 98 = .ok (.goto 4, 3) := by decide +kernel
theorem d_MO_laysGroup_101 : decode m_MO_laysGroup.2.1 101 = .ok (.iconst 0, 1) := by decide +kernel
theorem d_MO_laysGroup_102 : decode m_MO_laysGroup.2.1 102 = .ok (.iadd, 1) := by decide +kernel
theorem d_MO_laysGroup_103 : decode m_MO_laysGroup.2.1 103 = .ok (.istore 5, 2) := by decide +kernel
theorem d_MO_laysGroup_105 : decode m_MO_laysGroup.2.1 105 = .ok (.iload 11, 2) := by decide +kernel
theorem d_MO_laysGroup_107 : decode m_MO_laysGroup.2.1 107 = .ok (.ldc 186, 2) := by decide +kernel
theorem d_MO_laysGroup_109 : decode m_MO_laysGroup.2.1 109 = .ok (.if_icmp .eq 22, 3) := by decide +kernel
theorem d_MO_laysGroup_112 : decode m_MO_laysGroup.2.1 112 = .ok (.iload 6, 2) := by decide +kernel
theorem d_MO_laysGroup_114 : decode m_MO_laysGroup.2.1 114 = .ok (.ldc 186, 2) := by decide +kernel
theorem d_MO_laysGroup_116 : decode m_MO_laysGroup.2.1 116 = .ok (.if_icmp .eq 10, 3) := by decide +kernel
theorem d_MO_laysGroup_119 : decode m_MO_laysGroup.2.1 119 = .ok (.iload 11, 2) := by decide +kernel
theorem d_MO_laysGroup_121 : decode m_MO_laysGroup.2.1 121 = .ok (.iload 6, 2) := by decide +kernel
theorem d_MO_laysGroup_123 : decode m_MO_laysGroup.2.1 123 = .ok (.if_icmp .ge 8, 3) := by decide +kernel
theorem d_MO_laysGroup_126 : decode m_MO_laysGroup.2.1 126 = .ok (.iload 11, 2) := by decide +kernel
theorem d_MO_laysGroup_128 : decode m_MO_laysGroup.2.1 128 = .ok (.goto 5, 3) := by decide +kernel
theorem d_MO_laysGroup_131 : decode m_MO_laysGroup.2.1 131 = .ok (.iload 6, 2) := by decide +kernel
theorem d_MO_laysGroup_133 : decode m_MO_laysGroup.2.1 133 = .ok (.istore 6, 2) := by decide +kernel
theorem d_MO_laysGroup_135 : decode m_MO_laysGroup.2.1 135 = .ok (.iload 11, 2) := by decide +kernel
theorem d_MO_laysGroup_137 : decode m_MO_laysGroup.2.1 137 = .ok (.iload 7, 2) := by decide +kernel
theorem d_MO_laysGroup_139 : decode m_MO_laysGroup.2.1 139 = .ok (.if_icmp .le 8, 3) := by decide +kernel
theorem d_MO_laysGroup_142 : decode m_MO_laysGroup.2.1 142 = .ok (.iload 11, 2) := by decide +kernel
theorem d_MO_laysGroup_144 : decode m_MO_laysGroup.2.1 144 = .ok (.goto 5, 3) := by decide +kernel
theorem d_MO_laysGroup_147 : decode m_MO_laysGroup.2.1 147 = .ok (.iload 7, 2) := by decide +kernel
theorem d_MO_laysGroup_149 : decode m_MO_laysGroup.2.1 149 = .ok (.istore 7, 2) := by decide +kernel
theorem d_MO_laysGroup_151 : decode m_MO_laysGroup.2.1 151 = .ok (.iinc 8 1, 3) := by decide +kernel
theorem d_MO_laysGroup_154 : decode m_MO_laysGroup.2.1 154 = .ok (.goto (-140), 3) := by decide +kernel
theorem d_MO_laysGroup_157 : decode m_MO_laysGroup.2.1 157 = .ok (.aload_n 0, 1) := by decide +kernel
theorem d_MO_laysGroup_158 : decode m_MO_laysGroup.2.1 158 = .ok (.getfield 150, 3) := by decide +kernel
theorem d_MO_laysGroup_161 : decode m_MO_laysGroup.2.1 161 = .ok (.iload_n 3, 1) := by decide +kernel
theorem d_MO_laysGroup_162 : decode m_MO_laysGroup.2.1 162 = .ok (.iload 4, 2) := by decide +kernel
theorem d_MO_laysGroup_164 : decode m_MO_laysGroup.2.1 164 = .ok (.iastore, 1) := by decide +kernel
theorem d_MO_laysGroup_165 : decode m_MO_laysGroup.2.1 165 = .ok (.aload_n 0, 1) := by decide +kernel
theorem d_MO_laysGroup_166 : decode m_MO_laysGroup.2.1 166 = .ok (.getfield 150, 3) := by decide +kernel
theorem d_MO_laysGroup_169 : decode m_MO_laysGroup.2.1 169 = .ok (.iload_n 3, 1) := by decide +kernel
theorem d_MO_laysGroup_170 : decode m_MO_laysGroup.2.1 170 = .ok (.iconst 1, 1) := by decide +kernel
theorem d_MO_laysGroup_171 : decode m_MO_laysGroup.2.1 171 = .ok (.iadd, 1) := by decide +kernel
theorem d_MO_laysGroup_172 : decode m_MO_laysGroup.2.1 172 = .ok (.iload 5, 2) := by decide +kernel
theorem d_MO_laysGroup_174 : decode m_MO_laysGroup.2.1 174 = .ok (.iastore, 1) := by decide +kernel
theorem d_MO_laysGroup_175 : decode m_MO_laysGroup.2.1 175 = .ok (.aload_n 0, 1) := by decide +kernel
theorem d_MO_laysGroup_176 : decode m_MO_laysGroup.2.1 176 = .ok (.getfield 150, 3) := by decide +kernel
theorem d_MO_laysGroup_179 : decode m_MO_laysGroup.2.1 179 = .ok (.iload_n 3, 1) := by decide +kernel
theorem d_MO_laysGroup_180 : decode m_MO_laysGroup.2.1 180 = .ok (.iconst 2, 1) := by decide +kernel
theorem d_MO_laysGroup_181 : decode m_MO_laysGroup.2.1 181 = .ok (.iadd, 1) := by decide +kernel
theorem d_MO_laysGroup_182 : decode m_MO_laysGroup.2.1 182 = .ok (.aload_n 0, 1) := by decide +kernel
theorem d_MO_laysGroup_183 : decode m_MO_laysGroup.2.1 183 = .ok (.iload_n 1, 1) := by decide +kernel
theorem d_MO_laysGroup_184 : decode m_MO_laysGroup.2.1 184 = .ok (.iload_n 2, 1) := by decide +kernel
theorem d_MO_laysGroup_185 : decode m_MO_laysGroup.2.1 185 = .ok (.iload 4, 2) := by decide +kernel
theorem d_MO_laysGroup_187 : decode m_MO_laysGroup.2.1 187 = .ok (.ldc 186, 2) := by decide +kernel
theorem d_MO_laysGroup_189 : decode m_MO_laysGroup.2.1 189 = .ok (.invokevirtual 403, 3) := by decide +kernel
theorem d_MO_laysGroup_192 : decode m_MO_laysGroup.2.1 192 = .ok (.iastore, 1) := by decide +kernel
theorem d_MO_laysGroup_193 : decode m_MO_laysGroup.2.1 193 = .ok (.aload_n 0, 1) := by decide +kernel
theorem d_MO_laysGroup_194 : decode m_MO_laysGroup.2.1 194 = .ok (.getfield 150, 3) := by decide +kernel
theorem d_MO_laysGroup_197 : decode m_MO_laysGroup.2.1 197 = .ok (.iload_n 3, 1) := by decide +kernel
theorem d_MO_laysGroup_198 : decode m_MO_laysGroup.2.1 198 = .ok (.iconst 3, 1) := by decide +kernel
theorem d_MO_laysGroup_199 : decode m_MO_laysGroup.2.1 199 = .ok (.iadd, 1) := by decide +kernel
theorem d_MO_laysGroup_200 : decode m_MO_laysGroup.2.1 200 = .ok (.iload 6, 2) := by decide +kernel
theorem d_MO_laysGroup_202 : decode m_MO_laysGroup.2.1 202 = .ok (.iastore, 1) := by decide +kernel
theorem d_MO_laysGroup_203 : decode m_MO_laysGroup.2.1 203 = .ok (.aload_n 0, 1) := by decide +kernel
theorem d_MO_laysGroup_204 : decode m_MO_laysGroup.2.1 204 = .ok (.getfield 150, 3) := by decide +kernel
theorem d_MO_laysGroup_207 : decode m_MO_laysGroup.2.1 207 = .ok (.iload_n 3, 1) := by decide +kernel
theorem d_MO_laysGroup_208 : decode m_MO_laysGroup.2.1 208 = .ok (.iconst 4, 1) := by decide +kernel
theorem d_MO_laysGroup_209 : decode m_MO_laysGroup.2.1 209 = .ok (.iadd, 1) := by decide +kernel
theorem d_MO_laysGroup_210 : decode m_MO_laysGroup.2.1 210 = .ok (.iload 7, 2) := by decide +kernel
theorem d_MO_laysGroup_212 : decode m_MO_laysGroup.2.1 212 = .ok (.iastore, 1) := by decide +kernel
theorem d_MO_laysGroup_213 : decode m_MO_laysGroup.2.1 213 = .ok (.return_, 1) := by decide +kernel
theorem d_MO_laysGroups_0 : decode m_MO_laysGroups.2.1 0 = .ok (.aload_n 0, 1) := by decide +kernel
theorem d_MO_laysGroups_1 : decode m_MO_laysGroups.2.1 1 = .ok (.getfield 111, 3) := by decide +kernel
theorem d_MO_laysGroups_4 : decode m_MO_laysGroups.2.1 4 = .ok (.iload_n 1, 1) := by decide +kernel
theorem d_MO_laysGroups_5 : decode m_MO_laysGroups.2.1 5 = .ok (.iaload, 1) := by decide +kernel
theorem d_MO_laysGroups_6 : decode m_MO_laysGroups.2.1 6 = .ok (.invokestatic 394, 3) := by decide +kernel
theorem d_MO_laysGroups_9 : decode m_MO_laysGroups.2.1 9 = .ok (.istore_n 2, 1) := by decide +kernel
theorem d_MO_laysGroups_10 : decode m_MO_laysGroups.2.1 10 = .ok (.aload_n 0, 1) := by decide +kernel
theorem d_MO_laysGroups_11 : decode m_MO_laysGroups.2.1 11 = .ok (.iload_n 2, 1) := by decide +kernel
theorem d_MO_laysGroups_12 : decode m_MO_laysGroups.2.1 12 = .ok (.aload_n 0, 1) := by decide +kernel
theorem d_MO_laysGroups_13 : decode m_MO_laysGroups.2.1 13 = .ok (.getfield 120, 3) := by decide +kernel
theorem d_MO_laysGroups_16 : decode m_MO_laysGroups.2.1 16 = .ok (.iload_n 1, 1) := by decide +kernel
theorem d_MO_laysGroups_17 : decode m_MO_laysGroups.2.1 17 = .ok (.iaload, 1) := by decide +kernel
theorem d_MO_laysGroups_18 : decode m_MO_laysGroups.2.1 18 = .ok (.invokevirtual 406, 3) := by decide +kernel
theorem d_MO_laysGroups_21 : decode m_MO_laysGroups.2.1 21 = .ok (.aload_n 0, 1) := by decide +kernel
theorem d_MO_laysGroups_22 : decode m_MO_laysGroups.2.1 22 = .ok (.getfield 144, 3) := by decide +kernel
theorem d_MO_laysGroups_25 : decode m_MO_laysGroups.2.1 25 = .ok (.iload_n 1, 1) := by decide +kernel
theorem d_MO_laysGroups_26 : decode m_MO_laysGroups.2.1 26 = .ok (.aload_n 0, 1) := by decide +kernel
theorem d_MO_laysGroups_27 : decode m_MO_laysGroups.2.1 27 = .ok (.getfield 400, 3) := by decide +kernel
theorem d_MO_laysGroups_30 : decode m_MO_laysGroups.2.1 30 = .ok (.iastore, 1) := by decide +kernel
theorem d_MO_laysGroups_31 : decode m_MO_laysGroups.2.1 31 = .ok (.iconst 0, 1) := by decide +kernel
theorem d_MO_laysGroups_32 : decode m_MO_laysGroups.2.1 32 = .ok (.istore_n 3, 1) := by decide +kernel
theorem d_MO_laysGroups_33 : decode m_MO_laysGroups.2.1 33 = .ok (.iload_n 3, 1) := by decide +kernel
theorem d_MO_laysGroups_34 : decode m_MO_laysGroups.2.1 34 = .ok (.aload_n 0, 1) := by decide +kernel
theorem d_MO_laysGroups_35 : decode m_MO_laysGroups.2.1 35 = .ok (.getfield 400, 3) := by decide +kernel
theorem d_MO_laysGroups_38 : decode m_MO_laysGroups.2.1 38 = .ok (.if_icmp .ge 31, 3) := by decide +kernel
theorem d_MO_laysGroups_41 : decode m_MO_laysGroups.2.1 41 = .ok (.aload_n 0, 1) := by decide +kernel
theorem d_MO_laysGroups_42 : decode m_MO_laysGroups.2.1 42 = .ok (.iload_n 1, 1) := by decide +kernel
theorem d_MO_laysGroups_43 : decode m_MO_laysGroups.2.1 43 = .ok (.iload_n 2, 1) := by decide +kernel
theorem d_MO_laysGroups_44 : decode m_MO_laysGroups.2.1 44 = .ok (.sipush 1620, 3) := by decide +kernel
theorem d_MO_laysGroups_47 : decode m_MO_laysGroups.2.1 47 = .ok (.iload_n 1, 1) := by decide +kernel
theorem d_MO_laysGroups_48 : decode m_MO_laysGroups.2.1 48 = .ok (.imul, 1) := by decide +kernel
theorem d_MO_laysGroups_49 : decode m_MO_laysGroups.2.1 49 = .ok (.bipush 54, 2) := by decide +kernel
theorem d_MO_laysGroups_51 : decode m_MO_laysGroups.2.1 51 = .ok (.iload_n 3, 1) := by decide +kernel
theorem d_MO_laysGroups_52 : decode m_MO_laysGroups.2.1 52 = .ok (.imul, 1) := by decide +kernel
theorem d_MO_laysGroups_53 : decode m_MO_laysGroups.2.1 53 = .ok (.iadd, 1) := by decide +kernel
theorem d_MO_laysGroups_54 : decode m_MO_laysGroups.2.1 54 = .ok (.aload_n 0, 1) := by decide +kernel
theorem d_MO_laysGroups_55 : decode m_MO_laysGroups.2.1 55 = .ok (.getfield 162, 3) := by decide +kernel
theorem d_MO_laysGroups_58 : decode m_MO_laysGroups.2.1 58 = .ok (.iload_n 3, 1) := by decide +kernel
theorem d_MO_laysGroups_59 : decode m_MO_laysGroups.2.1 59 = .ok (.iaload, 1) := by decide +kernel
theorem d_MO_laysGroups_60 : decode m_MO_laysGroups.2.1 60 = .ok (.invokevirtual 410, 3) := by decide +kernel
theorem d_MO_laysGroups_63 : decode m_MO_laysGroups.2.1 63 = .ok (.iinc 3 1, 3) := by decide +kernel
theorem d_MO_laysGroups_66 : decode m_MO_laysGroups.2.1 66 = .ok (.goto (-33), 3) := by decide +kernel
theorem d_MO_laysGroups_69 : decode m_MO_laysGroups.2.1 69 = .ok (.return_, 1) := by decide +kernel
theorem d_MO_laysKeys_0 : decode m_MO_laysKeys.2.1 0 = .ok (.aload_n 0, 1) := by decide +kernel
theorem d_MO_laysKeys_1 : decode m_MO_laysKeys.2.1 1 = .ok (.iconst 0, 1) := by decide +kernel
theorem d_MO_laysKeys_2 : decode m_MO_laysKeys.2.1 2 = .ok (.putfield 400, 3) := by decide +kernel
theorem d_MO_laysKeys_5 : decode m_MO_laysKeys.2.1 5 = .ok (.iconst 0, 1) := by decide +kernel
theorem d_MO_laysKeys_6 : decode m_MO_laysKeys.2.1 6 = .ok (.istore_n 3, 1) := by decide +kernel
theorem d_MO_laysKeys_7 : decode m_MO_laysKeys.2.1 7 = .ok (.iload_n 3, 1) := by decide +kernel
theorem d_MO_laysKeys_8 : decode m_MO_laysKeys.2.1 8 = .ok (.aload_n 0, 1) := by decide +kernel
theorem d_MO_laysKeys_9 : decode m_MO_laysKeys.2.1 9 = .ok (.getfield 144, 3) := by decide +kernel
theorem d_MO_laysKeys_12 : decode m_MO_laysKeys.2.1 12 = .ok (.iload_n 1, 1) := by decide +kernel
theorem d_MO_laysKeys_13 : decode m_MO_laysKeys.2.1 13 = .ok (.iaload, 1) := by decide +kernel
theorem d_MO_laysKeys_14 : decode m_MO_laysKeys.2.1 14 = .ok (.if_icmp .ge 134, 3) := by decide +kernel
theorem d_MO_laysKeys_17 : decode m_MO_laysKeys.2.1 17 = .ok (.aload_n 0, 1) := by decide +kernel
theorem d_MO_laysKeys_18 : decode m_MO_laysKeys.2.1 18 = .ok (.getfield 150, 3) := by decide +kernel
theorem d_MO_laysKeys_21 : decode m_MO_laysKeys.2.1 21 = .ok (.sipush 1620, 3) := by decide +kernel
theorem d_MO_laysKeys_24 : decode m_MO_laysKeys.2.1 24 = .ok (.iload_n 1, 1) := by decide +kernel
theorem d_MO_laysKeys_25 : decode m_MO_laysKeys.2.1 25 = .ok (.imul, 1) := by decide +kernel
theorem d_MO_laysKeys_26 : decode m_MO_laysKeys.2.1 26 = .ok (.bipush 54, 2) := by decide +kernel
theorem d_MO_laysKeys_28 : decode m_MO_laysKeys.2.1 28 = .ok (.iload_n 3, 1) := by decide +kernel
theorem d_MO_laysKeys_29 : decode m_MO_laysKeys.2.1 29 = .ok (.imul, 1) := by decide +kernel
theorem d_MO_laysKeys_30 : decode m_MO_laysKeys.2.1 30 = .ok (.iadd, 1) := by decide +kernel
theorem d_MO_laysKeys_31 : decode m_MO_laysKeys.2.1 31 = .ok (.iload_n 2, 1) := by decide +kernel
theorem d_MO_laysKeys_32 : decode m_MO_laysKeys.2.1 32 = .ok (.iadd, 1) := by decide +kernel
theorem d_MO_laysKeys_33 : decode m_MO_laysKeys.2.1 33 = .ok (.iaload, 1) := by decide +kernel
theorem d_MO_laysKeys_34 : decode m_MO_laysKeys.2.1 34 = .ok (.istore 4, 2) := by decide +kernel
theorem d_MO_laysKeys_36 : decode m_MO_laysKeys.2.1 36 = .ok (.aload_n 0, 1) := by decide +kernel
theorem d_MO_laysKeys_37 : decode m_MO_laysKeys.2.1 37 = .ok (.getfield 400, 3) := by decide +kernel
theorem d_MO_laysKeys_40 : decode m_MO_laysKeys.2.1 40 = .ok (.istore 5, 2) := by decide +kernel
theorem d_MO_laysKeys_42 : decode m_MO_laysKeys.2.1 42 = .ok (.iload 5, 2) := by decide +kernel
theorem d_MO_laysKeys_44 : decode m_MO_laysKeys.2.1 44 = .ok (.ifCond .le 23, 3) := by decide +kernel
theorem d_MO_laysKeys_47 : decode m_MO_laysKeys.2.1 47 = .ok (.aload_n 0, 1) := by decide +kernel
theorem d_MO_laysKeys_48 : decode m_MO_laysKeys.2.1 48 = .ok (.getfield 162, 3) := by decide +kernel
theorem d_MO_laysKeys_51 : decode m_MO_laysKeys.2.1 51 = .ok (.iload 5, 2) := by decide +kernel
theorem d_MO_laysKeys_53 : decode m_MO_laysKeys.2.1 53 = .ok (.iconst 1, 1) := by decide +kernel
theorem d_MO_laysKeys_54 : decode m_MO_laysKeys.2.1 54 = .ok (.isub, 1) := by decide +kernel
theorem d_MO_laysKeys_55 : decode m_MO_laysKeys.2.1 55 = .ok (.iaload, 1) := by decide +kernel
theorem d_MO_laysKeys_56 : decode m_MO_laysKeys.2.1 56 = .ok (.iload 4, 2) := by decide +kernel
theorem d_MO_laysKeys_58 : decode m_MO_laysKeys.2.1 58 = .ok (.if_icmp .lt 9, 3) := by decide +kernel
theorem d_MO_laysKeys_61 : decode m_MO_laysKeys.2.1 61 = .ok (.iinc 5 (-1), 3) := by decide +kernel
theorem d_MO_laysKeys_64 : decode m_MO_laysKeys.2.1 64 = .ok (.goto (-22), 3) := by decide +kernel
theorem d_MO_laysKeys_67 : decode m_MO_laysKeys.2.1 67 = .ok (.iload 5, 2) := by decide +kernel
theorem d_MO_laysKeys_69 : decode m_MO_laysKeys.2.1 69 = .ok (.aload_n 0, 1) := by decide +kernel
theorem d_MO_laysKeys_70 : decode m_MO_laysKeys.2.1 70 = .ok (.getfield 400, 3) := by decide +kernel
theorem d_MO_laysKeys_73 : decode m_MO_laysKeys.2.1 73 = .ok (.if_icmp .eq 15, 3) := by decide +kernel
theorem d_MO_laysKeys_76 : decode m_MO_laysKeys.2.1 76 = .ok (.aload_n 0, 1) := by decide +kernel
theorem d_MO_laysKeys_77 : decode m_MO_laysKeys.2.1 77 = .ok (.getfield 162, 3) := by decide +kernel
theorem d_MO_laysKeys_80 : decode m_MO_laysKeys.2.1 80 = .ok (.iload 5, 2) := by decide +kernel
theorem d_MO_laysKeys_82 : decode m_MO_laysKeys.2.1 82 = .ok (.iaload, 1) := by decide +kernel
theorem d_MO_laysKeys_83 : decode m_MO_laysKeys.2.1 83 = .ok (.iload 4, 2) := by decide +kernel
theorem d_MO_laysKeys_85 : decode m_MO_laysKeys.2.1 85 = .ok (.if_icmp .eq 57, 3) := by decide +kernel
theorem d_MO_laysKeys_88 : decode m_MO_laysKeys.2.1 88 = .ok (.aload_n 0, 1) := by decide +kernel
theorem d_MO_laysKeys_89 : decode m_MO_laysKeys.2.1 89 = .ok (.getfield 400, 3) := by decide +kernel
theorem d_MO_laysKeys_92 : decode m_MO_laysKeys.2.1 92 = .ok (.istore 6, 2) := by decide +kernel
theorem d_MO_laysKeys_94 : decode m_MO_laysKeys.2.1 94 = .ok (.iload 6, 2) := by decide +kernel
theorem d_MO_laysKeys_96 : decode m_MO_laysKeys.2.1 96 = .ok (.iload 5, 2) := by decide +kernel
theorem d_MO_laysKeys_98 : decode m_MO_laysKeys.2.1 98 = .ok (.if_icmp .le 25, 3) := by decide +kernel
theorem d_MO_laysKeys_101 : decode m_MO_laysKeys.2.1 101 = .ok (.aload_n 0, 1) := by decide +kernel
theorem d_MO_laysKeys_102 : decode m_MO_laysKeys.2.1 102 = .ok (.getfield 162, 3) := by decide +kernel
theorem d_MO_laysKeys_105 : decode m_MO_laysKeys.2.1 105 = .ok (.iload 6, 2) := by decide +kernel
theorem d_MO_laysKeys_107 : decode m_MO_laysKeys.2.1 107 = .ok (.aload_n 0, 1) := by decide +kernel
theorem d_MO_laysKeys_108 : decode m_MO_laysKeys.2.1 108 = .ok (.getfield 162, 3) := by decide +kernel
theorem d_MO_laysKeys_111 : decode m_MO_laysKeys.2.1 111 = .ok (.iload 6, 2) := by decide +kernel
theorem d_MO_laysKeys_113 : decode m_MO_laysKeys.2.1 113 = .ok (.iconst 1, 1) := by decide +kernel
theorem d_MO_laysKeys_114 : decode m_MO_laysKeys.2.1 114 = .ok (.isub, 1) := by decide +kernel
theorem d_MO_laysKeys_115 : decode m_MO_laysKeys.2.1 115 = .ok (.iaload, 1) := by decide +kernel
theorem d_MO_laysKeys_116 : decode m_MO_laysKeys.2.1 116 = .ok (.iastore, 1) := by decide +kernel
theorem d_MO_laysKeys_117 : decode m_MO_laysKeys.2.1 117 = .ok (.iinc 6 (-1), 3) := by decide +kernel
theorem d_MO_laysKeys_120 : decode m_MO_laysKeys.2.1 120 = .ok (.goto (-26), 3) := by decide +kernel
theorem d_MO_laysKeys_123 : decode m_MO_laysKeys.2.1 123 = .ok (.aload_n 0, 1) := by decide +kernel
theorem d_MO_laysKeys_124 : decode m_MO_laysKeys.2.1 124 = .ok (.getfield 162, 3) := by decide +kernel
theorem d_MO_laysKeys_127 : decode m_MO_laysKeys.2.1 127 = .ok (.iload 5, 2) := by decide +kernel
theorem d_MO_laysKeys_129 : decode m_MO_laysKeys.2.1 129 = .ok (.iload 4, 2) := by decide +kernel
theorem d_MO_laysKeys_131 : decode m_MO_laysKeys.2.1 131 = .ok (.iastore, 1) := by decide +kernel
theorem d_MO_laysKeys_132 : decode m_MO_laysKeys.2.1 132 = .ok (.aload_n 0, 1) := by decide +kernel
theorem d_MO_laysKeys_133 : decode m_MO_laysKeys.2.1 133 = .ok (.dup, 1) := by decide +kernel
theorem d_MO_laysKeys_134 : decode m_MO_laysKeys.2.1 134 = .ok (.getfield 400, 3) := by decide +kernel
theorem d_MO_laysKeys_137 : decode m_MO_laysKeys.2.1 137 = .ok (.iconst 1, 1) := by decide +kernel
theorem d_MO_laysKeys_138 : decode m_MO_laysKeys.2.1 138 = .ok (.iadd, 1) := by decide +kernel
theorem d_MO_laysKeys_139 : decode m_MO_laysKeys.2.1 139 = .ok (.putfield 400, 3) := by decide +kernel
theorem d_MO_laysKeys_142 : decode m_MO_laysKeys.2.1 142 = .ok (.iinc 3 1, 3) := by decide +kernel
theorem d_MO_laysKeys_145 : decode m_MO_laysKeys.2.1 145 = .ok (.goto (-138), 3) := by decide +kernel
theorem d_MO_laysKeys_148 : decode m_MO_laysKeys.2.1 148 = .ok (.return_, 1) := by decide +kernel
theorem d_MO_laysOrder_0 : decode m_MO_laysOrder.2.1 0 = .ok (.iconst 0, 1) := by decide +kernel
theorem d_MO_laysOrder_1 : decode m_MO_laysOrder.2.1 1 = .ok (.istore_n 1, 1) := by decide +kernel
theorem d_MO_laysOrder_2 : decode m_MO_laysOrder.2.1 2 = .ok (.iconst 0, 1) := by decide +kernel
theorem d_MO_laysOrder_3 : decode m_MO_laysOrder.2.1 3 = .ok (.istore_n 2, 1) := by decide +kernel
theorem d_MO_laysOrder_4 : decode m_MO_laysOrder.2.1 4 = .ok (.iload_n 2, 1) := by decide +kernel
theorem d_MO_laysOrder_5 : decode m_MO_laysOrder.2.1 5 = .ok (.bipush 24, 2) := by decide +kernel
theorem d_MO_laysOrder_7 : decode m_MO_laysOrder.2.1 7 = .ok (.if_icmp .ge 34, 3) := by decide +kernel
theorem d_MO_laysOrder_10 : decode m_MO_laysOrder.2.1 10 = .ok (.aload_n 0, 1) := by decide +kernel
theorem d_MO_laysOrder_11 : decode m_MO_laysOrder.2.1 11 = .ok (.getfield 50, 3) := by decide +kernel
theorem d_MO_laysOrder_14 : decode m_MO_laysOrder.2.1 14 = .ok (.iload_n 2, 1) := by decide +kernel
theorem d_MO_laysOrder_15 : decode m_MO_laysOrder.2.1 15 = .ok (.iconst 0, 1) := by decide +kernel
theorem d_MO_laysOrder_16 : decode m_MO_laysOrder.2.1 16 = .ok (.bastore, 1) := by decide +kernel
theorem d_MO_laysOrder_17 : decode m_MO_laysOrder.2.1 17 = .ok (.iload_n 1, 1) := by decide +kernel
theorem d_MO_laysOrder_18 : decode m_MO_laysOrder.2.1 18 = .ok (.aload_n 0, 1) := by decide +kernel
theorem d_MO_laysOrder_19 : decode m_MO_laysOrder.2.1 19 = .ok (.getfield 13, 3) := by decide +kernel
theorem d_MO_laysOrder_22 : decode m_MO_laysOrder.2.1 22 = .ok (.iload_n 2, 1) := by decide +kernel
theorem d_MO_laysOrder_23 : decode m_MO_laysOrder.2.1 23 = .ok (.iaload, 1) := by decide +kernel
theorem d_MO_laysOrder_24 : decode m_MO_laysOrder.2.1 24 = .ok (.iconst 2, 1) := by decide +kernel
theorem d_MO_laysOrder_25 : decode m_MO_laysOrder.2.1 25 = .ok (.if_icmp .ne 7, 3) := by decide +kernel
theorem d_MO_laysOrder_28 : decode m_MO_laysOrder.2.1 28 = .ok (.iconst 1, 1) := by decide +kernel
theorem d_MO_laysOrder_29 : decode m_MO_laysOrder.2.1 29 = .ok (.goto 4, 3) := by decide +kernel
theorem d_MO_laysOrder_32 : decode m_MO_laysOrder.2.1 32 = .ok (.iconst 0, 1) := by decide +kernel
theorem d_MO_laysOrder_33 : decode m_MO_laysOrder.2.1 33 = .ok (.iadd, 1) := by decide +kernel
theorem d_MO_laysOrder_34 : decode m_MO_laysOrder.2.1 34 = .ok (.istore_n 1, 1) := by decide +kernel
theorem d_MO_laysOrder_35 : decode m_MO_laysOrder.2.1 35 = .ok (.iinc 2 1, 3) := by decide +kernel
theorem d_MO_laysOrder_38 : decode m_MO_laysOrder.2.1 38 = .ok (.goto (-34), 3) := by decide +kernel
theorem d_MO_laysOrder_41 : decode m_MO_laysOrder.2.1 41 = .ok (.aload_n 0, 1) := by decide +kernel
theorem d_MO_laysOrder_42 : decode m_MO_laysOrder.2.1 42 = .ok (.iconst 0, 1) := by decide +kernel
theorem d_MO_laysOrder_43 : decode m_MO_laysOrder.2.1 43 = .ok (.putfield 218, 3) := by decide +kernel
theorem d_MO_laysOrder_46 : decode m_MO_laysOrder.2.1 46 = .ok (.aload_n 0, 1) := by decide +kernel
theorem d_MO_laysOrder_47 : decode m_MO_laysOrder.2.1 47 = .ok (.invokevirtual 221, 3) := by decide +kernel
theorem d_MO_laysOrder_50 : decode m_MO_laysOrder.2.1 50 = .ok (.istore_n 2, 1) := by decide +kernel
theorem d_MO_laysOrder_51 : decode m_MO_laysOrder.2.1 51 = .ok (.iload_n 2, 1) := by decide +kernel
theorem d_MO_laysOrder_52 : decode m_MO_laysOrder.2.1 52 = .ok (.iconst (-1), 1) := by decide +kernel
theorem d_MO_laysOrder_53 : decode m_MO_laysOrder.2.1 53 = .ok (.if_icmp .eq 38, 3) := by decide +kernel
theorem d_MO_laysOrder_56 : decode m_MO_laysOrder.2.1 56 = .ok (.aload_n 0, 1) := by decide +kernel
theorem d_MO_laysOrder_57 : decode m_MO_laysOrder.2.1 57 = .ok (.getfield 47, 3) := by decide +kernel
theorem d_MO_laysOrder_60 : decode m_MO_laysOrder.2.1 60 = .ok (.aload_n 0, 1) := by decide +kernel
theorem d_MO_laysOrder_61 : decode m_MO_laysOrder.2.1 61 = .ok (.getfield 218, 3) := by decide +kernel
theorem d_MO_laysOrder_64 : decode m_MO_laysOrder.2.1 64 = .ok (.iload_n 2, 1) := by decide +kernel
theorem d_MO_laysOrder_65 : decode m_MO_laysOrder.2.1 65 = .ok (.iastore, 1) := by decide +kernel
theorem d_MO_laysOrder_66 : decode m_MO_laysOrder.2.1 66 = .ok (.aload_n 0, 1) := by decide +kernel
theorem d_MO_laysOrder_67 : decode m_MO_laysOrder.2.1 67 = .ok (.dup, 1) := by decide +kernel
theorem d_MO_laysOrder_68 : decode m_MO_laysOrder.2.1 68 = .ok (.getfield 218, 3) := by decide +kernel
theorem d_MO_laysOrder_71 : decode m_MO_laysOrder.2.1 71 = .ok (.iconst 1, 1) := by decide +kernel
theorem d_MO_laysOrder_72 : decode m_MO_laysOrder.2.1 72 = .ok (.iadd, 1) := by decide +kernel
theorem d_MO_laysOrder_73 : decode m_MO_laysOrder.2.1 73 = .ok (.putfield 218, 3) := by decide +kernel
theorem d_MO_laysOrder_76 : decode m_MO_laysOrder.2.1 76 = .ok (.aload_n 0, 1) := by decide +kernel
theorem d_MO_laysOrder_77 : decode m_MO_laysOrder.2.1 77 = .ok (.getfield 50, 3) := by decide +kernel
theorem d_MO_laysOrder_80 : decode m_MO_laysOrder.2.1 80 = .ok (.iload_n 2, 1) := by decide +kernel
theorem d_MO_laysOrder_81 : decode m_MO_laysOrder.2.1 81 = .ok (.iconst 1, 1) := by decide +kernel
theorem d_MO_laysOrder_82 : decode m_MO_laysOrder.2.1 82 = .ok (.bastore, 1) := by decide +kernel
theorem d_MO_laysOrder_83 : decode m_MO_laysOrder.2.1 83 = .ok (.aload_n 0, 1) := by decide +kernel
theorem d_MO_laysOrder_84 : decode m_MO_laysOrder.2.1 84 = .ok (.invokevirtual 221, 3) := by decide +kernel
theorem d_MO_laysOrder_87 : decode m_MO_laysOrder.2.1 87 = .ok (.istore_n 2, 1) := by decide +kernel
theorem d_MO_laysOrder_88 : decode m_MO_laysOrder.2.1 88 = .ok (.goto (-37), 3) := by decide +kernel
theorem d_MO_laysOrder_91 : decode m_MO_laysOrder.2.1 91 = .ok (.aload_n 0, 1) := by decide +kernel
theorem d_MO_laysOrder_92 : decode m_MO_laysOrder.2.1 92 = .ok (.getfield 218, 3) := by decide +kernel
theorem d_MO_laysOrder_95 : decode m_MO_laysOrder.2.1 95 = .ok (.iload_n 1, 1) := by decide +kernel
theorem d_MO_laysOrder_96 : decode m_MO_laysOrder.2.1 96 = .ok (.if_icmp .ne 7, 3) := by decide +kernel
theorem d_MO_laysOrder_99 : decode m_MO_laysOrder.2.1 99 = .ok (.iconst 1, 1) := by decide +kernel
theorem d_MO_laysOrder_100 : decode m_MO_laysOrder.2.1 100 = .ok (.goto 4, 3) := by decide +kernel
theorem d_MO_laysOrder_103 : decode m_MO_laysOrder.2.1 103 = .ok (.iconst 0, 1) := by decide +kernel
theorem d_MO_laysOrder_104 : decode m_MO_laysOrder.2.1 104 = .ok (.ireturn, 1) := by decide +kernel
theorem d_MO_laysPlain_0 : decode m_MO_laysPlain.2.1 0 = .ok (.aload_n 0, 1) := by decide +kernel
theorem d_MO_laysPlain_1 : decode m_MO_laysPlain.2.1 1 = .ok (.getfield 111, 3) := by decide +kernel
theorem d_MO_laysPlain_4 : decode m_MO_laysPlain.2.1 4 = .ok (.iload_n 1, 1) := by decide +kernel
theorem d_MO_laysPlain_5 : decode m_MO_laysPlain.2.1 5 = .ok (.iaload, 1) := by decide +kernel
theorem d_MO_laysPlain_6 : decode m_MO_laysPlain.2.1 6 = .ok (.invokestatic 394, 3) := by decide +kernel
theorem d_MO_laysPlain_9 : decode m_MO_laysPlain.2.1 9 = .ok (.istore_n 2, 1) := by decide +kernel
theorem d_MO_laysPlain_10 : decode m_MO_laysPlain.2.1 10 = .ok (.aload_n 0, 1) := by decide +kernel
theorem d_MO_laysPlain_11 : decode m_MO_laysPlain.2.1 11 = .ok (.getfield 144, 3) := by decide +kernel
theorem d_MO_laysPlain_14 : decode m_MO_laysPlain.2.1 14 = .ok (.iload_n 1, 1) := by decide +kernel
theorem d_MO_laysPlain_15 : decode m_MO_laysPlain.2.1 15 = .ok (.iconst 0, 1) := by decide +kernel
theorem d_MO_laysPlain_16 : decode m_MO_laysPlain.2.1 16 = .ok (.iastore, 1) := by decide +kernel
theorem d_MO_laysPlain_17 : decode m_MO_laysPlain.2.1 17 = .ok (.iconst 0, 1) := by decide +kernel
theorem d_MO_laysPlain_18 : decode m_MO_laysPlain.2.1 18 = .ok (.istore_n 3, 1) := by decide +kernel
theorem d_MO_laysPlain_19 : decode m_MO_laysPlain.2.1 19 = .ok (.iload_n 3, 1) := by decide +kernel
theorem d_MO_laysPlain_20 : decode m_MO_laysPlain.2.1 20 = .ok (.aload_n 0, 1) := by decide +kernel
theorem d_MO_laysPlain_21 : decode m_MO_laysPlain.2.1 21 = .ok (.getfield 144, 3) := by decide +kernel
theorem d_MO_laysPlain_24 : decode m_MO_laysPlain.2.1 24 = .ok (.iload_n 2, 1) := by decide +kernel
theorem d_MO_laysPlain_25 : decode m_MO_laysPlain.2.1 25 = .ok (.iaload, 1) := by decide +kernel
theorem d_MO_laysPlain_26 : decode m_MO_laysPlain.2.1 26 = .ok (.if_icmp .ge 41, 3) := by decide +kernel
theorem d_MO_laysPlain_29 : decode m_MO_laysPlain.2.1 29 = .ok (.aload_n 0, 1) := by decide +kernel
theorem d_MO_laysPlain_30 : decode m_MO_laysPlain.2.1 30 = .ok (.getfield 144, 3) := by decide +kernel
theorem d_MO_laysPlain_33 : decode m_MO_laysPlain.2.1 33 = .ok (.iload_n 1, 1) := by decide +kernel
theorem d_MO_laysPlain_34 : decode m_MO_laysPlain.2.1 34 = .ok (.dup2, 1) := by decide +kernel
theorem d_MO_laysPlain_35 : decode m_MO_laysPlain.2.1 35 = .ok (.iaload, 1) := by decide +kernel
theorem d_MO_laysPlain_36 : decode m_MO_laysPlain.2.1 36 = .ok (.aload_n 0, 1) := by decide +kernel
theorem d_MO_laysPlain_37 : decode m_MO_laysPlain.2.1 37 = .ok (.iload_n 1, 1) := by decide +kernel
theorem d_MO_laysPlain_38 : decode m_MO_laysPlain.2.1 38 = .ok (.sipush 1620, 3) := by decide +kernel
theorem d_MO_laysPlain_41 : decode m_MO_laysPlain.2.1 41 = .ok (.iload_n 2, 1) := by decide +kernel
theorem d_MO_laysPlain_42 : decode m_MO_laysPlain.2.1 42 = .ok (.imul, 1) := by decide +kernel
theorem d_MO_laysPlain_43 : decode m_MO_laysPlain.2.1 43 = .ok (.bipush 54, 2) := by decide +kernel
theorem d_MO_laysPlain_45 : decode m_MO_laysPlain.2.1 45 = .ok (.iload_n 3, 1) := by decide +kernel
theorem d_MO_laysPlain_46 : decode m_MO_laysPlain.2.1 46 = .ok (.imul, 1) := by decide +kernel
theorem d_MO_laysPlain_47 : decode m_MO_laysPlain.2.1 47 = .ok (.iadd, 1) := by decide +kernel
theorem d_MO_laysPlain_48 : decode m_MO_laysPlain.2.1 48 = .ok (.invokevirtual 397, 3) := by decide +kernel
theorem d_MO_laysPlain_51 : decode m_MO_laysPlain.2.1 51 = .ok (.ifCond .eq 7, 3) := by decide +kernel
theorem d_MO_laysPlain_54 : decode m_MO_laysPlain.2.1 54 = .ok (.iconst 1, 1) := by decide +kernel
theorem d_MO_laysPlain_55 : decode m_MO_laysPlain.2.1 55 = .ok (.goto 4, 3) := by decide +kernel
theorem d_MO_laysPlain_58 : decode m_MO_laysPlain.2.1 58 = .ok (.iconst 0, 1) := by decide +kernel
theorem d_MO_laysPlain_59 : decode m_MO_laysPlain.2.1 59 = .ok (.iadd, 1) := by decide +kernel
theorem d_MO_laysPlain_60 : decode m_MO_laysPlain.2.1 60 = .ok (.iastore, 1) := by decide +kernel
theorem d_MO_laysPlain_61 : decode m_MO_laysPlain.2.1 61 = .ok (.iinc 3 1, 3) := by decide +kernel
theorem d_MO_laysPlain_64 : decode m_MO_laysPlain.2.1 64 = .ok (.goto (-45), 3) := by decide +kernel
theorem d_MO_laysPlain_67 : decode m_MO_laysPlain.2.1 67 = .ok (.return_, 1) := by decide +kernel
theorem d_MO_laysTable_0 : decode m_MO_laysTable.2.1 0 = .ok (.bipush 8, 2) := by decide +kernel
theorem d_MO_laysTable_2 : decode m_MO_laysTable.2.1 2 = .ok (.iload_n 1, 1) := by decide +kernel
theorem d_MO_laysTable_3 : decode m_MO_laysTable.2.1 3 = .ok (.iadd, 1) := by decide +kernel
theorem d_MO_laysTable_4 : decode m_MO_laysTable.2.1 4 = .ok (.istore_n 2, 1) := by decide +kernel
theorem d_MO_laysTable_5 : decode m_MO_laysTable.2.1 5 = .ok (.aload_n 0, 1) := by decide +kernel
theorem d_MO_laysTable_6 : decode m_MO_laysTable.2.1 6 = .ok (.getfield 144, 3) := by decide +kernel
theorem d_MO_laysTable_9 : decode m_MO_laysTable.2.1 9 = .ok (.iload_n 2, 1) := by decide +kernel
theorem d_MO_laysTable_10 : decode m_MO_laysTable.2.1 10 = .ok (.iconst 0, 1) := by decide +kernel
theorem d_MO_laysTable_11 : decode m_MO_laysTable.2.1 11 = .ok (.iastore, 1) := by decide +kernel
theorem d_MO_laysTable_12 : decode m_MO_laysTable.2.1 12 = .ok (.aload_n 0, 1) := by decide +kernel
theorem d_MO_laysTable_13 : decode m_MO_laysTable.2.1 13 = .ok (.getfield 147, 3) := by decide +kernel
theorem d_MO_laysTable_16 : decode m_MO_laysTable.2.1 16 = .ok (.iload_n 2, 1) := by decide +kernel
theorem d_MO_laysTable_17 : decode m_MO_laysTable.2.1 17 = .ok (.aload_n 0, 1) := by decide +kernel
theorem d_MO_laysTable_18 : decode m_MO_laysTable.2.1 18 = .ok (.getfield 7, 3) := by decide +kernel
theorem d_MO_laysTable_21 : decode m_MO_laysTable.2.1 21 = .ok (.iload_n 1, 1) := by decide +kernel
theorem d_MO_laysTable_22 : decode m_MO_laysTable.2.1 22 = .ok (.iaload, 1) := by decide +kernel
theorem d_MO_laysTable_23 : decode m_MO_laysTable.2.1 23 = .ok (.iastore, 1) := by decide +kernel
theorem d_MO_laysTable_24 : decode m_MO_laysTable.2.1 24 = .ok (.iconst 0, 1) := by decide +kernel
theorem d_MO_laysTable_25 : decode m_MO_laysTable.2.1 25 = .ok (.istore_n 3, 1) := by decide +kernel
theorem d_MO_laysTable_26 : decode m_MO_laysTable.2.1 26 = .ok (.iload_n 3, 1) := by decide +kernel
theorem d_MO_laysTable_27 : decode m_MO_laysTable.2.1 27 = .ok (.aload_n 0, 1) := by decide +kernel
theorem d_MO_laysTable_28 : decode m_MO_laysTable.2.1 28 = .ok (.getfield 71, 3) := by decide +kernel
theorem d_MO_laysTable_31 : decode m_MO_laysTable.2.1 31 = .ok (.iload_n 1, 1) := by decide +kernel
theorem d_MO_laysTable_32 : decode m_MO_laysTable.2.1 32 = .ok (.iaload, 1) := by decide +kernel
theorem d_MO_laysTable_33 : decode m_MO_laysTable.2.1 33 = .ok (.if_icmp .ge 99, 3) := by decide +kernel
theorem d_MO_laysTable_36 : decode m_MO_laysTable.2.1 36 = .ok (.aload_n 0, 1) := by decide +kernel
theorem d_MO_laysTable_37 : decode m_MO_laysTable.2.1 37 = .ok (.getfield 74, 3) := by decide +kernel
theorem d_MO_laysTable_40 : decode m_MO_laysTable.2.1 40 = .ok (.bipush 30, 2) := by decide +kernel
theorem d_MO_laysTable_42 : decode m_MO_laysTable.2.1 42 = .ok (.iload_n 1, 1) := by decide +kernel
theorem d_MO_laysTable_43 : decode m_MO_laysTable.2.1 43 = .ok (.imul, 1) := by decide +kernel
theorem d_MO_laysTable_44 : decode m_MO_laysTable.2.1 44 = .ok (.iload_n 3, 1) := by decide +kernel
theorem d_MO_laysTable_45 : decode m_MO_laysTable.2.1 45 = .ok (.iadd, 1) := by decide +kernel
theorem d_MO_laysTable_46 : decode m_MO_laysTable.2.1 46 = .ok (.baload, 1) := by decide +kernel
theorem d_MO_laysTable_47 : decode m_MO_laysTable.2.1 47 = .ok (.ifCond .eq 79, 3) := by decide +kernel
theorem d_MO_laysTable_50 : decode m_MO_laysTable.2.1 50 = .ok (.sipush 1620, 3) := by decide +kernel
theorem d_MO_laysTable_53 : decode m_MO_laysTable.2.1 53 = .ok (.iload_n 2, 1) := by decide +kernel
theorem d_MO_laysTable_54 : decode m_MO_laysTable.2.1 54 = .ok (.imul, 1) := by decide +kernel
theorem d_MO_laysTable_55 : decode m_MO_laysTable.2.1 55 = .ok (.bipush 54, 2) := by decide +kernel
theorem d_MO_laysTable_57 : decode m_MO_laysTable.2.1 57 = .ok (.aload_n 0, 1) := by decide +kernel
theorem d_MO_laysTable_58 : decode m_MO_laysTable.2.1 58 = .ok (.getfield 144, 3) := by decide +kernel
theorem d_MO_laysTable_61 : decode m_MO_laysTable.2.1 61 = .ok (.iload_n 2, 1) := by decide +kernel
theorem d_MO_laysTable_62 : decode m_MO_laysTable.2.1 62 = .ok (.iaload, 1) := by decide +kernel
theorem d_MO_laysTable_63 : decode m_MO_laysTable.2.1 63 = .ok (.imul, 1) := by decide +kernel
theorem d_MO_laysTable_64 : decode m_MO_laysTable.2.1 64 = .ok (.iadd, 1) := by decide +kernel
theorem d_MO_laysTable_65 : decode m_MO_laysTable.2.1 65 = .ok (.istore 4, 2) := by decide +kernel
theorem d_MO_laysTable_67 : decode m_MO_laysTable.2.1 67 = .ok (.iconst 0, 1) := by decide +kernel
theorem d_MO_laysTable_68 : decode m_MO_laysTable.2.1 68 = .ok (.istore 5, 2) := by decide +kernel
theorem d_MO_laysTable_70 : decode m_MO_laysTable.2.1 70 = .ok (.iload 5, 2) := by decide +kernel
theorem d_MO_laysTable_72 : decode m_MO_laysTable.2.1 72 = .ok (.bipush 6, 2) := by decide +kernel
theorem d_MO_laysTable_74 : decode m_MO_laysTable.2.1 74 = .ok (.if_icmp .ge 42, 3) := by decide +kernel
theorem d_MO_laysTable_77 : decode m_MO_laysTable.2.1 77 = .ok (.aload_n 0, 1) := by decide +kernel
theorem d_MO_laysTable_78 : decode m_MO_laysTable.2.1 78 = .ok (.getfield 150, 3) := by decide +kernel
theorem d_MO_laysTable_81 : decode m_MO_laysTable.2.1 81 = .ok (.iload 4, 2) := by decide +kernel
theorem d_MO_laysTable_83 : decode m_MO_laysTable.2.1 83 = .ok (.iload 5, 2) := by decide +kernel
theorem d_MO_laysTable_85 : decode m_MO_laysTable.2.1 85 = .ok (.iadd, 1) := by decide +kernel
theorem d_MO_laysTable_86 : decode m_MO_laysTable.2.1 86 = .ok (.aload_n 0, 1) := by decide +kernel
theorem d_MO_laysTable_87 : decode m_MO_laysTable.2.1 87 = .ok (.getfield 77, 3) := by decide +kernel
theorem d_MO_laysTable_90 : decode m_MO_laysTable.2.1 90 = .ok (.iload_n 1, 1) := by decide +kernel
theorem d_MO_laysTable_91 : decode m_MO_laysTable.2.1 91 = .ok (.iload_n 3, 1) := by decide +kernel
theorem d_MO_laysTable_92 : decode m_MO_laysTable.2.1 92 = .ok (.iload 5, 2) := by decide +kernel
theorem d_MO_laysTable_94 : decode m_MO_laysTable.2.1 94 = .ok (.invokestatic 225, 3) := by decide +kernel
theorem d_MO_laysTable_97 : decode m_MO_laysTable.2.1 97 = .ok (.iaload, 1) := by decide +kernel
theorem d_MO_laysTable_98 : decode m_MO_laysTable.2.1 98 = .ok (.iastore, 1) := by decide +kernel
theorem d_MO_laysTable_99 : decode m_MO_laysTable.2.1 99 = .ok (.aload_n 0, 1) := by decide +kernel
theorem d_MO_laysTable_100 : decode m_MO_laysTable.2.1 100 = .ok (.getfield 153, 3) := by decide +kernel
theorem d_MO_laysTable_103 : decode m_MO_laysTable.2.1 103 = .ok (.iload 4, 2) := by decide +kernel
theorem d_MO_laysTable_105 : decode m_MO_laysTable.2.1 105 = .ok (.iload 5, 2) := by decide +kernel
theorem d_MO_laysTable_107 : decode m_MO_laysTable.2.1 107 = .ok (.iadd, 1) := by decide +kernel
theorem d_MO_laysTable_108 : decode m_MO_laysTable.2.1 108 = .ok (.iload_n 3, 1) := by decide +kernel
theorem d_MO_laysTable_109 : decode m_MO_laysTable.2.1 109 = .ok (.iastore, 1) := by decide +kernel
theorem d_MO_laysTable_110 : decode m_MO_laysTable.2.1 110 = .ok (.iinc 5 1, 3) := by decide +kernel
theorem d_MO_laysTable_113 : decode m_MO_laysTable.2.1 113 = .ok (.goto (-43), 3) := by decide +kernel
theorem d_MO_laysTable_116 : decode m_MO_laysTable.2.1 116 = .ok (.aload_n 0, 1) := by decide +kernel
theorem d_MO_laysTable_117 : decode m_MO_laysTable.2.1 117 = .ok (.getfield 144, 3) := by decide +kernel
theorem d_MO_laysTable_120 : decode m_MO_laysTable.2.1 120 = .ok (.iload_n 2, 1) := by decide +kernel
theorem d_MO_laysTable_121 : decode m_MO_laysTable.2.1 121 = .ok (.dup2, 1) := by decide +kernel
theorem d_MO_laysTable_122 : decode m_MO_laysTable.2.1 122 = .ok (.iaload, 1) := by decide +kernel
theorem d_MO_laysTable_123 : decode m_MO_laysTable.2.1 123 = .ok (.iconst 1, 1) := by decide +kernel
theorem d_MO_laysTable_124 : decode m_MO_laysTable.2.1 124 = .ok (.iadd, 1) := by decide +kernel
theorem d_MO_laysTable_125 : decode m_MO_laysTable.2.1 125 = .ok (.iastore, 1) := by decide +kernel
theorem d_MO_laysTable_126 : decode m_MO_laysTable.2.1 126 = .ok (.iinc 3 1, 3) := by decide +kernel
theorem d_MO_laysTable_129 : decode m_MO_laysTable.2.1 129 = .ok (.goto (-103), 3) := by decide +kernel
theorem d_MO_laysTable_132 : decode m_MO_laysTable.2.1 132 = .ok (.return_, 1) := by decide +kernel
theorem d_MO_leftOut_0 : decode m_MO_leftOut.2.1 0 = .ok (.aload_n 0, 1) := by decide +kernel
theorem d_MO_leftOut_1 : decode m_MO_leftOut.2.1 1 = .ok (.getfield 168, 3) := by decide +kernel
theorem d_MO_leftOut_4 : decode m_MO_leftOut.2.1 4 = .ok (.iload_n 1, 1) := by decide +kernel
theorem d_MO_leftOut_5 : decode m_MO_leftOut.2.1 5 = .ok (.iaload, 1) := by decide +kernel
theorem d_MO_leftOut_6 : decode m_MO_leftOut.2.1 6 = .ok (.iconst 3, 1) := by decide +kernel
theorem d_MO_leftOut_7 : decode m_MO_leftOut.2.1 7 = .ok (.if_icmp .eq 5, 3) := by decide +kernel
theorem d_MO_leftOut_10 : decode m_MO_leftOut.2.1 10 = .ok (.iconst 0, 1) := by decide +kernel
theorem d_MO_leftOut_11 : decode m_MO_leftOut.2.1 11 = .ok (.ireturn, 1) := by decide +kernel
theorem d_MO_leftOut_12 : decode m_MO_leftOut.2.1 12 = .ok (.aload_n 0, 1) := by decide +kernel
theorem d_MO_leftOut_13 : decode m_MO_leftOut.2.1 13 = .ok (.aload_n 0, 1) := by decide +kernel
theorem d_MO_leftOut_14 : decode m_MO_leftOut.2.1 14 = .ok (.getfield 171, 3) := by decide +kernel
theorem d_MO_leftOut_17 : decode m_MO_leftOut.2.1 17 = .ok (.iload_n 1, 1) := by decide +kernel
theorem d_MO_leftOut_18 : decode m_MO_leftOut.2.1 18 = .ok (.iaload, 1) := by decide +kernel
theorem d_MO_leftOut_19 : decode m_MO_leftOut.2.1 19 = .ok (.invokevirtual 429, 3) := by decide +kernel
theorem d_MO_leftOut_22 : decode m_MO_leftOut.2.1 22 = .ok (.aload_n 0, 1) := by decide +kernel
theorem d_MO_leftOut_23 : decode m_MO_leftOut.2.1 23 = .ok (.getfield 144, 3) := by decide +kernel
theorem d_MO_leftOut_26 : decode m_MO_leftOut.2.1 26 = .ok (.aload_n 0, 1) := by decide +kernel
theorem d_MO_leftOut_27 : decode m_MO_leftOut.2.1 27 = .ok (.getfield 171, 3) := by decide +kernel
theorem d_MO_leftOut_30 : decode m_MO_leftOut.2.1 30 = .ok (.iload_n 1, 1) := by decide +kernel
theorem d_MO_leftOut_31 : decode m_MO_leftOut.2.1 31 = .ok (.iaload, 1) := by decide +kernel
theorem d_MO_leftOut_32 : decode m_MO_leftOut.2.1 32 = .ok (.iaload, 1) := by decide +kernel
theorem d_MO_leftOut_33 : decode m_MO_leftOut.2.1 33 = .ok (.ifCond .ne 12, 3) := by decide +kernel
theorem d_MO_leftOut_36 : decode m_MO_leftOut.2.1 36 = .ok (.aload_n 0, 1) := by decide +kernel
theorem d_MO_leftOut_37 : decode m_MO_leftOut.2.1 37 = .ok (.getfield 177, 3) := by decide +kernel
theorem d_MO_leftOut_40 : decode m_MO_leftOut.2.1 40 = .ok (.iload_n 1, 1) := by decide +kernel
theorem d_MO_leftOut_41 : decode m_MO_leftOut.2.1 41 = .ok (.iaload, 1) := by decide +kernel
theorem d_MO_leftOut_42 : decode m_MO_leftOut.2.1 42 = .ok (.goto 4, 3) := by decide +kernel
theorem d_MO_leftOut_45 : decode m_MO_leftOut.2.1 45 = .ok (.iconst 0, 1) := by decide +kernel
theorem d_MO_leftOut_46 : decode m_MO_leftOut.2.1 46 = .ok (.ireturn, 1) := by decide +kernel
theorem d_MO_look_0 : decode m_MO_look.2.1 0 = .ok (.aload_n 0, 1) := by decide +kernel
theorem d_MO_look_1 : decode m_MO_look.2.1 1 = .ok (.iload_n 1, 1) := by decide +kernel
theorem d_MO_look_2 : decode m_MO_look.2.1 2 = .ok (.invokevirtual 208, 3) := by decide +kernel
theorem d_MO_look_5 : decode m_MO_look.2.1 5 = .ok (.istore_n 3, 1) := by decide +kernel
theorem d_MO_look_6 : decode m_MO_look.2.1 6 = .ok (.aload_n 0, 1) := by decide +kernel
theorem d_MO_look_7 : decode m_MO_look.2.1 7 = .ok (.getfield 77, 3) := by decide +kernel
theorem d_MO_look_10 : decode m_MO_look.2.1 10 = .ok (.iload_n 1, 1) := by decide +kernel
theorem d_MO_look_11 : decode m_MO_look.2.1 11 = .ok (.bipush 6, 2) := by decide +kernel
theorem d_MO_look_13 : decode m_MO_look.2.1 13 = .ok (.idiv, 1) := by decide +kernel
theorem d_MO_look_14 : decode m_MO_look.2.1 14 = .ok (.iload_n 2, 1) := by decide +kernel
theorem d_MO_look_15 : decode m_MO_look.2.1 15 = .ok (.aload_n 0, 1) := by decide +kernel
theorem d_MO_look_16 : decode m_MO_look.2.1 16 = .ok (.getfield 31, 3) := by decide +kernel
theorem d_MO_look_19 : decode m_MO_look.2.1 19 = .ok (.iload_n 1, 1) := by decide +kernel
theorem d_MO_look_20 : decode m_MO_look.2.1 20 = .ok (.iaload, 1) := by decide +kernel
theorem d_MO_look_21 : decode m_MO_look.2.1 21 = .ok (.invokestatic 225, 3) := by decide +kernel
theorem d_MO_look_24 : decode m_MO_look.2.1 24 = .ok (.iaload, 1) := by decide +kernel
theorem d_MO_look_25 : decode m_MO_look.2.1 25 = .ok (.istore 4, 2) := by decide +kernel
theorem d_MO_look_27 : decode m_MO_look.2.1 27 = .ok (.iload 4, 2) := by decide +kernel
theorem d_MO_look_29 : decode m_MO_look.2.1 29 = .ok (.ldc 186, 2) := by decide +kernel
theorem d_MO_look_31 : decode m_MO_look.2.1 31 = .ok (.if_icmp .eq 43, 3) := by decide +kernel
theorem d_MO_look_34 : decode m_MO_look.2.1 34 = .ok (.aload_n 0, 1) := by decide +kernel
theorem d_MO_look_35 : decode m_MO_look.2.1 35 = .ok (.aload_n 0, 1) := by decide +kernel
theorem d_MO_look_36 : decode m_MO_look.2.1 36 = .ok (.getfield 22, 3) := by decide +kernel
theorem d_MO_look_39 : decode m_MO_look.2.1 39 = .ok (.iload_n 3, 1) := by decide +kernel
theorem d_MO_look_40 : decode m_MO_look.2.1 40 = .ok (.iaload, 1) := by decide +kernel
theorem d_MO_look_41 : decode m_MO_look.2.1 41 = .ok (.iload 4, 2) := by decide +kernel
theorem d_MO_look_43 : decode m_MO_look.2.1 43 = .ok (.invokevirtual 233, 3) := by decide +kernel
theorem d_MO_look_46 : decode m_MO_look.2.1 46 = .ok (.ifCond .eq 28, 3) := by decide +kernel
theorem d_MO_look_49 : decode m_MO_look.2.1 49 = .ok (.aload_n 0, 1) := by decide +kernel
theorem d_MO_look_50 : decode m_MO_look.2.1 50 = .ok (.getfield 77, 3) := by decide +kernel
theorem d_MO_look_53 : decode m_MO_look.2.1 53 = .ok (.aload_n 0, 1) := by decide +kernel
theorem d_MO_look_54 : decode m_MO_look.2.1 54 = .ok (.getfield 22, 3) := by decide +kernel
theorem d_MO_look_57 : decode m_MO_look.2.1 57 = .ok (.iload_n 3, 1) := by decide +kernel
theorem d_MO_look_58 : decode m_MO_look.2.1 58 = .ok (.iaload, 1) := by decide +kernel
theorem d_MO_look_59 : decode m_MO_look.2.1 59 = .ok (.iload 4, 2) := by decide +kernel
theorem d_MO_look_61 : decode m_MO_look.2.1 61 = .ok (.aload_n 0, 1) := by decide +kernel
theorem d_MO_look_62 : decode m_MO_look.2.1 62 = .ok (.getfield 34, 3) := by decide +kernel
theorem d_MO_look_65 : decode m_MO_look.2.1 65 = .ok (.iload_n 1, 1) := by decide +kernel
theorem d_MO_look_66 : decode m_MO_look.2.1 66 = .ok (.iaload, 1) := by decide +kernel
theorem d_MO_look_67 : decode m_MO_look.2.1 67 = .ok (.invokestatic 225, 3) := by decide +kernel
theorem d_MO_look_70 : decode m_MO_look.2.1 70 = .ok (.iaload, 1) := by decide +kernel
theorem d_MO_look_71 : decode m_MO_look.2.1 71 = .ok (.goto 5, 3) := by decide +kernel
theorem d_MO_look_74 : decode m_MO_look.2.1 74 = .ok (.ldc 186, 2) := by decide +kernel
theorem d_MO_look_76 : decode m_MO_look.2.1 76 = .ok (.ireturn, 1) := by decide +kernel
theorem d_MO_makes_0 : decode m_MO_makes.2.1 0 = .ok (.aload_n 0, 1) := by decide +kernel
theorem d_MO_makes_1 : decode m_MO_makes.2.1 1 = .ok (.getfield 108, 3) := by decide +kernel
theorem d_MO_makes_4 : decode m_MO_makes.2.1 4 = .ok (.aload_n 0, 1) := by decide +kernel
theorem d_MO_makes_5 : decode m_MO_makes.2.1 5 = .ok (.getfield 345, 3) := by decide +kernel
theorem d_MO_makes_8 : decode m_MO_makes.2.1 8 = .ok (.iload_n 1, 1) := by decide +kernel
theorem d_MO_makes_9 : decode m_MO_makes.2.1 9 = .ok (.iastore, 1) := by decide +kernel
theorem d_MO_makes_10 : decode m_MO_makes.2.1 10 = .ok (.aload_n 0, 1) := by decide +kernel
theorem d_MO_makes_11 : decode m_MO_makes.2.1 11 = .ok (.getfield 111, 3) := by decide +kernel
theorem d_MO_makes_14 : decode m_MO_makes.2.1 14 = .ok (.aload_n 0, 1) := by decide +kernel
theorem d_MO_makes_15 : decode m_MO_makes.2.1 15 = .ok (.getfield 345, 3) := by decide +kernel
theorem d_MO_makes_18 : decode m_MO_makes.2.1 18 = .ok (.iload_n 2, 1) := by decide +kernel
theorem d_MO_makes_19 : decode m_MO_makes.2.1 19 = .ok (.iastore, 1) := by decide +kernel
theorem d_MO_makes_20 : decode m_MO_makes.2.1 20 = .ok (.aload_n 0, 1) := by decide +kernel
theorem d_MO_makes_21 : decode m_MO_makes.2.1 21 = .ok (.getfield 117, 3) := by decide +kernel
theorem d_MO_makes_24 : decode m_MO_makes.2.1 24 = .ok (.aload_n 0, 1) := by decide +kernel
theorem d_MO_makes_25 : decode m_MO_makes.2.1 25 = .ok (.getfield 345, 3) := by decide +kernel
theorem d_MO_makes_28 : decode m_MO_makes.2.1 28 = .ok (.iconst (-1), 1) := by decide +kernel
theorem d_MO_makes_29 : decode m_MO_makes.2.1 29 = .ok (.iastore, 1) := by decide +kernel
theorem d_MO_makes_30 : decode m_MO_makes.2.1 30 = .ok (.aload_n 0, 1) := by decide +kernel
theorem d_MO_makes_31 : decode m_MO_makes.2.1 31 = .ok (.getfield 129, 3) := by decide +kernel
theorem d_MO_makes_34 : decode m_MO_makes.2.1 34 = .ok (.aload_n 0, 1) := by decide +kernel
theorem d_MO_makes_35 : decode m_MO_makes.2.1 35 = .ok (.getfield 345, 3) := by decide +kernel
theorem d_MO_makes_38 : decode m_MO_makes.2.1 38 = .ok (.iconst 0, 1) := by decide +kernel
theorem d_MO_makes_39 : decode m_MO_makes.2.1 39 = .ok (.iastore, 1) := by decide +kernel
theorem d_MO_makes_40 : decode m_MO_makes.2.1 40 = .ok (.aload_n 0, 1) := by decide +kernel
theorem d_MO_makes_41 : decode m_MO_makes.2.1 41 = .ok (.getfield 114, 3) := by decide +kernel
theorem d_MO_makes_44 : decode m_MO_makes.2.1 44 = .ok (.aload_n 0, 1) := by decide +kernel
theorem d_MO_makes_45 : decode m_MO_makes.2.1 45 = .ok (.getfield 345, 3) := by decide +kernel
theorem d_MO_makes_48 : decode m_MO_makes.2.1 48 = .ok (.aload_n 0, 1) := by decide +kernel
theorem d_MO_makes_49 : decode m_MO_makes.2.1 49 = .ok (.getfield 147, 3) := by decide +kernel
theorem d_MO_makes_52 : decode m_MO_makes.2.1 52 = .ok (.iload_n 2, 1) := by decide +kernel
theorem d_MO_makes_53 : decode m_MO_makes.2.1 53 = .ok (.invokestatic 394, 3) := by decide +kernel
theorem d_MO_makes_56 : decode m_MO_makes.2.1 56 = .ok (.iaload, 1) := by decide +kernel
theorem d_MO_makes_57 : decode m_MO_makes.2.1 57 = .ok (.iastore, 1) := by decide +kernel
theorem d_MO_makes_58 : decode m_MO_makes.2.1 58 = .ok (.aload_n 0, 1) := by decide +kernel
theorem d_MO_makes_59 : decode m_MO_makes.2.1 59 = .ok (.getfield 147, 3) := by decide +kernel
theorem d_MO_makes_62 : decode m_MO_makes.2.1 62 = .ok (.aload_n 0, 1) := by decide +kernel
theorem d_MO_makes_63 : decode m_MO_makes.2.1 63 = .ok (.getfield 345, 3) := by decide +kernel
theorem d_MO_makes_66 : decode m_MO_makes.2.1 66 = .ok (.iload_n 1, 1) := by decide +kernel
theorem d_MO_makes_67 : decode m_MO_makes.2.1 67 = .ok (.iconst 1, 1) := by decide +kernel
theorem d_MO_makes_68 : decode m_MO_makes.2.1 68 = .ok (.if_icmp .ne 7, 3) := by decide +kernel
theorem d_MO_makes_71 : decode m_MO_makes.2.1 71 = .ok (.iconst 5, 1) := by decide +kernel
theorem d_MO_makes_72 : decode m_MO_makes.2.1 72 = .ok (.goto 12, 3) := by decide +kernel
theorem d_MO_makes_75 : decode m_MO_makes.2.1 75 = .ok (.aload_n 0, 1) := by decide +kernel
theorem d_MO_makes_76 : decode m_MO_makes.2.1 76 = .ok (.getfield 114, 3) := by decide +kernel
theorem d_MO_makes_79 : decode m_MO_makes.2.1 79 = .ok (.aload_n 0, 1) := by decide +kernel
theorem d_MO_makes_80 : decode m_MO_makes.2.1 80 = .ok (.getfield 345, 3) := by decide +kernel
theorem d_MO_makes_83 : decode m_MO_makes.2.1 83 = .ok (.iaload, 1) := by decide +kernel
theorem d_MO_makes_84 : decode m_MO_makes.2.1 84 = .ok (.iastore, 1) := by decide +kernel
theorem d_MO_makes_85 : decode m_MO_makes.2.1 85 = .ok (.iconst 0, 1) := by decide +kernel
theorem d_MO_makes_86 : decode m_MO_makes.2.1 86 = .ok (.istore_n 3, 1) := by decide +kernel
theorem d_MO_makes_87 : decode m_MO_makes.2.1 87 = .ok (.iload_n 3, 1) := by decide +kernel
theorem d_MO_makes_88 : decode m_MO_makes.2.1 88 = .ok (.bipush 54, 2) := by decide +kernel
theorem d_MO_makes_90 : decode m_MO_makes.2.1 90 = .ok (.if_icmp .ge 50, 3) := by decide +kernel
theorem d_MO_makes_93 : decode m_MO_makes.2.1 93 = .ok (.aload_n 0, 1) := by decide +kernel
theorem d_MO_makes_94 : decode m_MO_makes.2.1 94 = .ok (.getfield 156, 3) := by decide +kernel
theorem d_MO_makes_97 : decode m_MO_makes.2.1 97 = .ok (.bipush 54, 2) := by decide +kernel
theorem d_MO_makes_99 : decode m_MO_makes.2.1 99 = .ok (.aload_n 0, 1) := by decide +kernel
theorem d_MO_makes_100 : decode m_MO_makes.2.1 100 = .ok (.getfield 345, 3) := by decide +kernel
theorem d_MO_makes_103 : decode m_MO_makes.2.1 103 = .ok (.imul, 1) := by decide +kernel
theorem d_MO_makes_104 : decode m_MO_makes.2.1 104 = .ok (.iload_n 3, 1) := by decide +kernel
theorem d_MO_makes_105 : decode m_MO_makes.2.1 105 = .ok (.iadd, 1) := by decide +kernel
theorem d_MO_makes_106 : decode m_MO_makes.2.1 106 = .ok (.iload_n 1, 1) := by decide +kernel
theorem d_MO_makes_107 : decode m_MO_makes.2.1 107 = .ok (.ifCond .ne 25, 3) := by decide +kernel
theorem d_MO_makes_110 : decode m_MO_makes.2.1 110 = .ok (.iload_n 3, 1) := by decide +kernel
theorem d_MO_makes_111 : decode m_MO_makes.2.1 111 = .ok (.aload_n 0, 1) := by decide +kernel
theorem d_MO_makes_112 : decode m_MO_makes.2.1 112 = .ok (.getfield 114, 3) := by decide +kernel
theorem d_MO_makes_115 : decode m_MO_makes.2.1 115 = .ok (.aload_n 0, 1) := by decide +kernel
theorem d_MO_makes_116 : decode m_MO_makes.2.1 116 = .ok (.getfield 345, 3) := by decide +kernel
theorem d_MO_makes_119 : decode m_MO_makes.2.1 119 = .ok (.iaload, 1) := by decide +kernel
theorem d_MO_makes_120 : decode m_MO_makes.2.1 120 = .ok (.if_icmp .ge 12, 3) := by decide +kernel
theorem d_MO_makes_123 : decode m_MO_makes.2.1 123 = .ok (.aload_n 0, 1) := by decide +kernel
theorem d_MO_makes_124 : decode m_MO_makes.2.1 124 = .ok (.iload_n 2, 1) := by decide +kernel
theorem d_MO_makes_125 : decode m_MO_makes.2.1 125 = .ok (.iload_n 3, 1) := by decide +kernel
theorem d_MO_makes_126 : decode m_MO_makes.2.1 126 = .ok (.invokevirtual 342, 3) := by decide +kernel
theorem d_MO_makes_129 : decode m_MO_makes.2.1 129 = .ok (.goto 4, 3) := by decide +kernel
theorem d_MO_makes_132 : decode m_MO_makes.2.1 132 = .ok (.iconst (-1), 1) := by decide +kernel
theorem d_MO_makes_133 : decode m_MO_makes.2.1 133 = .ok (.iastore, 1) := by decide +kernel
theorem d_MO_makes_134 : decode m_MO_makes.2.1 134 = .ok (.iinc 3 1, 3) := by decide +kernel
theorem d_MO_makes_137 : decode m_MO_makes.2.1 137 = .ok (.goto (-50), 3) := by decide +kernel
theorem d_MO_makes_140 : decode m_MO_makes.2.1 140 = .ok (.aload_n 0, 1) := by decide +kernel
theorem d_MO_makes_141 : decode m_MO_makes.2.1 141 = .ok (.dup, 1) := by decide +kernel
theorem d_MO_makes_142 : decode m_MO_makes.2.1 142 = .ok (.getfield 345, 3) := by decide +kernel
theorem d_MO_makes_145 : decode m_MO_makes.2.1 145 = .ok (.iconst 1, 1) := by decide +kernel
theorem d_MO_makes_146 : decode m_MO_makes.2.1 146 = .ok (.iadd, 1) := by decide +kernel
theorem d_MO_makes_147 : decode m_MO_makes.2.1 147 = .ok (.putfield 345, 3) := by decide +kernel
theorem d_MO_makes_150 : decode m_MO_makes.2.1 150 = .ok (.aload_n 0, 1) := by decide +kernel
theorem d_MO_makes_151 : decode m_MO_makes.2.1 151 = .ok (.getfield 345, 3) := by decide +kernel
theorem d_MO_makes_154 : decode m_MO_makes.2.1 154 = .ok (.iconst 1, 1) := by decide +kernel
theorem d_MO_makes_155 : decode m_MO_makes.2.1 155 = .ok (.isub, 1) := by decide +kernel
theorem d_MO_makes_156 : decode m_MO_makes.2.1 156 = .ok (.ireturn, 1) := by decide +kernel
theorem d_MO_makesColumn_0 : decode m_MO_makesColumn.2.1 0 = .ok (.bipush 6, 2) := by decide +kernel
theorem d_MO_makesColumn_2 : decode m_MO_makesColumn.2.1 2 = .ok (.iload_n 1, 1) := by decide +kernel
theorem d_MO_makesColumn_3 : decode m_MO_makesColumn.2.1 3 = .ok (.imul, 1) := by decide +kernel
theorem d_MO_makesColumn_4 : decode m_MO_makesColumn.2.1 4 = .ok (.aload_n 0, 1) := by decide +kernel
theorem d_MO_makesColumn_5 : decode m_MO_makesColumn.2.1 5 = .ok (.getfield 7, 3) := by decide +kernel
theorem d_MO_makesColumn_8 : decode m_MO_makesColumn.2.1 8 = .ok (.iload_n 1, 1) := by decide +kernel
theorem d_MO_makesColumn_9 : decode m_MO_makesColumn.2.1 9 = .ok (.iaload, 1) := by decide +kernel
theorem d_MO_makesColumn_10 : decode m_MO_makesColumn.2.1 10 = .ok (.iadd, 1) := by decide +kernel
theorem d_MO_makesColumn_11 : decode m_MO_makesColumn.2.1 11 = .ok (.istore_n 3, 1) := by decide +kernel
theorem d_MO_makesColumn_12 : decode m_MO_makesColumn.2.1 12 = .ok (.aload_n 0, 1) := by decide +kernel
theorem d_MO_makesColumn_13 : decode m_MO_makesColumn.2.1 13 = .ok (.getfield 13, 3) := by decide +kernel
theorem d_MO_makesColumn_16 : decode m_MO_makesColumn.2.1 16 = .ok (.iload_n 3, 1) := by decide +kernel
theorem d_MO_makesColumn_17 : decode m_MO_makesColumn.2.1 17 = .ok (.iload_n 2, 1) := by decide +kernel
theorem d_MO_makesColumn_18 : decode m_MO_makesColumn.2.1 18 = .ok (.iastore, 1) := by decide +kernel
theorem d_MO_makesColumn_19 : decode m_MO_makesColumn.2.1 19 = .ok (.aload_n 0, 1) := by decide +kernel
theorem d_MO_makesColumn_20 : decode m_MO_makesColumn.2.1 20 = .ok (.getfield 40, 3) := by decide +kernel
theorem d_MO_makesColumn_23 : decode m_MO_makesColumn.2.1 23 = .ok (.iload_n 3, 1) := by decide +kernel
theorem d_MO_makesColumn_24 : decode m_MO_makesColumn.2.1 24 = .ok (.iconst 0, 1) := by decide +kernel
theorem d_MO_makesColumn_25 : decode m_MO_makesColumn.2.1 25 = .ok (.bastore, 1) := by decide +kernel
theorem d_MO_makesColumn_26 : decode m_MO_makesColumn.2.1 26 = .ok (.aload_n 0, 1) := by decide +kernel
theorem d_MO_makesColumn_27 : decode m_MO_makesColumn.2.1 27 = .ok (.getfield 44, 3) := by decide +kernel
theorem d_MO_makesColumn_30 : decode m_MO_makesColumn.2.1 30 = .ok (.iload_n 3, 1) := by decide +kernel
theorem d_MO_makesColumn_31 : decode m_MO_makesColumn.2.1 31 = .ok (.iconst 0, 1) := by decide +kernel
theorem d_MO_makesColumn_32 : decode m_MO_makesColumn.2.1 32 = .ok (.bastore, 1) := by decide +kernel
theorem d_MO_makesColumn_33 : decode m_MO_makesColumn.2.1 33 = .ok (.aload_n 0, 1) := by decide +kernel
theorem d_MO_makesColumn_34 : decode m_MO_makesColumn.2.1 34 = .ok (.getfield 7, 3) := by decide +kernel
theorem d_MO_makesColumn_37 : decode m_MO_makesColumn.2.1 37 = .ok (.iload_n 1, 1) := by decide +kernel
theorem d_MO_makesColumn_38 : decode m_MO_makesColumn.2.1 38 = .ok (.dup2, 1) := by decide +kernel
theorem d_MO_makesColumn_39 : decode m_MO_makesColumn.2.1 39 = .ok (.iaload, 1) := by decide +kernel
theorem d_MO_makesColumn_40 : decode m_MO_makesColumn.2.1 40 = .ok (.iconst 1, 1) := by decide +kernel
theorem d_MO_makesColumn_41 : decode m_MO_makesColumn.2.1 41 = .ok (.iadd, 1) := by decide +kernel
theorem d_MO_makesColumn_42 : decode m_MO_makesColumn.2.1 42 = .ok (.iastore, 1) := by decide +kernel
theorem d_MO_makesColumn_43 : decode m_MO_makesColumn.2.1 43 = .ok (.aload_n 0, 1) := by decide +kernel
theorem d_MO_makesColumn_44 : decode m_MO_makesColumn.2.1 44 = .ok (.iconst 0, 1) := by decide +kernel
theorem d_MO_makesColumn_45 : decode m_MO_makesColumn.2.1 45 = .ok (.putfield 289, 3) := by decide +kernel
theorem d_MO_makesColumn_48 : decode m_MO_makesColumn.2.1 48 = .ok (.iload_n 3, 1) := by decide +kernel
theorem d_MO_makesColumn_49 : decode m_MO_makesColumn.2.1 49 = .ok (.ireturn, 1) := by decide +kernel
theorem d_MO_narrow_0 : decode m_MO_narrow.2.1 0 = .ok (.aload_n 0, 1) := by decide +kernel
theorem d_MO_narrow_1 : decode m_MO_narrow.2.1 1 = .ok (.aload_n 0, 1) := by decide +kernel
theorem d_MO_narrow_2 : decode m_MO_narrow.2.1 2 = .ok (.iload_n 1, 1) := by decide +kernel
theorem d_MO_narrow_3 : decode m_MO_narrow.2.1 3 = .ok (.iload_n 2, 1) := by decide +kernel
theorem d_MO_narrow_4 : decode m_MO_narrow.2.1 4 = .ok (.iload_n 3, 1) := by decide +kernel
theorem d_MO_narrow_5 : decode m_MO_narrow.2.1 5 = .ok (.iload 4, 2) := by decide +kernel
theorem d_MO_narrow_7 : decode m_MO_narrow.2.1 7 = .ok (.invokevirtual 335, 3) := by decide +kernel
theorem d_MO_narrow_10 : decode m_MO_narrow.2.1 10 = .ok (.invokevirtual 292, 3) := by decide +kernel
theorem d_MO_narrow_13 : decode m_MO_narrow.2.1 13 = .ok (.ifCond .ne 5, 3) := by decide +kernel
theorem d_MO_narrow_16 : decode m_MO_narrow.2.1 16 = .ok (.iconst 0, 1) := by decide +kernel
theorem d_MO_narrow_17 : decode m_MO_narrow.2.1 17 = .ok (.ireturn, 1) := by decide +kernel
theorem d_MO_narrow_18 : decode m_MO_narrow.2.1 18 = .ok (.bipush 6, 2) := by decide +kernel
theorem d_MO_narrow_20 : decode m_MO_narrow.2.1 20 = .ok (.iload_n 1, 1) := by decide +kernel
theorem d_MO_narrow_21 : decode m_MO_narrow.2.1 21 = .ok (.imul, 1) := by decide +kernel
theorem d_MO_narrow_22 : decode m_MO_narrow.2.1 22 = .ok (.iload_n 2, 1) := by decide +kernel
theorem d_MO_narrow_23 : decode m_MO_narrow.2.1 23 = .ok (.iadd, 1) := by decide +kernel
theorem d_MO_narrow_24 : decode m_MO_narrow.2.1 24 = .ok (.istore 5, 2) := by decide +kernel
theorem d_MO_narrow_26 : decode m_MO_narrow.2.1 26 = .ok (.aload_n 0, 1) := by decide +kernel
theorem d_MO_narrow_27 : decode m_MO_narrow.2.1 27 = .ok (.getfield 16, 3) := by decide +kernel
theorem d_MO_narrow_30 : decode m_MO_narrow.2.1 30 = .ok (.iload 5, 2) := by decide +kernel
theorem d_MO_narrow_32 : decode m_MO_narrow.2.1 32 = .ok (.iaload, 1) := by decide +kernel
theorem d_MO_narrow_33 : decode m_MO_narrow.2.1 33 = .ok (.istore 6, 2) := by decide +kernel
theorem d_MO_narrow_35 : decode m_MO_narrow.2.1 35 = .ok (.aload_n 0, 1) := by decide +kernel
theorem d_MO_narrow_36 : decode m_MO_narrow.2.1 36 = .ok (.getfield 19, 3) := by decide +kernel
theorem d_MO_narrow_39 : decode m_MO_narrow.2.1 39 = .ok (.iload 5, 2) := by decide +kernel
theorem d_MO_narrow_41 : decode m_MO_narrow.2.1 41 = .ok (.iaload, 1) := by decide +kernel
theorem d_MO_narrow_42 : decode m_MO_narrow.2.1 42 = .ok (.istore 7, 2) := by decide +kernel
theorem d_MO_narrow_44 : decode m_MO_narrow.2.1 44 = .ok (.aload_n 0, 1) := by decide +kernel
theorem d_MO_narrow_45 : decode m_MO_narrow.2.1 45 = .ok (.bipush 6, 2) := by decide +kernel
theorem d_MO_narrow_47 : decode m_MO_narrow.2.1 47 = .ok (.invokevirtual 322, 3) := by decide +kernel
theorem d_MO_narrow_50 : decode m_MO_narrow.2.1 50 = .ok (.aload_n 0, 1) := by decide +kernel
theorem d_MO_narrow_51 : decode m_MO_narrow.2.1 51 = .ok (.iload_n 1, 1) := by decide +kernel
theorem d_MO_narrow_52 : decode m_MO_narrow.2.1 52 = .ok (.iload_n 2, 1) := by decide +kernel
theorem d_MO_narrow_53 : decode m_MO_narrow.2.1 53 = .ok (.iload_n 3, 1) := by decide +kernel
theorem d_MO_narrow_54 : decode m_MO_narrow.2.1 54 = .ok (.iload 4, 2) := by decide +kernel
theorem d_MO_narrow_56 : decode m_MO_narrow.2.1 56 = .ok (.iconst 1, 1) := by decide +kernel
theorem d_MO_narrow_57 : decode m_MO_narrow.2.1 57 = .ok (.invokevirtual 338, 3) := by decide +kernel
theorem d_MO_narrow_60 : decode m_MO_narrow.2.1 60 = .ok (.pop, 1) := by decide +kernel
theorem d_MO_narrow_61 : decode m_MO_narrow.2.1 61 = .ok (.aload_n 0, 1) := by decide +kernel
theorem d_MO_narrow_62 : decode m_MO_narrow.2.1 62 = .ok (.getfield 16, 3) := by decide +kernel
theorem d_MO_narrow_65 : decode m_MO_narrow.2.1 65 = .ok (.iload 5, 2) := by decide +kernel
theorem d_MO_narrow_67 : decode m_MO_narrow.2.1 67 = .ok (.iload_n 3, 1) := by decide +kernel
theorem d_MO_narrow_68 : decode m_MO_narrow.2.1 68 = .ok (.iastore, 1) := by decide +kernel
theorem d_MO_narrow_69 : decode m_MO_narrow.2.1 69 = .ok (.aload_n 0, 1) := by decide +kernel
theorem d_MO_narrow_70 : decode m_MO_narrow.2.1 70 = .ok (.getfield 19, 3) := by decide +kernel
theorem d_MO_narrow_73 : decode m_MO_narrow.2.1 73 = .ok (.iload 5, 2) := by decide +kernel
theorem d_MO_narrow_75 : decode m_MO_narrow.2.1 75 = .ok (.iload 4, 2) := by decide +kernel
theorem d_MO_narrow_77 : decode m_MO_narrow.2.1 77 = .ok (.iastore, 1) := by decide +kernel
theorem d_MO_narrow_78 : decode m_MO_narrow.2.1 78 = .ok (.aload_n 0, 1) := by decide +kernel
theorem d_MO_narrow_79 : decode m_MO_narrow.2.1 79 = .ok (.invokevirtual 325, 3) := by decide +kernel
theorem d_MO_narrow_82 : decode m_MO_narrow.2.1 82 = .ok (.istore 8, 2) := by decide +kernel
theorem d_MO_narrow_84 : decode m_MO_narrow.2.1 84 = .ok (.aload_n 0, 1) := by decide +kernel
theorem d_MO_narrow_85 : decode m_MO_narrow.2.1 85 = .ok (.getfield 16, 3) := by decide +kernel
theorem d_MO_narrow_88 : decode m_MO_narrow.2.1 88 = .ok (.iload 5, 2) := by decide +kernel
theorem d_MO_narrow_90 : decode m_MO_narrow.2.1 90 = .ok (.iload 8, 2) := by decide +kernel
theorem d_MO_narrow_92 : decode m_MO_narrow.2.1 92 = .ok (.ifCond .eq 7, 3) := by decide +kernel
theorem d_MO_narrow_95 : decode m_MO_narrow.2.1 95 = .ok (.iload_n 3, 1) := by decide +kernel
theorem d_MO_narrow_96 : decode m_MO_narrow.2.1 96 = .ok (.goto 5, 3) := by decide +kernel
theorem d_MO_narrow_99 : decode m_MO_narrow.2.1 99 = .ok (.iload 6, 2) := by decide +kernel
theorem d_MO_narrow_101 : decode m_MO_narrow.2.1 101 = .ok (.iastore, 1) := by decide +kernel
theorem d_MO_narrow_102 : decode m_MO_narrow.2.1 102 = .ok (.aload_n 0, 1) := by decide +kernel
theorem d_MO_narrow_103 : decode m_MO_narrow.2.1 103 = .ok (.getfield 19, 3) := by decide +kernel
theorem d_MO_narrow_106 : decode m_MO_narrow.2.1 106 = .ok (.iload 5, 2) := by decide +kernel
theorem d_MO_narrow_108 : decode m_MO_narrow.2.1 108 = .ok (.iload 8, 2) := by decide +kernel
theorem d_MO_narrow_110 : decode m_MO_narrow.2.1 110 = .ok (.ifCond .eq 8, 3) := by decide +kernel
theorem d_MO_narrow_113 : decode m_MO_narrow.2.1 113 = .ok (.iload 4, 2) := by decide +kernel
theorem d_MO_narrow_115 : decode m_MO_narrow.2.1 115 = .ok (.goto 5, 3) := by decide +kernel
theorem d_MO_narrow_118 : decode m_MO_narrow.2.1 118 = .ok (.iload 7, 2) := by decide +kernel
theorem d_MO_narrow_120 : decode m_MO_narrow.2.1 120 = .ok (.iastore, 1) := by decide +kernel
theorem d_MO_narrow_121 : decode m_MO_narrow.2.1 121 = .ok (.aload_n 0, 1) := by decide +kernel
theorem d_MO_narrow_122 : decode m_MO_narrow.2.1 122 = .ok (.iload 8, 2) := by decide +kernel
theorem d_MO_narrow_124 : decode m_MO_narrow.2.1 124 = .ok (.invokevirtual 328, 3) := by decide +kernel
theorem d_MO_narrow_127 : decode m_MO_narrow.2.1 127 = .ok (.ireturn, 1) := by decide +kernel
theorem d_MO_need_0 : decode m_MO_need.2.1 0 = .ok (.aload_n 0, 1) := by decide +kernel
theorem d_MO_need_1 : decode m_MO_need.2.1 1 = .ok (.aload_n 0, 1) := by decide +kernel
theorem d_MO_need_2 : decode m_MO_need.2.1 2 = .ok (.iload_n 1, 1) := by decide +kernel
theorem d_MO_need_3 : decode m_MO_need.2.1 3 = .ok (.iload_n 2, 1) := by decide +kernel
theorem d_MO_need_4 : decode m_MO_need.2.1 4 = .ok (.invokevirtual 332, 3) := by decide +kernel
theorem d_MO_need_7 : decode m_MO_need.2.1 7 = .ok (.invokevirtual 292, 3) := by decide +kernel
theorem d_MO_need_10 : decode m_MO_need.2.1 10 = .ok (.ifCond .ne 5, 3) := by decide +kernel
theorem d_MO_need_13 : decode m_MO_need.2.1 13 = .ok (.iconst 0, 1) := by decide +kernel
theorem d_MO_need_14 : decode m_MO_need.2.1 14 = .ok (.ireturn, 1) := by decide +kernel
theorem d_MO_need_15 : decode m_MO_need.2.1 15 = .ok (.bipush 6, 2) := by decide +kernel
theorem d_MO_need_17 : decode m_MO_need.2.1 17 = .ok (.iload_n 1, 1) := by decide +kernel
theorem d_MO_need_18 : decode m_MO_need.2.1 18 = .ok (.imul, 1) := by decide +kernel
theorem d_MO_need_19 : decode m_MO_need.2.1 19 = .ok (.iload_n 2, 1) := by decide +kernel
theorem d_MO_need_20 : decode m_MO_need.2.1 20 = .ok (.iadd, 1) := by decide +kernel
theorem d_MO_need_21 : decode m_MO_need.2.1 21 = .ok (.istore 4, 2) := by decide +kernel
theorem d_MO_need_23 : decode m_MO_need.2.1 23 = .ok (.aload_n 0, 1) := by decide +kernel
theorem d_MO_need_24 : decode m_MO_need.2.1 24 = .ok (.getfield 40, 3) := by decide +kernel
theorem d_MO_need_27 : decode m_MO_need.2.1 27 = .ok (.iload 4, 2) := by decide +kernel
theorem d_MO_need_29 : decode m_MO_need.2.1 29 = .ok (.baload, 1) := by decide +kernel
theorem d_MO_need_30 : decode m_MO_need.2.1 30 = .ok (.istore 5, 2) := by decide +kernel
theorem d_MO_need_32 : decode m_MO_need.2.1 32 = .ok (.aload_n 0, 1) := by decide +kernel
theorem d_MO_need_33 : decode m_MO_need.2.1 33 = .ok (.bipush 6, 2) := by decide +kernel
theorem d_MO_need_35 : decode m_MO_need.2.1 35 = .ok (.invokevirtual 322, 3) := by decide +kernel
theorem d_MO_need_38 : decode m_MO_need.2.1 38 = .ok (.aload_n 0, 1) := by decide +kernel
theorem d_MO_need_39 : decode m_MO_need.2.1 39 = .ok (.getfield 40, 3) := by decide +kernel
theorem d_MO_need_42 : decode m_MO_need.2.1 42 = .ok (.iload 4, 2) := by decide +kernel
theorem d_MO_need_44 : decode m_MO_need.2.1 44 = .ok (.iload_n 3, 1) := by decide +kernel
theorem d_MO_need_45 : decode m_MO_need.2.1 45 = .ok (.bastore, 1) := by decide +kernel
theorem d_MO_need_46 : decode m_MO_need.2.1 46 = .ok (.aload_n 0, 1) := by decide +kernel
theorem d_MO_need_47 : decode m_MO_need.2.1 47 = .ok (.invokevirtual 325, 3) := by decide +kernel
theorem d_MO_need_50 : decode m_MO_need.2.1 50 = .ok (.istore 6, 2) := by decide +kernel
theorem d_MO_need_52 : decode m_MO_need.2.1 52 = .ok (.aload_n 0, 1) := by decide +kernel
theorem d_MO_need_53 : decode m_MO_need.2.1 53 = .ok (.getfield 40, 3) := by decide +kernel
theorem d_MO_need_56 : decode m_MO_need.2.1 56 = .ok (.iload 4, 2) := by decide +kernel
theorem d_MO_need_58 : decode m_MO_need.2.1 58 = .ok (.iload 6, 2) := by decide +kernel
theorem d_MO_need_60 : decode m_MO_need.2.1 60 = .ok (.ifCond .eq 7, 3) := by decide +kernel
theorem d_MO_need_63 : decode m_MO_need.2.1 63 = .ok (.iload_n 3, 1) := by decide +kernel
theorem d_MO_need_64 : decode m_MO_need.2.1 64 = .ok (.goto 5, 3) := by decide +kernel
theorem d_MO_need_67 : decode m_MO_need.2.1 67 = .ok (.iload 5, 2) := by decide +kernel
theorem d_MO_need_69 : decode m_MO_need.2.1 69 = .ok (.bastore, 1) := by decide +kernel
theorem d_MO_need_70 : decode m_MO_need.2.1 70 = .ok (.aload_n 0, 1) := by decide +kernel
theorem d_MO_need_71 : decode m_MO_need.2.1 71 = .ok (.iload 6, 2) := by decide +kernel
theorem d_MO_need_73 : decode m_MO_need.2.1 73 = .ok (.invokevirtual 328, 3) := by decide +kernel
theorem d_MO_need_76 : decode m_MO_need.2.1 76 = .ok (.ireturn, 1) := by decide +kernel
theorem d_MO_nextReckoned_0 : decode m_MO_nextReckoned.2.1 0 = .ok (.iconst 0, 1) := by decide +kernel
theorem d_MO_nextReckoned_1 : decode m_MO_nextReckoned.2.1 1 = .ok (.istore_n 1, 1) := by decide +kernel
theorem d_MO_nextReckoned_2 : decode m_MO_nextReckoned.2.1 2 = .ok (.iload_n 1, 1) := by decide +kernel
theorem d_MO_nextReckoned_3 : decode m_MO_nextReckoned.2.1 3 = .ok (.bipush 24, 2) := by decide +kernel
theorem d_MO_nextReckoned_5 : decode m_MO_nextReckoned.2.1 5 = .ok (.if_icmp .ge 54, 3) := by decide +kernel
theorem d_MO_nextReckoned_8 : decode m_MO_nextReckoned.2.1 8 = .ok (.aload_n 0, 1) := by decide +kernel
theorem d_MO_nextReckoned_9 : decode m_MO_nextReckoned.2.1 9 = .ok (.getfield 13, 3) := by decide +kernel
theorem d_MO_nextReckoned_12 : decode m_MO_nextReckoned.2.1 12 = .ok (.iload_n 1, 1) := by decide +kernel
theorem d_MO_nextReckoned_13 : decode m_MO_nextReckoned.2.1 13 = .ok (.iaload, 1) := by decide +kernel
theorem d_MO_nextReckoned_14 : decode m_MO_nextReckoned.2.1 14 = .ok (.iconst 2, 1) := by decide +kernel
theorem d_MO_nextReckoned_15 : decode m_MO_nextReckoned.2.1 15 = .ok (.if_icmp .ne 38, 3) := by decide +kernel
theorem d_MO_nextReckoned_18 : decode m_MO_nextReckoned.2.1 18 = .ok (.aload_n 0, 1) := by decide +kernel
theorem d_MO_nextReckoned_19 : decode m_MO_nextReckoned.2.1 19 = .ok (.getfield 50, 3) := by decide +kernel
theorem d_MO_nextReckoned_22 : decode m_MO_nextReckoned.2.1 22 = .ok (.iload_n 1, 1) := by decide +kernel
theorem d_MO_nextReckoned_23 : decode m_MO_nextReckoned.2.1 23 = .ok (.baload, 1) := by decide +kernel
theorem d_MO_nextReckoned_24 : decode m_MO_nextReckoned.2.1 24 = .ok (.ifCond .ne 29, 3) := by decide +kernel
theorem d_MO_nextReckoned_27 : decode m_MO_nextReckoned.2.1 27 = .ok (.aload_n 0, 1) := by decide +kernel
theorem d_MO_nextReckoned_28 : decode m_MO_nextReckoned.2.1 28 = .ok (.aload_n 0, 1) := by decide +kernel
theorem d_MO_nextReckoned_29 : decode m_MO_nextReckoned.2.1 29 = .ok (.iload_n 1, 1) := by decide +kernel
theorem d_MO_nextReckoned_30 : decode m_MO_nextReckoned.2.1 30 = .ok (.invokevirtual 208, 3) := by decide +kernel
theorem d_MO_nextReckoned_33 : decode m_MO_nextReckoned.2.1 33 = .ok (.invokevirtual 212, 3) := by decide +kernel
theorem d_MO_nextReckoned_36 : decode m_MO_nextReckoned.2.1 36 = .ok (.ifCond .eq 17, 3) := by decide +kernel
theorem d_MO_nextReckoned_39 : decode m_MO_nextReckoned.2.1 39 = .ok (.aload_n 0, 1) := by decide +kernel
theorem d_MO_nextReckoned_40 : decode m_MO_nextReckoned.2.1 40 = .ok (.aload_n 0, 1) := by decide +kernel
theorem d_MO_nextReckoned_41 : decode m_MO_nextReckoned.2.1 41 = .ok (.iload_n 1, 1) := by decide +kernel
theorem d_MO_nextReckoned_42 : decode m_MO_nextReckoned.2.1 42 = .ok (.invokevirtual 215, 3) := by decide +kernel
theorem d_MO_nextReckoned_45 : decode m_MO_nextReckoned.2.1 45 = .ok (.invokevirtual 212, 3) := by decide +kernel
theorem d_MO_nextReckoned_48 : decode m_MO_nextReckoned.2.1 48 = .ok (.ifCond .eq 5, 3) := by decide +kernel
theorem d_MO_nextReckoned_51 : decode m_MO_nextReckoned.2.1 51 = .ok (.iload_n 1, 1) := by decide +kernel
theorem d_MO_nextReckoned_52 : decode m_MO_nextReckoned.2.1 52 = .ok (.ireturn, 1) := by decide +kernel
theorem d_MO_nextReckoned_53 : decode m_MO_nextReckoned.2.1 53 = .ok (.iinc 1 1, 3) := by decide +kernel
theorem d_MO_nextReckoned_56 : decode m_MO_nextReckoned.2.1 56 = .ok (.goto (-54), 3) := by decide +kernel
theorem d_MO_nextReckoned_59 : decode m_MO_nextReckoned.2.1 59 = .ok (.iconst (-1), 1) := by decide +kernel
theorem d_MO_nextReckoned_60 : decode m_MO_nextReckoned.2.1 60 = .ok (.ireturn, 1) := by decide +kernel
theorem d_MO_nextToGo_0 : decode m_MO_nextToGo.2.1 0 = .ok (.iconst 0, 1) := by decide +kernel
theorem d_MO_nextToGo_1 : decode m_MO_nextToGo.2.1 1 = .ok (.istore_n 1, 1) := by decide +kernel
theorem d_MO_nextToGo_2 : decode m_MO_nextToGo.2.1 2 = .ok (.iload_n 1, 1) := by decide +kernel
theorem d_MO_nextToGo_3 : decode m_MO_nextToGo.2.1 3 = .ok (.sipush 720, 3) := by decide +kernel
theorem d_MO_nextToGo_6 : decode m_MO_nextToGo.2.1 6 = .ok (.if_icmp .ge 42, 3) := by decide +kernel
theorem d_MO_nextToGo_9 : decode m_MO_nextToGo.2.1 9 = .ok (.aload_n 0, 1) := by decide +kernel
theorem d_MO_nextToGo_10 : decode m_MO_nextToGo.2.1 10 = .ok (.getfield 87, 3) := by decide +kernel
theorem d_MO_nextToGo_13 : decode m_MO_nextToGo.2.1 13 = .ok (.iload_n 1, 1) := by decide +kernel
theorem d_MO_nextToGo_14 : decode m_MO_nextToGo.2.1 14 = .ok (.bipush 6, 2) := by decide +kernel
theorem d_MO_nextToGo_16 : decode m_MO_nextToGo.2.1 16 = .ok (.idiv, 1) := by decide +kernel
theorem d_MO_nextToGo_17 : decode m_MO_nextToGo.2.1 17 = .ok (.baload, 1) := by decide +kernel
theorem d_MO_nextToGo_18 : decode m_MO_nextToGo.2.1 18 = .ok (.ifCond .ne 24, 3) := by decide +kernel
theorem d_MO_nextToGo_21 : decode m_MO_nextToGo.2.1 21 = .ok (.aload_n 0, 1) := by decide +kernel
theorem d_MO_nextToGo_22 : decode m_MO_nextToGo.2.1 22 = .ok (.iload_n 1, 1) := by decide +kernel
theorem d_MO_nextToGo_23 : decode m_MO_nextToGo.2.1 23 = .ok (.bipush 6, 2) := by decide +kernel
theorem d_MO_nextToGo_25 : decode m_MO_nextToGo.2.1 25 = .ok (.idiv, 1) := by decide +kernel
theorem d_MO_nextToGo_26 : decode m_MO_nextToGo.2.1 26 = .ok (.iload_n 1, 1) := by decide +kernel
theorem d_MO_nextToGo_27 : decode m_MO_nextToGo.2.1 27 = .ok (.bipush 6, 2) := by decide +kernel
theorem d_MO_nextToGo_29 : decode m_MO_nextToGo.2.1 29 = .ok (.irem, 1) := by decide +kernel
theorem d_MO_nextToGo_30 : decode m_MO_nextToGo.2.1 30 = .ok (.iconst 1, 1) := by decide +kernel
theorem d_MO_nextToGo_31 : decode m_MO_nextToGo.2.1 31 = .ok (.invokevirtual 373, 3) := by decide +kernel
theorem d_MO_nextToGo_34 : decode m_MO_nextToGo.2.1 34 = .ok (.ifCond .eq 8, 3) := by decide +kernel
theorem d_MO_nextToGo_37 : decode m_MO_nextToGo.2.1 37 = .ok (.iload_n 1, 1) := by decide +kernel
theorem d_MO_nextToGo_38 : decode m_MO_nextToGo.2.1 38 = .ok (.bipush 6, 2) := by decide +kernel
theorem d_MO_nextToGo_40 : decode m_MO_nextToGo.2.1 40 = .ok (.idiv, 1) := by decide +kernel
theorem d_MO_nextToGo_41 : decode m_MO_nextToGo.2.1 41 = .ok (.ireturn, 1) := by decide +kernel
theorem d_MO_nextToGo_42 : decode m_MO_nextToGo.2.1 42 = .ok (.iinc 1 1, 3) := by decide +kernel
theorem d_MO_nextToGo_45 : decode m_MO_nextToGo.2.1 45 = .ok (.goto (-43), 3) := by decide +kernel
theorem d_MO_nextToGo_48 : decode m_MO_nextToGo.2.1 48 = .ok (.iconst (-1), 1) := by decide +kernel
theorem d_MO_nextToGo_49 : decode m_MO_nextToGo.2.1 49 = .ok (.ireturn, 1) := by decide +kernel
theorem d_MO_openForm_0 : decode m_MO_openForm.2.1 0 = .ok (.aload_n 0, 1) := by decide +kernel
theorem d_MO_openForm_1 : decode m_MO_openForm.2.1 1 = .ok (.aload_n 0, 1) := by decide +kernel
theorem d_MO_openForm_2 : decode m_MO_openForm.2.1 2 = .ok (.iload_n 1, 1) := by decide +kernel
theorem d_MO_openForm_3 : decode m_MO_openForm.2.1 3 = .ok (.iload_n 2, 1) := by decide +kernel
theorem d_MO_openForm_4 : decode m_MO_openForm.2.1 4 = .ok (.invokevirtual 233, 3) := by decide +kernel
theorem d_MO_openForm_7 : decode m_MO_openForm.2.1 7 = .ok (.ifCond .eq 7, 3) := by decide +kernel
theorem d_MO_openForm_10 : decode m_MO_openForm.2.1 10 = .ok (.iconst 0, 1) := by decide +kernel
theorem d_MO_openForm_11 : decode m_MO_openForm.2.1 11 = .ok (.goto 4, 3) := by decide +kernel
theorem d_MO_openForm_14 : decode m_MO_openForm.2.1 14 = .ok (.iconst 1, 1) := by decide +kernel
theorem d_MO_openForm_15 : decode m_MO_openForm.2.1 15 = .ok (.invokevirtual 292, 3) := by decide +kernel
theorem d_MO_openForm_18 : decode m_MO_openForm.2.1 18 = .ok (.ifCond .eq 13, 3) := by decide +kernel
theorem d_MO_openForm_21 : decode m_MO_openForm.2.1 21 = .ok (.aload_n 0, 1) := by decide +kernel
theorem d_MO_openForm_22 : decode m_MO_openForm.2.1 22 = .ok (.iload_n 1, 1) := by decide +kernel
theorem d_MO_openForm_23 : decode m_MO_openForm.2.1 23 = .ok (.putfield 83, 3) := by decide +kernel
theorem d_MO_openForm_26 : decode m_MO_openForm.2.1 26 = .ok (.aload_n 0, 1) := by decide +kernel
theorem d_MO_openForm_27 : decode m_MO_openForm.2.1 27 = .ok (.iload_n 2, 1) := by decide +kernel
theorem d_MO_openForm_28 : decode m_MO_openForm.2.1 28 = .ok (.putfield 360, 3) := by decide +kernel
theorem d_MO_openForm_31 : decode m_MO_openForm.2.1 31 = .ok (.return_, 1) := by decide +kernel
theorem d_MO_order_0 : decode m_MO_order.2.1 0 = .ok (.aload_n 0, 1) := by decide +kernel
theorem d_MO_order_1 : decode m_MO_order.2.1 1 = .ok (.invokevirtual 244, 3) := by decide +kernel
theorem d_MO_order_4 : decode m_MO_order.2.1 4 = .ok (.pop, 1) := by decide +kernel
theorem d_MO_order_5 : decode m_MO_order.2.1 5 = .ok (.aload_n 0, 1) := by decide +kernel
theorem d_MO_order_6 : decode m_MO_order.2.1 6 = .ok (.iload_n 1, 1) := by decide +kernel
theorem d_MO_order_7 : decode m_MO_order.2.1 7 = .ok (.iconst 0, 1) := by decide +kernel
theorem d_MO_order_8 : decode m_MO_order.2.1 8 = .ok (.aload_n 0, 1) := by decide +kernel
theorem d_MO_order_9 : decode m_MO_order.2.1 9 = .ok (.getfield 218, 3) := by decide +kernel
theorem d_MO_order_12 : decode m_MO_order.2.1 12 = .ok (.iconst 1, 1) := by decide +kernel
theorem d_MO_order_13 : decode m_MO_order.2.1 13 = .ok (.isub, 1) := by decide +kernel
theorem d_MO_order_14 : decode m_MO_order.2.1 14 = .ok (.invokestatic 190, 3) := by decide +kernel
theorem d_MO_order_17 : decode m_MO_order.2.1 17 = .ok (.ifCond .eq 7, 3) := by decide +kernel
theorem d_MO_order_20 : decode m_MO_order.2.1 20 = .ok (.iconst 0, 1) := by decide +kernel
theorem d_MO_order_21 : decode m_MO_order.2.1 21 = .ok (.goto 4, 3) := by decide +kernel
theorem d_MO_order_24 : decode m_MO_order.2.1 24 = .ok (.iconst 1, 1) := by decide +kernel
theorem d_MO_order_25 : decode m_MO_order.2.1 25 = .ok (.invokevirtual 292, 3) := by decide +kernel
theorem d_MO_order_28 : decode m_MO_order.2.1 28 = .ok (.ifCond .eq 28, 3) := by decide +kernel
theorem d_MO_order_31 : decode m_MO_order.2.1 31 = .ok (.bipush 10, 2) := by decide +kernel
theorem d_MO_order_33 : decode m_MO_order.2.1 33 = .ok (.aload_n 0, 1) := by decide +kernel
theorem d_MO_order_34 : decode m_MO_order.2.1 34 = .ok (.getfield 47, 3) := by decide +kernel
theorem d_MO_order_37 : decode m_MO_order.2.1 37 = .ok (.iload_n 1, 1) := by decide +kernel
theorem d_MO_order_38 : decode m_MO_order.2.1 38 = .ok (.iaload, 1) := by decide +kernel
theorem d_MO_order_39 : decode m_MO_order.2.1 39 = .ok (.bipush 6, 2) := by decide +kernel
theorem d_MO_order_41 : decode m_MO_order.2.1 41 = .ok (.idiv, 1) := by decide +kernel
theorem d_MO_order_42 : decode m_MO_order.2.1 42 = .ok (.imul, 1) := by decide +kernel
theorem d_MO_order_43 : decode m_MO_order.2.1 43 = .ok (.aload_n 0, 1) := by decide +kernel
theorem d_MO_order_44 : decode m_MO_order.2.1 44 = .ok (.getfield 47, 3) := by decide +kernel
theorem d_MO_order_47 : decode m_MO_order.2.1 47 = .ok (.iload_n 1, 1) := by decide +kernel
theorem d_MO_order_48 : decode m_MO_order.2.1 48 = .ok (.iaload, 1) := by decide +kernel
theorem d_MO_order_49 : decode m_MO_order.2.1 49 = .ok (.bipush 6, 2) := by decide +kernel
theorem d_MO_order_51 : decode m_MO_order.2.1 51 = .ok (.irem, 1) := by decide +kernel
theorem d_MO_order_52 : decode m_MO_order.2.1 52 = .ok (.iadd, 1) := by decide +kernel
theorem d_MO_order_53 : decode m_MO_order.2.1 53 = .ok (.goto 4, 3) := by decide +kernel
theorem d_MO_order_56 : decode m_MO_order.2.1 56 = .ok (.iconst 0, 1) := by decide +kernel
theorem d_MO_order_57 : decode m_MO_order.2.1 57 = .ok (.ireturn, 1) := by decide +kernel
theorem d_MO_originOf_0 : decode m_MO_originOf.2.1 0 = .ok (.iload_n 1, 1) := by decide +kernel
theorem d_MO_originOf_1 : decode m_MO_originOf.2.1 1 = .ok (.bipush 10, 2) := by decide +kernel
theorem d_MO_originOf_3 : decode m_MO_originOf.2.1 3 = .ok (.if_icmp .ge 12, 3) := by decide +kernel
theorem d_MO_originOf_6 : decode m_MO_originOf.2.1 6 = .ok (.bipush 6, 2) := by decide +kernel
theorem d_MO_originOf_8 : decode m_MO_originOf.2.1 8 = .ok (.iload_n 1, 1) := by decide +kernel
theorem d_MO_originOf_9 : decode m_MO_originOf.2.1 9 = .ok (.imul, 1) := by decide +kernel
theorem d_MO_originOf_10 : decode m_MO_originOf.2.1 10 = .ok (.iload_n 2, 1) := by decide +kernel
theorem d_MO_originOf_11 : decode m_MO_originOf.2.1 11 = .ok (.iadd, 1) := by decide +kernel
theorem d_MO_originOf_12 : decode m_MO_originOf.2.1 12 = .ok (.goto 17, 3) := by decide +kernel
theorem d_MO_originOf_15 : decode m_MO_originOf.2.1 15 = .ok (.aload_n 0, 1) := by decide +kernel
theorem d_MO_originOf_16 : decode m_MO_originOf.2.1 16 = .ok (.getfield 156, 3) := by decide +kernel
theorem d_MO_originOf_19 : decode m_MO_originOf.2.1 19 = .ok (.bipush 54, 2) := by decide +kernel
theorem d_MO_originOf_21 : decode m_MO_originOf.2.1 21 = .ok (.iload_n 1, 1) := by decide +kernel
theorem d_MO_originOf_22 : decode m_MO_originOf.2.1 22 = .ok (.bipush 10, 2) := by decide +kernel
theorem d_MO_originOf_24 : decode m_MO_originOf.2.1 24 = .ok (.isub, 1) := by decide +kernel
theorem d_MO_originOf_25 : decode m_MO_originOf.2.1 25 = .ok (.imul, 1) := by decide +kernel
theorem d_MO_originOf_26 : decode m_MO_originOf.2.1 26 = .ok (.iload_n 2, 1) := by decide +kernel
theorem d_MO_originOf_27 : decode m_MO_originOf.2.1 27 = .ok (.iadd, 1) := by decide +kernel
theorem d_MO_originOf_28 : decode m_MO_originOf.2.1 28 = .ok (.iaload, 1) := by decide +kernel
theorem d_MO_originOf_29 : decode m_MO_originOf.2.1 29 = .ok (.ireturn, 1) := by decide +kernel

theorem d_BA_init_0 : decode m_BA_init.2.1 0 = .ok (.aload_n 0, 1) := by decide +kernel
theorem d_BA_init_1 : decode m_BA_init.2.1 1 = .ok (.invokespecial 3, 3) := by decide +kernel
theorem d_BA_init_4 : decode m_BA_init.2.1 4 = .ok (.aload_n 0, 1) := by decide +kernel
theorem d_BA_init_5 : decode m_BA_init.2.1 5 = .ok (.bipush 24, 2) := by decide +kernel
theorem d_BA_init_7 : decode m_BA_init.2.1 7 = .ok (.anewarray 9, 3) := by decide +kernel
theorem d_BA_init_10 : decode m_BA_init.2.1 10 = .ok (.putfield 11, 3) := by decide +kernel
theorem d_BA_init_13 : decode m_BA_init.2.1 13 = .ok (.aload_n 0, 1) := by decide +kernel
theorem d_BA_init_14 : decode m_BA_init.2.1 14 = .ok (.new 9, 3) := by decide +kernel
theorem d_BA_init_17 : decode m_BA_init.2.1 17 = .ok (.dup, 1) := by decide +kernel
theorem d_BA_init_18 : decode m_BA_init.2.1 18 = .ok (.invokespecial 17, 3) := by decide +kernel
theorem d_BA_init_21 : decode m_BA_init.2.1 21 = .ok (.putfield 18, 3) := by decide +kernel
theorem d_BA_init_24 : decode m_BA_init.2.1 24 = .ok (.aload_n 0, 1) := by decide +kernel
theorem d_BA_init_25 : decode m_BA_init.2.1 25 = .ok (.iconst 4, 1) := by decide +kernel
theorem d_BA_init_26 : decode m_BA_init.2.1 26 = .ok (.newarray .int, 2) := by decide +kernel
theorem d_BA_init_28 : decode m_BA_init.2.1 28 = .ok (.putfield 22, 3) := by decide +kernel
theorem d_BA_init_31 : decode m_BA_init.2.1 31 = .ok (.aload_n 0, 1) := by decide +kernel
theorem d_BA_init_32 : decode m_BA_init.2.1 32 = .ok (.bipush 8, 2) := by decide +kernel
theorem d_BA_init_34 : decode m_BA_init.2.1 34 = .ok (.anewarray 26, 3) := by decide +kernel
theorem d_BA_init_37 : decode m_BA_init.2.1 37 = .ok (.putfield 28, 3) := by decide +kernel
theorem d_BA_init_40 : decode m_BA_init.2.1 40 = .ok (.aload_n 0, 1) := by decide +kernel
theorem d_BA_init_41 : decode m_BA_init.2.1 41 = .ok (.new 26, 3) := by decide +kernel
theorem d_BA_init_44 : decode m_BA_init.2.1 44 = .ok (.dup, 1) := by decide +kernel
theorem d_BA_init_45 : decode m_BA_init.2.1 45 = .ok (.invokespecial 32, 3) := by decide +kernel
theorem d_BA_init_48 : decode m_BA_init.2.1 48 = .ok (.putfield 33, 3) := by decide +kernel
theorem d_BA_init_51 : decode m_BA_init.2.1 51 = .ok (.aload_n 0, 1) := by decide +kernel
theorem d_BA_init_52 : decode m_BA_init.2.1 52 = .ok (.bipush 24, 2) := by decide +kernel
theorem d_BA_init_54 : decode m_BA_init.2.1 54 = .ok (.newarray .int, 2) := by decide +kernel
theorem d_BA_init_56 : decode m_BA_init.2.1 56 = .ok (.putfield 37, 3) := by decide +kernel
theorem d_BA_init_59 : decode m_BA_init.2.1 59 = .ok (.aload_n 0, 1) := by decide +kernel
theorem d_BA_init_60 : decode m_BA_init.2.1 60 = .ok (.new 40, 3) := by decide +kernel
theorem d_BA_init_63 : decode m_BA_init.2.1 63 = .ok (.dup, 1) := by decide +kernel
theorem d_BA_init_64 : decode m_BA_init.2.1 64 = .ok (.invokespecial 42, 3) := by decide +kernel
theorem d_BA_init_67 : decode m_BA_init.2.1 67 = .ok (.putfield 43, 3) := by decide +kernel
theorem d_BA_init_70 : decode m_BA_init.2.1 70 = .ok (.aload_n 0, 1) := by decide +kernel
theorem d_BA_init_71 : decode m_BA_init.2.1 71 = .ok (.new 40, 3) := by decide +kernel
theorem d_BA_init_74 : decode m_BA_init.2.1 74 = .ok (.dup, 1) := by decide +kernel
theorem d_BA_init_75 : decode m_BA_init.2.1 75 = .ok (.invokespecial 42, 3) := by decide +kernel
theorem d_BA_init_78 : decode m_BA_init.2.1 78 = .ok (.putfield 47, 3) := by decide +kernel
theorem d_BA_init_81 : decode m_BA_init.2.1 81 = .ok (.aload_n 0, 1) := by decide +kernel
theorem d_BA_init_82 : decode m_BA_init.2.1 82 = .ok (.new 50, 3) := by decide +kernel
theorem d_BA_init_85 : decode m_BA_init.2.1 85 = .ok (.dup, 1) := by decide +kernel
theorem d_BA_init_86 : decode m_BA_init.2.1 86 = .ok (.invokespecial 52, 3) := by decide +kernel
theorem d_BA_init_89 : decode m_BA_init.2.1 89 = .ok (.putfield 53, 3) := by decide +kernel
theorem d_BA_init_92 : decode m_BA_init.2.1 92 = .ok (.aload_n 0, 1) := by decide +kernel
theorem d_BA_init_93 : decode m_BA_init.2.1 93 = .ok (.bipush 24, 2) := by decide +kernel
theorem d_BA_init_95 : decode m_BA_init.2.1 95 = .ok (.newarray .boolean, 2) := by decide +kernel
theorem d_BA_init_97 : decode m_BA_init.2.1 97 = .ok (.putfield 57, 3) := by decide +kernel
theorem d_BA_init_100 : decode m_BA_init.2.1 100 = .ok (.aload_n 0, 1) := by decide +kernel
theorem d_BA_init_101 : decode m_BA_init.2.1 101 = .ok (.bipush 120, 2) := by decide +kernel
theorem d_BA_init_103 : decode m_BA_init.2.1 103 = .ok (.newarray .boolean, 2) := by decide +kernel
theorem d_BA_init_105 : decode m_BA_init.2.1 105 = .ok (.putfield 61, 3) := by decide +kernel
theorem d_BA_init_108 : decode m_BA_init.2.1 108 = .ok (.aload_n 0, 1) := by decide +kernel
theorem d_BA_init_109 : decode m_BA_init.2.1 109 = .ok (.bipush 30, 2) := by decide +kernel
theorem d_BA_init_111 : decode m_BA_init.2.1 111 = .ok (.newarray .int, 2) := by decide +kernel
theorem d_BA_init_113 : decode m_BA_init.2.1 113 = .ok (.putfield 64, 3) := by decide +kernel
theorem d_BA_init_116 : decode m_BA_init.2.1 116 = .ok (.iconst 0, 1) := by decide +kernel
theorem d_BA_init_117 : decode m_BA_init.2.1 117 = .ok (.istore_n 1, 1) := by decide +kernel
theorem d_BA_init_118 : decode m_BA_init.2.1 118 = .ok (.iload_n 1, 1) := by decide +kernel
theorem d_BA_init_119 : decode m_BA_init.2.1 119 = .ok (.aload_n 0, 1) := by decide +kernel
theorem d_BA_init_120 : decode m_BA_init.2.1 120 = .ok (.getfield 11, 3) := by decide +kernel
theorem d_BA_init_123 : decode m_BA_init.2.1 123 = .ok (.arraylength, 1) := by decide +kernel
theorem d_BA_init_124 : decode m_BA_init.2.1 124 = .ok (.if_icmp .ge 22, 3) := by decide +kernel
theorem d_BA_init_127 : decode m_BA_init.2.1 127 = .ok (.aload_n 0, 1) := by decide +kernel
theorem d_BA_init_128 : decode m_BA_init.2.1 128 = .ok (.getfield 11, 3) := by decide +kernel
theorem d_BA_init_131 : decode m_BA_init.2.1 131 = .ok (.iload_n 1, 1) := by decide +kernel
theorem d_BA_init_132 : decode m_BA_init.2.1 132 = .ok (.new 9, 3) := by decide +kernel
theorem d_BA_init_135 : decode m_BA_init.2.1 135 = .ok (.dup, 1) := by decide +kernel
theorem d_BA_init_136 : decode m_BA_init.2.1 136 = .ok (.invokespecial 17, 3) := by decide +kernel
theorem d_BA_init_139 : decode m_BA_init.2.1 139 = .ok (.aastore, 1) := by decide +kernel
theorem d_BA_init_140 : decode m_BA_init.2.1 140 = .ok (.iinc 1 1, 3) := by decide +kernel
theorem d_BA_init_143 : decode m_BA_init.2.1 143 = .ok (.goto (-25), 3) := by decide +kernel
theorem d_BA_init_146 : decode m_BA_init.2.1 146 = .ok (.iconst 0, 1) := by decide +kernel
theorem d_BA_init_147 : decode m_BA_init.2.1 147 = .ok (.istore_n 1, 1) := by decide +kernel
theorem d_BA_init_148 : decode m_BA_init.2.1 148 = .ok (.iload_n 1, 1) := by decide +kernel
theorem d_BA_init_149 : decode m_BA_init.2.1 149 = .ok (.aload_n 0, 1) := by decide +kernel
theorem d_BA_init_150 : decode m_BA_init.2.1 150 = .ok (.getfield 28, 3) := by decide +kernel
theorem d_BA_init_153 : decode m_BA_init.2.1 153 = .ok (.arraylength, 1) := by decide +kernel
theorem d_BA_init_154 : decode m_BA_init.2.1 154 = .ok (.if_icmp .ge 22, 3) := by decide +kernel
theorem d_BA_init_157 : decode m_BA_init.2.1 157 = .ok (.aload_n 0, 1) := by decide +kernel
theorem d_BA_init_158 : decode m_BA_init.2.1 158 = .ok (.getfield 28, 3) := by decide +kernel
theorem d_BA_init_161 : decode m_BA_init.2.1 161 = .ok (.iload_n 1, 1) := by decide +kernel
theorem d_BA_init_162 : decode m_BA_init.2.1 162 = .ok (.new 26, 3) := by decide +kernel
theorem d_BA_init_165 : decode m_BA_init.2.1 165 = .ok (.dup, 1) := by decide +kernel
theorem d_BA_init_166 : decode m_BA_init.2.1 166 = .ok (.invokespecial 32, 3) := by decide +kernel
theorem d_BA_init_169 : decode m_BA_init.2.1 169 = .ok (.aastore, 1) := by decide +kernel
theorem d_BA_init_170 : decode m_BA_init.2.1 170 = .ok (.iinc 1 1, 3) := by decide +kernel
theorem d_BA_init_173 : decode m_BA_init.2.1 173 = .ok (.goto (-25), 3) := by decide +kernel
theorem d_BA_init_176 : decode m_BA_init.2.1 176 = .ok (.return_, 1) := by decide +kernel
theorem d_BA_hasTable_0 : decode m_BA_hasTable.2.1 0 = .ok (.iload_n 1, 1) := by decide +kernel
theorem d_BA_hasTable_1 : decode m_BA_hasTable.2.1 1 = .ok (.ifCond .lt 15, 3) := by decide +kernel
theorem d_BA_hasTable_4 : decode m_BA_hasTable.2.1 4 = .ok (.iload_n 1, 1) := by decide +kernel
theorem d_BA_hasTable_5 : decode m_BA_hasTable.2.1 5 = .ok (.aload_n 0, 1) := by decide +kernel
theorem d_BA_hasTable_6 : decode m_BA_hasTable.2.1 6 = .ok (.getfield 67, 3) := by decide +kernel
theorem d_BA_hasTable_9 : decode m_BA_hasTable.2.1 9 = .ok (.if_icmp .ge 7, 3) := by decide +kernel
theorem d_BA_hasTable_12 : decode m_BA_hasTable.2.1 12 = .ok (.iconst 1, 1) := by decide +kernel
theorem d_BA_hasTable_13 : decode m_BA_hasTable.2.1 13 = .ok (.goto 4, 3) := by decide +kernel
theorem d_BA_hasTable_16 : decode m_BA_hasTable.2.1 16 = .ok (.iconst 0, 1) := by decide +kernel
theorem d_BA_hasTable_17 : decode m_BA_hasTable.2.1 17 = .ok (.ireturn, 1) := by decide +kernel
theorem d_BA_widthOf_0 : decode m_BA_widthOf.2.1 0 = .ok (.iload_n 1, 1) := by decide +kernel
theorem d_BA_widthOf_1 : decode m_BA_widthOf.2.1 1 = .ok (.ifCond .lt 8, 3) := by decide +kernel
theorem d_BA_widthOf_4 : decode m_BA_widthOf.2.1 4 = .ok (.iload_n 1, 1) := by decide +kernel
theorem d_BA_widthOf_5 : decode m_BA_widthOf.2.1 5 = .ok (.iconst 4, 1) := by decide +kernel
theorem d_BA_widthOf_6 : decode m_BA_widthOf.2.1 6 = .ok (.if_icmp .lt 7, 3) := by decide +kernel
theorem d_BA_widthOf_9 : decode m_BA_widthOf.2.1 9 = .ok (.iconst 0, 1) := by decide +kernel
theorem d_BA_widthOf_10 : decode m_BA_widthOf.2.1 10 = .ok (.goto 9, 3) := by decide +kernel
theorem d_BA_widthOf_13 : decode m_BA_widthOf.2.1 13 = .ok (.aload_n 0, 1) := by decide +kernel
theorem d_BA_widthOf_14 : decode m_BA_widthOf.2.1 14 = .ok (.getfield 22, 3) := by decide +kernel
theorem d_BA_widthOf_17 : decode m_BA_widthOf.2.1 17 = .ok (.iload_n 1, 1) := by decide +kernel
theorem d_BA_widthOf_18 : decode m_BA_widthOf.2.1 18 = .ok (.iaload, 1) := by decide +kernel
theorem d_BA_widthOf_19 : decode m_BA_widthOf.2.1 19 = .ok (.ireturn, 1) := by decide +kernel
theorem d_BA_hasColumn_0 : decode m_BA_hasColumn.2.1 0 = .ok (.aload_n 0, 1) := by decide +kernel
theorem d_BA_hasColumn_1 : decode m_BA_hasColumn.2.1 1 = .ok (.iload_n 1, 1) := by decide +kernel
theorem d_BA_hasColumn_2 : decode m_BA_hasColumn.2.1 2 = .ok (.invokevirtual 71, 3) := by decide +kernel
theorem d_BA_hasColumn_5 : decode m_BA_hasColumn.2.1 5 = .ok (.ifCond .eq 20, 3) := by decide +kernel
theorem d_BA_hasColumn_8 : decode m_BA_hasColumn.2.1 8 = .ok (.iload_n 2, 1) := by decide +kernel
theorem d_BA_hasColumn_9 : decode m_BA_hasColumn.2.1 9 = .ok (.ifCond .lt 16, 3) := by decide +kernel
theorem d_BA_hasColumn_12 : decode m_BA_hasColumn.2.1 12 = .ok (.iload_n 2, 1) := by decide +kernel
theorem d_BA_hasColumn_13 : decode m_BA_hasColumn.2.1 13 = .ok (.aload_n 0, 1) := by decide +kernel
theorem d_BA_hasColumn_14 : decode m_BA_hasColumn.2.1 14 = .ok (.iload_n 1, 1) := by decide +kernel
theorem d_BA_hasColumn_15 : decode m_BA_hasColumn.2.1 15 = .ok (.invokevirtual 75, 3) := by decide +kernel
theorem d_BA_hasColumn_18 : decode m_BA_hasColumn.2.1 18 = .ok (.if_icmp .ge 7, 3) := by decide +kernel
theorem d_BA_hasColumn_21 : decode m_BA_hasColumn.2.1 21 = .ok (.iconst 1, 1) := by decide +kernel
theorem d_BA_hasColumn_22 : decode m_BA_hasColumn.2.1 22 = .ok (.goto 4, 3) := by decide +kernel
theorem d_BA_hasColumn_25 : decode m_BA_hasColumn.2.1 25 = .ok (.iconst 0, 1) := by decide +kernel
theorem d_BA_hasColumn_26 : decode m_BA_hasColumn.2.1 26 = .ok (.ireturn, 1) := by decide +kernel
theorem d_BA_column_0 : decode m_BA_column.2.1 0 = .ok (.iload_n 1, 1) := by decide +kernel
theorem d_BA_column_1 : decode m_BA_column.2.1 1 = .ok (.ifCond .lt 18, 3) := by decide +kernel
theorem d_BA_column_4 : decode m_BA_column.2.1 4 = .ok (.iload_n 1, 1) := by decide +kernel
theorem d_BA_column_5 : decode m_BA_column.2.1 5 = .ok (.iconst 4, 1) := by decide +kernel
theorem d_BA_column_6 : decode m_BA_column.2.1 6 = .ok (.if_icmp .ge 13, 3) := by decide +kernel
theorem d_BA_column_9 : decode m_BA_column.2.1 9 = .ok (.iload_n 2, 1) := by decide +kernel
theorem d_BA_column_10 : decode m_BA_column.2.1 10 = .ok (.ifCond .lt 9, 3) := by decide +kernel
theorem d_BA_column_13 : decode m_BA_column.2.1 13 = .ok (.iload_n 2, 1) := by decide +kernel
theorem d_BA_column_14 : decode m_BA_column.2.1 14 = .ok (.bipush 6, 2) := by decide +kernel
theorem d_BA_column_16 : decode m_BA_column.2.1 16 = .ok (.if_icmp .lt 8, 3) := by decide +kernel
theorem d_BA_column_19 : decode m_BA_column.2.1 19 = .ok (.aload_n 0, 1) := by decide +kernel
theorem d_BA_column_20 : decode m_BA_column.2.1 20 = .ok (.getfield 18, 3) := by decide +kernel
theorem d_BA_column_23 : decode m_BA_column.2.1 23 = .ok (.areturn, 1) := by decide +kernel
theorem d_BA_column_24 : decode m_BA_column.2.1 24 = .ok (.aload_n 0, 1) := by decide +kernel
theorem d_BA_column_25 : decode m_BA_column.2.1 25 = .ok (.getfield 11, 3) := by decide +kernel
theorem d_BA_column_28 : decode m_BA_column.2.1 28 = .ok (.iload_n 1, 1) := by decide +kernel
theorem d_BA_column_29 : decode m_BA_column.2.1 29 = .ok (.bipush 6, 2) := by decide +kernel
theorem d_BA_column_31 : decode m_BA_column.2.1 31 = .ok (.imul, 1) := by decide +kernel
theorem d_BA_column_32 : decode m_BA_column.2.1 32 = .ok (.iload_n 2, 1) := by decide +kernel
theorem d_BA_column_33 : decode m_BA_column.2.1 33 = .ok (.iadd, 1) := by decide +kernel
theorem d_BA_column_34 : decode m_BA_column.2.1 34 = .ok (.aaload, 1) := by decide +kernel
theorem d_BA_column_35 : decode m_BA_column.2.1 35 = .ok (.areturn, 1) := by decide +kernel
theorem d_BA_isStored_0 : decode m_BA_isStored.2.1 0 = .ok (.iload_n 1, 1) := by decide +kernel
theorem d_BA_isStored_1 : decode m_BA_isStored.2.1 1 = .ok (.ifCond .lt 25, 3) := by decide +kernel
theorem d_BA_isStored_4 : decode m_BA_isStored.2.1 4 = .ok (.aload_n 0, 1) := by decide +kernel
theorem d_BA_isStored_5 : decode m_BA_isStored.2.1 5 = .ok (.iload_n 1, 1) := by decide +kernel
theorem d_BA_isStored_6 : decode m_BA_isStored.2.1 6 = .ok (.bipush 10, 2) := by decide +kernel
theorem d_BA_isStored_8 : decode m_BA_isStored.2.1 8 = .ok (.idiv, 1) := by decide +kernel
theorem d_BA_isStored_9 : decode m_BA_isStored.2.1 9 = .ok (.iload_n 1, 1) := by decide +kernel
theorem d_BA_isStored_10 : decode m_BA_isStored.2.1 10 = .ok (.bipush 10, 2) := by decide +kernel
theorem d_BA_isStored_12 : decode m_BA_isStored.2.1 12 = .ok (.irem, 1) := by decide +kernel
theorem d_BA_isStored_13 : decode m_BA_isStored.2.1 13 = .ok (.invokevirtual 79, 3) := by decide +kernel
theorem d_BA_isStored_16 : decode m_BA_isStored.2.1 16 = .ok (.invokevirtual 83, 3) := by decide +kernel
theorem d_BA_isStored_19 : decode m_BA_isStored.2.1 19 = .ok (.ifCond .eq 7, 3) := by decide +kernel
theorem d_BA_isStored_22 : decode m_BA_isStored.2.1 22 = .ok (.iconst 1, 1) := by decide +kernel
theorem d_BA_isStored_23 : decode m_BA_isStored.2.1 23 = .ok (.goto 4, 3) := by decide +kernel
theorem d_BA_isStored_26 : decode m_BA_isStored.2.1 26 = .ok (.iconst 0, 1) := by decide +kernel
theorem d_BA_isStored_27 : decode m_BA_isStored.2.1 27 = .ok (.ireturn, 1) := by decide +kernel
theorem d_BA_rule_0 : decode m_BA_rule.2.1 0 = .ok (.iload_n 1, 1) := by decide +kernel
theorem d_BA_rule_1 : decode m_BA_rule.2.1 1 = .ok (.ifCond .lt 9, 3) := by decide +kernel
theorem d_BA_rule_4 : decode m_BA_rule.2.1 4 = .ok (.iload_n 1, 1) := by decide +kernel
theorem d_BA_rule_5 : decode m_BA_rule.2.1 5 = .ok (.bipush 8, 2) := by decide +kernel
theorem d_BA_rule_7 : decode m_BA_rule.2.1 7 = .ok (.if_icmp .lt 10, 3) := by decide +kernel
theorem d_BA_rule_10 : decode m_BA_rule.2.1 10 = .ok (.aload_n 0, 1) := by decide +kernel
theorem d_BA_rule_11 : decode m_BA_rule.2.1 11 = .ok (.getfield 33, 3) := by decide +kernel
theorem d_BA_rule_14 : decode m_BA_rule.2.1 14 = .ok (.goto 9, 3) := by decide +kernel
theorem d_BA_rule_17 : decode m_BA_rule.2.1 17 = .ok (.aload_n 0, 1) := by decide +kernel
theorem d_BA_rule_18 : decode m_BA_rule.2.1 18 = .ok (.getfield 28, 3) := by decide +kernel
theorem d_BA_rule_21 : decode m_BA_rule.2.1 21 = .ok (.iload_n 1, 1) := by decide +kernel
theorem d_BA_rule_22 : decode m_BA_rule.2.1 22 = .ok (.aaload, 1) := by decide +kernel
theorem d_BA_rule_23 : decode m_BA_rule.2.1 23 = .ok (.areturn, 1) := by decide +kernel
theorem d_BA_refuse_0 : decode m_BA_refuse.2.1 0 = .ok (.aload_n 0, 1) := by decide +kernel
theorem d_BA_refuse_1 : decode m_BA_refuse.2.1 1 = .ok (.getfield 53, 3) := by decide +kernel
theorem d_BA_refuse_4 : decode m_BA_refuse.2.1 4 = .ok (.iload_n 1, 1) := by decide +kernel
theorem d_BA_refuse_5 : decode m_BA_refuse.2.1 5 = .ok (.iload_n 2, 1) := by decide +kernel
theorem d_BA_refuse_6 : decode m_BA_refuse.2.1 6 = .ok (.iconst (-1), 1) := by decide +kernel
theorem d_BA_refuse_7 : decode m_BA_refuse.2.1 7 = .ok (.iload_n 3, 1) := by decide +kernel
theorem d_BA_refuse_8 : decode m_BA_refuse.2.1 8 = .ok (.invokevirtual 94, 3) := by decide +kernel
theorem d_BA_refuse_11 : decode m_BA_refuse.2.1 11 = .ok (.iconst 0, 1) := by decide +kernel
theorem d_BA_refuse_12 : decode m_BA_refuse.2.1 12 = .ok (.ireturn, 1) := by decide +kernel
theorem d_BA_makeColumn_0 : decode m_BA_makeColumn.2.1 0 = .ok (.aload_n 0, 1) := by decide +kernel
theorem d_BA_makeColumn_1 : decode m_BA_makeColumn.2.1 1 = .ok (.iload_n 1, 1) := by decide +kernel
theorem d_BA_makeColumn_2 : decode m_BA_makeColumn.2.1 2 = .ok (.invokevirtual 75, 3) := by decide +kernel
theorem d_BA_makeColumn_5 : decode m_BA_makeColumn.2.1 5 = .ok (.istore_n 3, 1) := by decide +kernel
theorem d_BA_makeColumn_6 : decode m_BA_makeColumn.2.1 6 = .ok (.iload_n 1, 1) := by decide +kernel
theorem d_BA_makeColumn_7 : decode m_BA_makeColumn.2.1 7 = .ok (.ifCond .lt 38, 3) := by decide +kernel
theorem d_BA_makeColumn_10 : decode m_BA_makeColumn.2.1 10 = .ok (.iload_n 1, 1) := by decide +kernel
theorem d_BA_makeColumn_11 : decode m_BA_makeColumn.2.1 11 = .ok (.iconst 4, 1) := by decide +kernel
theorem d_BA_makeColumn_12 : decode m_BA_makeColumn.2.1 12 = .ok (.if_icmp .ge 33, 3) := by decide +kernel
theorem d_BA_makeColumn_15 : decode m_BA_makeColumn.2.1 15 = .ok (.iload_n 3, 1) := by decide +kernel
theorem d_BA_makeColumn_16 : decode m_BA_makeColumn.2.1 16 = .ok (.bipush 6, 2) := by decide +kernel
theorem d_BA_makeColumn_18 : decode m_BA_makeColumn.2.1 18 = .ok (.if_icmp .ge 27, 3) := by decide +kernel
theorem d_BA_makeColumn_21 : decode m_BA_makeColumn.2.1 21 = .ok (.aload_n 0, 1) := by decide +kernel
theorem d_BA_makeColumn_22 : decode m_BA_makeColumn.2.1 22 = .ok (.getfield 22, 3) := by decide +kernel
theorem d_BA_makeColumn_25 : decode m_BA_makeColumn.2.1 25 = .ok (.iload_n 1, 1) := by decide +kernel
theorem d_BA_makeColumn_26 : decode m_BA_makeColumn.2.1 26 = .ok (.iload_n 3, 1) := by decide +kernel
theorem d_BA_makeColumn_27 : decode m_BA_makeColumn.2.1 27 = .ok (.iconst 1, 1) := by decide +kernel
theorem d_BA_makeColumn_28 : decode m_BA_makeColumn.2.1 28 = .ok (.iadd, 1) := by decide +kernel
theorem d_BA_makeColumn_29 : decode m_BA_makeColumn.2.1 29 = .ok (.iastore, 1) := by decide +kernel
theorem d_BA_makeColumn_30 : decode m_BA_makeColumn.2.1 30 = .ok (.aload_n 0, 1) := by decide +kernel
theorem d_BA_makeColumn_31 : decode m_BA_makeColumn.2.1 31 = .ok (.getfield 11, 3) := by decide +kernel
theorem d_BA_makeColumn_34 : decode m_BA_makeColumn.2.1 34 = .ok (.iload_n 1, 1) := by decide +kernel
theorem d_BA_makeColumn_35 : decode m_BA_makeColumn.2.1 35 = .ok (.bipush 6, 2) := by decide +kernel
theorem d_BA_makeColumn_37 : decode m_BA_makeColumn.2.1 37 = .ok (.imul, 1) := by decide +kernel
theorem d_BA_makeColumn_38 : decode m_BA_makeColumn.2.1 38 = .ok (.iload_n 3, 1) := by decide +kernel
theorem d_BA_makeColumn_39 : decode m_BA_makeColumn.2.1 39 = .ok (.iadd, 1) := by decide +kernel
theorem d_BA_makeColumn_40 : decode m_BA_makeColumn.2.1 40 = .ok (.aaload, 1) := by decide +kernel
theorem d_BA_makeColumn_41 : decode m_BA_makeColumn.2.1 41 = .ok (.iload_n 2, 1) := by decide +kernel
theorem d_BA_makeColumn_42 : decode m_BA_makeColumn.2.1 42 = .ok (.putfield 98, 3) := by decide +kernel
theorem d_BA_makeColumn_45 : decode m_BA_makeColumn.2.1 45 = .ok (.iload_n 3, 1) := by decide +kernel
theorem d_BA_makeColumn_46 : decode m_BA_makeColumn.2.1 46 = .ok (.ireturn, 1) := by decide +kernel
theorem d_BA_makeNumber_0 : decode m_BA_makeNumber.2.1 0 = .ok (.aload_n 0, 1) := by decide +kernel
theorem d_BA_makeNumber_1 : decode m_BA_makeNumber.2.1 1 = .ok (.iload_n 1, 1) := by decide +kernel
theorem d_BA_makeNumber_2 : decode m_BA_makeNumber.2.1 2 = .ok (.iconst 1, 1) := by decide +kernel
theorem d_BA_makeNumber_3 : decode m_BA_makeNumber.2.1 3 = .ok (.invokevirtual 101, 3) := by decide +kernel
theorem d_BA_makeNumber_6 : decode m_BA_makeNumber.2.1 6 = .ok (.istore 4, 2) := by decide +kernel
theorem d_BA_makeNumber_8 : decode m_BA_makeNumber.2.1 8 = .ok (.aload_n 0, 1) := by decide +kernel
theorem d_BA_makeNumber_9 : decode m_BA_makeNumber.2.1 9 = .ok (.iload_n 1, 1) := by decide +kernel
theorem d_BA_makeNumber_10 : decode m_BA_makeNumber.2.1 10 = .ok (.iload 4, 2) := by decide +kernel
theorem d_BA_makeNumber_12 : decode m_BA_makeNumber.2.1 12 = .ok (.invokevirtual 79, 3) := by decide +kernel
theorem d_BA_makeNumber_15 : decode m_BA_makeNumber.2.1 15 = .ok (.astore 5, 2) := by decide +kernel
theorem d_BA_makeNumber_17 : decode m_BA_makeNumber.2.1 17 = .ok (.aload 5, 2) := by decide +kernel
theorem d_BA_makeNumber_19 : decode m_BA_makeNumber.2.1 19 = .ok (.iload_n 2, 1) := by decide +kernel
theorem d_BA_makeNumber_20 : decode m_BA_makeNumber.2.1 20 = .ok (.putfield 105, 3) := by decide +kernel
theorem d_BA_makeNumber_23 : decode m_BA_makeNumber.2.1 23 = .ok (.aload 5, 2) := by decide +kernel
theorem d_BA_makeNumber_25 : decode m_BA_makeNumber.2.1 25 = .ok (.iload_n 3, 1) := by decide +kernel
theorem d_BA_makeNumber_26 : decode m_BA_makeNumber.2.1 26 = .ok (.putfield 108, 3) := by decide +kernel
theorem d_BA_makeNumber_29 : decode m_BA_makeNumber.2.1 29 = .ok (.iload 4, 2) := by decide +kernel
theorem d_BA_makeNumber_31 : decode m_BA_makeNumber.2.1 31 = .ok (.ireturn, 1) := by decide +kernel
theorem d_BA_makeLink_0 : decode m_BA_makeLink.2.1 0 = .ok (.aload_n 0, 1) := by decide +kernel
theorem d_BA_makeLink_1 : decode m_BA_makeLink.2.1 1 = .ok (.iload_n 1, 1) := by decide +kernel
theorem d_BA_makeLink_2 : decode m_BA_makeLink.2.1 2 = .ok (.iconst 2, 1) := by decide +kernel
theorem d_BA_makeLink_3 : decode m_BA_makeLink.2.1 3 = .ok (.invokevirtual 101, 3) := by decide +kernel
theorem d_BA_makeLink_6 : decode m_BA_makeLink.2.1 6 = .ok (.istore 4, 2) := by decide +kernel
theorem d_BA_makeLink_8 : decode m_BA_makeLink.2.1 8 = .ok (.aload_n 0, 1) := by decide +kernel
theorem d_BA_makeLink_9 : decode m_BA_makeLink.2.1 9 = .ok (.iload_n 1, 1) := by decide +kernel
theorem d_BA_makeLink_10 : decode m_BA_makeLink.2.1 10 = .ok (.iload 4, 2) := by decide +kernel
theorem d_BA_makeLink_12 : decode m_BA_makeLink.2.1 12 = .ok (.invokevirtual 79, 3) := by decide +kernel
theorem d_BA_makeLink_15 : decode m_BA_makeLink.2.1 15 = .ok (.astore 5, 2) := by decide +kernel
theorem d_BA_makeLink_17 : decode m_BA_makeLink.2.1 17 = .ok (.aload 5, 2) := by decide +kernel
theorem d_BA_makeLink_19 : decode m_BA_makeLink.2.1 19 = .ok (.iload_n 2, 1) := by decide +kernel
theorem d_BA_makeLink_20 : decode m_BA_makeLink.2.1 20 = .ok (.putfield 111, 3) := by decide +kernel
theorem d_BA_makeLink_23 : decode m_BA_makeLink.2.1 23 = .ok (.aload 5, 2) := by decide +kernel
theorem d_BA_makeLink_25 : decode m_BA_makeLink.2.1 25 = .ok (.iload_n 3, 1) := by decide +kernel
theorem d_BA_makeLink_26 : decode m_BA_makeLink.2.1 26 = .ok (.putfield 114, 3) := by decide +kernel
theorem d_BA_makeLink_29 : decode m_BA_makeLink.2.1 29 = .ok (.iload 4, 2) := by decide +kernel
theorem d_BA_makeLink_31 : decode m_BA_makeLink.2.1 31 = .ok (.ireturn, 1) := by decide +kernel
theorem d_BA_makeReckoned_0 : decode m_BA_makeReckoned.2.1 0 = .ok (.aload_n 0, 1) := by decide +kernel
theorem d_BA_makeReckoned_1 : decode m_BA_makeReckoned.2.1 1 = .ok (.iload_n 1, 1) := by decide +kernel
theorem d_BA_makeReckoned_2 : decode m_BA_makeReckoned.2.1 2 = .ok (.iconst 3, 1) := by decide +kernel
theorem d_BA_makeReckoned_3 : decode m_BA_makeReckoned.2.1 3 = .ok (.invokevirtual 101, 3) := by decide +kernel
theorem d_BA_makeReckoned_6 : decode m_BA_makeReckoned.2.1 6 = .ok (.istore 6, 2) := by decide +kernel
theorem d_BA_makeReckoned_8 : decode m_BA_makeReckoned.2.1 8 = .ok (.aload_n 0, 1) := by decide +kernel
theorem d_BA_makeReckoned_9 : decode m_BA_makeReckoned.2.1 9 = .ok (.iload_n 1, 1) := by decide +kernel
theorem d_BA_makeReckoned_10 : decode m_BA_makeReckoned.2.1 10 = .ok (.iload 6, 2) := by decide +kernel
theorem d_BA_makeReckoned_12 : decode m_BA_makeReckoned.2.1 12 = .ok (.invokevirtual 79, 3) := by decide +kernel
theorem d_BA_makeReckoned_15 : decode m_BA_makeReckoned.2.1 15 = .ok (.iload_n 2, 1) := by decide +kernel
theorem d_BA_makeReckoned_16 : decode m_BA_makeReckoned.2.1 16 = .ok (.iload_n 3, 1) := by decide +kernel
theorem d_BA_makeReckoned_17 : decode m_BA_makeReckoned.2.1 17 = .ok (.iload 4, 2) := by decide +kernel
theorem d_BA_makeReckoned_19 : decode m_BA_makeReckoned.2.1 19 = .ok (.iload 5, 2) := by decide +kernel
theorem d_BA_makeReckoned_21 : decode m_BA_makeReckoned.2.1 21 = .ok (.invokevirtual 117, 3) := by decide +kernel
theorem d_BA_makeReckoned_24 : decode m_BA_makeReckoned.2.1 24 = .ok (.aload_n 0, 1) := by decide +kernel
theorem d_BA_makeReckoned_25 : decode m_BA_makeReckoned.2.1 25 = .ok (.invokevirtual 120, 3) := by decide +kernel
theorem d_BA_makeReckoned_28 : decode m_BA_makeReckoned.2.1 28 = .ok (.pop, 1) := by decide +kernel
theorem d_BA_makeReckoned_29 : decode m_BA_makeReckoned.2.1 29 = .ok (.aload_n 0, 1) := by decide +kernel
theorem d_BA_makeReckoned_30 : decode m_BA_makeReckoned.2.1 30 = .ok (.invokevirtual 123, 3) := by decide +kernel
theorem d_BA_makeReckoned_33 : decode m_BA_makeReckoned.2.1 33 = .ok (.iload 6, 2) := by decide +kernel
theorem d_BA_makeReckoned_35 : decode m_BA_makeReckoned.2.1 35 = .ok (.ireturn, 1) := by decide +kernel
theorem d_BA_changeFormula_0 : decode m_BA_changeFormula.2.1 0 = .ok (.aload_n 0, 1) := by decide +kernel
theorem d_BA_changeFormula_1 : decode m_BA_changeFormula.2.1 1 = .ok (.iload_n 1, 1) := by decide +kernel
theorem d_BA_changeFormula_2 : decode m_BA_changeFormula.2.1 2 = .ok (.iload_n 2, 1) := by decide +kernel
theorem d_BA_changeFormula_3 : decode m_BA_changeFormula.2.1 3 = .ok (.invokevirtual 79, 3) := by decide +kernel
theorem d_BA_changeFormula_6 : decode m_BA_changeFormula.2.1 6 = .ok (.astore 7, 2) := by decide +kernel
theorem d_BA_changeFormula_8 : decode m_BA_changeFormula.2.1 8 = .ok (.aload 7, 2) := by decide +kernel
theorem d_BA_changeFormula_10 : decode m_BA_changeFormula.2.1 10 = .ok (.getfield 126, 3) := by decide +kernel
theorem d_BA_changeFormula_13 : decode m_BA_changeFormula.2.1 13 = .ok (.istore 8, 2) := by decide +kernel
theorem d_BA_changeFormula_15 : decode m_BA_changeFormula.2.1 15 = .ok (.aload 7, 2) := by decide +kernel
theorem d_BA_changeFormula_17 : decode m_BA_changeFormula.2.1 17 = .ok (.getfield 129, 3) := by decide +kernel
theorem d_BA_changeFormula_20 : decode m_BA_changeFormula.2.1 20 = .ok (.istore 9, 2) := by decide +kernel
theorem d_BA_changeFormula_22 : decode m_BA_changeFormula.2.1 22 = .ok (.aload 7, 2) := by decide +kernel
theorem d_BA_changeFormula_24 : decode m_BA_changeFormula.2.1 24 = .ok (.getfield 132, 3) := by decide +kernel
theorem d_BA_changeFormula_27 : decode m_BA_changeFormula.2.1 27 = .ok (.istore 10, 2) := by decide +kernel
theorem d_BA_changeFormula_29 : decode m_BA_changeFormula.2.1 29 = .ok (.aload 7, 2) := by decide +kernel
theorem d_BA_changeFormula_31 : decode m_BA_changeFormula.2.1 31 = .ok (.getfield 135, 3) := by decide +kernel
theorem d_BA_changeFormula_34 : decode m_BA_changeFormula.2.1 34 = .ok (.istore 11, 2) := by decide +kernel
theorem d_BA_changeFormula_36 : decode m_BA_changeFormula.2.1 36 = .ok (.aload_n 0, 1) := by decide +kernel
theorem d_BA_changeFormula_37 : decode m_BA_changeFormula.2.1 37 = .ok (.invokevirtual 138, 3) := by decide +kernel
theorem d_BA_changeFormula_40 : decode m_BA_changeFormula.2.1 40 = .ok (.aload 7, 2) := by decide +kernel
theorem d_BA_changeFormula_42 : decode m_BA_changeFormula.2.1 42 = .ok (.iload_n 3, 1) := by decide +kernel
theorem d_BA_changeFormula_43 : decode m_BA_changeFormula.2.1 43 = .ok (.iload 4, 2) := by decide +kernel
theorem d_BA_changeFormula_45 : decode m_BA_changeFormula.2.1 45 = .ok (.iload 5, 2) := by decide +kernel
theorem d_BA_changeFormula_47 : decode m_BA_changeFormula.2.1 47 = .ok (.iload 6, 2) := by decide +kernel
theorem d_BA_changeFormula_49 : decode m_BA_changeFormula.2.1 49 = .ok (.invokevirtual 117, 3) := by decide +kernel
theorem d_BA_changeFormula_52 : decode m_BA_changeFormula.2.1 52 = .ok (.aload_n 0, 1) := by decide +kernel
theorem d_BA_changeFormula_53 : decode m_BA_changeFormula.2.1 53 = .ok (.invokevirtual 120, 3) := by decide +kernel
theorem d_BA_changeFormula_56 : decode m_BA_changeFormula.2.1 56 = .ok (.ifCond .eq 10, 3) := by decide +kernel
theorem d_BA_changeFormula_59 : decode m_BA_changeFormula.2.1 59 = .ok (.aload_n 0, 1) := by decide +kernel
theorem d_BA_changeFormula_60 : decode m_BA_changeFormula.2.1 60 = .ok (.invokevirtual 141, 3) := by decide +kernel
theorem d_BA_changeFormula_63 : decode m_BA_changeFormula.2.1 63 = .ok (.goto 11, 3) := by decide +kernel
theorem d_BA_changeFormula_66 : decode m_BA_changeFormula.2.1 66 = .ok (.aload_n 0, 1) := by decide +kernel
theorem d_BA_changeFormula_67 : decode m_BA_changeFormula.2.1 67 = .ok (.bipush 9, 2) := by decide +kernel
theorem d_BA_changeFormula_69 : decode m_BA_changeFormula.2.1 69 = .ok (.iload_n 1, 1) := by decide +kernel
theorem d_BA_changeFormula_70 : decode m_BA_changeFormula.2.1 70 = .ok (.iload_n 2, 1) := by decide +kernel
theorem d_BA_changeFormula_71 : decode m_BA_changeFormula.2.1 71 = .ok (.invokevirtual 144, 3) := by decide +kernel
theorem d_BA_changeFormula_74 : decode m_BA_changeFormula.2.1 74 = .ok (.istore 12, 2) := by decide +kernel
theorem d_BA_changeFormula_76 : decode m_BA_changeFormula.2.1 76 = .ok (.iload 12, 2) := by decide +kernel
theorem d_BA_changeFormula_78 : decode m_BA_changeFormula.2.1 78 = .ok (.ifCond .ne 21, 3) := by decide +kernel
theorem d_BA_changeFormula_81 : decode m_BA_changeFormula.2.1 81 = .ok (.aload 7, 2) := by decide +kernel
theorem d_BA_changeFormula_83 : decode m_BA_changeFormula.2.1 83 = .ok (.iload 8, 2) := by decide +kernel
theorem d_BA_changeFormula_85 : decode m_BA_changeFormula.2.1 85 = .ok (.iload 9, 2) := by decide +kernel
theorem d_BA_changeFormula_87 : decode m_BA_changeFormula.2.1 87 = .ok (.iload 10, 2) := by decide +kernel
theorem d_BA_changeFormula_89 : decode m_BA_changeFormula.2.1 89 = .ok (.iload 11, 2) := by decide +kernel
theorem d_BA_changeFormula_91 : decode m_BA_changeFormula.2.1 91 = .ok (.invokevirtual 117, 3) := by decide +kernel
theorem d_BA_changeFormula_94 : decode m_BA_changeFormula.2.1 94 = .ok (.aload_n 0, 1) := by decide +kernel
theorem d_BA_changeFormula_95 : decode m_BA_changeFormula.2.1 95 = .ok (.invokevirtual 120, 3) := by decide +kernel
theorem d_BA_changeFormula_98 : decode m_BA_changeFormula.2.1 98 = .ok (.pop, 1) := by decide +kernel
theorem d_BA_changeFormula_99 : decode m_BA_changeFormula.2.1 99 = .ok (.iload 12, 2) := by decide +kernel
theorem d_BA_changeFormula_101 : decode m_BA_changeFormula.2.1 101 = .ok (.ireturn, 1) := by decide +kernel
theorem d_BA_changeNeeded_0 : decode m_BA_changeNeeded.2.1 0 = .ok (.aload_n 0, 1) := by decide +kernel
theorem d_BA_changeNeeded_1 : decode m_BA_changeNeeded.2.1 1 = .ok (.iload_n 1, 1) := by decide +kernel
theorem d_BA_changeNeeded_2 : decode m_BA_changeNeeded.2.1 2 = .ok (.iload_n 2, 1) := by decide +kernel
theorem d_BA_changeNeeded_3 : decode m_BA_changeNeeded.2.1 3 = .ok (.invokevirtual 79, 3) := by decide +kernel
theorem d_BA_changeNeeded_6 : decode m_BA_changeNeeded.2.1 6 = .ok (.astore 4, 2) := by decide +kernel
theorem d_BA_changeNeeded_8 : decode m_BA_changeNeeded.2.1 8 = .ok (.aload 4, 2) := by decide +kernel
theorem d_BA_changeNeeded_10 : decode m_BA_changeNeeded.2.1 10 = .ok (.getfield 148, 3) := by decide +kernel
theorem d_BA_changeNeeded_13 : decode m_BA_changeNeeded.2.1 13 = .ok (.istore 5, 2) := by decide +kernel
theorem d_BA_changeNeeded_15 : decode m_BA_changeNeeded.2.1 15 = .ok (.aload_n 0, 1) := by decide +kernel
theorem d_BA_changeNeeded_16 : decode m_BA_changeNeeded.2.1 16 = .ok (.invokevirtual 138, 3) := by decide +kernel
theorem d_BA_changeNeeded_19 : decode m_BA_changeNeeded.2.1 19 = .ok (.aload 4, 2) := by decide +kernel
theorem d_BA_changeNeeded_21 : decode m_BA_changeNeeded.2.1 21 = .ok (.iload_n 3, 1) := by decide +kernel
theorem d_BA_changeNeeded_22 : decode m_BA_changeNeeded.2.1 22 = .ok (.putfield 148, 3) := by decide +kernel
theorem d_BA_changeNeeded_25 : decode m_BA_changeNeeded.2.1 25 = .ok (.aload_n 0, 1) := by decide +kernel
theorem d_BA_changeNeeded_26 : decode m_BA_changeNeeded.2.1 26 = .ok (.invokevirtual 141, 3) := by decide +kernel
theorem d_BA_changeNeeded_29 : decode m_BA_changeNeeded.2.1 29 = .ok (.istore 6, 2) := by decide +kernel
theorem d_BA_changeNeeded_31 : decode m_BA_changeNeeded.2.1 31 = .ok (.iload 6, 2) := by decide +kernel
theorem d_BA_changeNeeded_33 : decode m_BA_changeNeeded.2.1 33 = .ok (.ifCond .ne 10, 3) := by decide +kernel
theorem d_BA_changeNeeded_36 : decode m_BA_changeNeeded.2.1 36 = .ok (.aload 4, 2) := by decide +kernel
theorem d_BA_changeNeeded_38 : decode m_BA_changeNeeded.2.1 38 = .ok (.iload 5, 2) := by decide +kernel
theorem d_BA_changeNeeded_40 : decode m_BA_changeNeeded.2.1 40 = .ok (.putfield 148, 3) := by decide +kernel
theorem d_BA_changeNeeded_43 : decode m_BA_changeNeeded.2.1 43 = .ok (.iload 6, 2) := by decide +kernel
theorem d_BA_changeNeeded_45 : decode m_BA_changeNeeded.2.1 45 = .ok (.ireturn, 1) := by decide +kernel
theorem d_BA_changeSingle_0 : decode m_BA_changeSingle.2.1 0 = .ok (.aload_n 0, 1) := by decide +kernel
theorem d_BA_changeSingle_1 : decode m_BA_changeSingle.2.1 1 = .ok (.iload_n 1, 1) := by decide +kernel
theorem d_BA_changeSingle_2 : decode m_BA_changeSingle.2.1 2 = .ok (.iload_n 2, 1) := by decide +kernel
theorem d_BA_changeSingle_3 : decode m_BA_changeSingle.2.1 3 = .ok (.invokevirtual 79, 3) := by decide +kernel
theorem d_BA_changeSingle_6 : decode m_BA_changeSingle.2.1 6 = .ok (.astore 4, 2) := by decide +kernel
theorem d_BA_changeSingle_8 : decode m_BA_changeSingle.2.1 8 = .ok (.aload 4, 2) := by decide +kernel
theorem d_BA_changeSingle_10 : decode m_BA_changeSingle.2.1 10 = .ok (.getfield 151, 3) := by decide +kernel
theorem d_BA_changeSingle_13 : decode m_BA_changeSingle.2.1 13 = .ok (.istore 5, 2) := by decide +kernel
theorem d_BA_changeSingle_15 : decode m_BA_changeSingle.2.1 15 = .ok (.aload_n 0, 1) := by decide +kernel
theorem d_BA_changeSingle_16 : decode m_BA_changeSingle.2.1 16 = .ok (.invokevirtual 138, 3) := by decide +kernel
theorem d_BA_changeSingle_19 : decode m_BA_changeSingle.2.1 19 = .ok (.aload 4, 2) := by decide +kernel
theorem d_BA_changeSingle_21 : decode m_BA_changeSingle.2.1 21 = .ok (.iload_n 3, 1) := by decide +kernel
theorem d_BA_changeSingle_22 : decode m_BA_changeSingle.2.1 22 = .ok (.putfield 151, 3) := by decide +kernel
theorem d_BA_changeSingle_25 : decode m_BA_changeSingle.2.1 25 = .ok (.aload_n 0, 1) := by decide +kernel
theorem d_BA_changeSingle_26 : decode m_BA_changeSingle.2.1 26 = .ok (.invokevirtual 141, 3) := by decide +kernel
theorem d_BA_changeSingle_29 : decode m_BA_changeSingle.2.1 29 = .ok (.istore 6, 2) := by decide +kernel
theorem d_BA_changeSingle_31 : decode m_BA_changeSingle.2.1 31 = .ok (.iload 6, 2) := by decide +kernel
theorem d_BA_changeSingle_33 : decode m_BA_changeSingle.2.1 33 = .ok (.ifCond .ne 10, 3) := by decide +kernel
theorem d_BA_changeSingle_36 : decode m_BA_changeSingle.2.1 36 = .ok (.aload 4, 2) := by decide +kernel
theorem d_BA_changeSingle_38 : decode m_BA_changeSingle.2.1 38 = .ok (.iload 5, 2) := by decide +kernel
theorem d_BA_changeSingle_40 : decode m_BA_changeSingle.2.1 40 = .ok (.putfield 151, 3) := by decide +kernel
theorem d_BA_changeSingle_43 : decode m_BA_changeSingle.2.1 43 = .ok (.iload 6, 2) := by decide +kernel
theorem d_BA_changeSingle_45 : decode m_BA_changeSingle.2.1 45 = .ok (.ireturn, 1) := by decide +kernel
theorem d_BA_isOutside_0 : decode m_BA_isOutside.2.1 0 = .ok (.iload_n 1, 1) := by decide +kernel
theorem d_BA_isOutside_1 : decode m_BA_isOutside.2.1 1 = .ok (.ldc 154, 2) := by decide +kernel
theorem d_BA_isOutside_3 : decode m_BA_isOutside.2.1 3 = .ok (.if_icmp .eq 17, 3) := by decide +kernel
theorem d_BA_isOutside_6 : decode m_BA_isOutside.2.1 6 = .ok (.iload_n 1, 1) := by decide +kernel
theorem d_BA_isOutside_7 : decode m_BA_isOutside.2.1 7 = .ok (.iload_n 2, 1) := by decide +kernel
theorem d_BA_isOutside_8 : decode m_BA_isOutside.2.1 8 = .ok (.if_icmp .lt 8, 3) := by decide +kernel
theorem d_BA_isOutside_11 : decode m_BA_isOutside.2.1 11 = .ok (.iload_n 1, 1) := by decide +kernel
theorem d_BA_isOutside_12 : decode m_BA_isOutside.2.1 12 = .ok (.iload_n 3, 1) := by decide +kernel
theorem d_BA_isOutside_13 : decode m_BA_isOutside.2.1 13 = .ok (.if_icmp .le 7, 3) := by decide +kernel
theorem d_BA_isOutside_16 : decode m_BA_isOutside.2.1 16 = .ok (.iconst 1, 1) := by decide +kernel
theorem d_BA_isOutside_17 : decode m_BA_isOutside.2.1 17 = .ok (.goto 4, 3) := by decide +kernel
theorem d_BA_isOutside_20 : decode m_BA_isOutside.2.1 20 = .ok (.iconst 0, 1) := by decide +kernel
theorem d_BA_isOutside_21 : decode m_BA_isOutside.2.1 21 = .ok (.ireturn, 1) := by decide +kernel
theorem d_BA_countOutside_0 : decode m_BA_countOutside.2.1 0 = .ok (.iconst 0, 1) := by decide +kernel
theorem d_BA_countOutside_1 : decode m_BA_countOutside.2.1 1 = .ok (.istore 5, 2) := by decide +kernel
theorem d_BA_countOutside_3 : decode m_BA_countOutside.2.1 3 = .ok (.iconst 0, 1) := by decide +kernel
theorem d_BA_countOutside_4 : decode m_BA_countOutside.2.1 4 = .ok (.istore 6, 2) := by decide +kernel
theorem d_BA_countOutside_6 : decode m_BA_countOutside.2.1 6 = .ok (.iload 6, 2) := by decide +kernel
theorem d_BA_countOutside_8 : decode m_BA_countOutside.2.1 8 = .ok (.bipush 30, 2) := by decide +kernel
theorem d_BA_countOutside_10 : decode m_BA_countOutside.2.1 10 = .ok (.if_icmp .ge 46, 3) := by decide +kernel
theorem d_BA_countOutside_13 : decode m_BA_countOutside.2.1 13 = .ok (.aload_n 0, 1) := by decide +kernel
theorem d_BA_countOutside_14 : decode m_BA_countOutside.2.1 14 = .ok (.getfield 43, 3) := by decide +kernel
theorem d_BA_countOutside_17 : decode m_BA_countOutside.2.1 17 = .ok (.iload_n 1, 1) := by decide +kernel
theorem d_BA_countOutside_18 : decode m_BA_countOutside.2.1 18 = .ok (.iload 6, 2) := by decide +kernel
theorem d_BA_countOutside_20 : decode m_BA_countOutside.2.1 20 = .ok (.invokevirtual 155, 3) := by decide +kernel
theorem d_BA_countOutside_23 : decode m_BA_countOutside.2.1 23 = .ok (.ifCond .eq 27, 3) := by decide +kernel
theorem d_BA_countOutside_26 : decode m_BA_countOutside.2.1 26 = .ok (.aload_n 0, 1) := by decide +kernel
theorem d_BA_countOutside_27 : decode m_BA_countOutside.2.1 27 = .ok (.aload_n 0, 1) := by decide +kernel
theorem d_BA_countOutside_28 : decode m_BA_countOutside.2.1 28 = .ok (.getfield 43, 3) := by decide +kernel
theorem d_BA_countOutside_31 : decode m_BA_countOutside.2.1 31 = .ok (.iload_n 1, 1) := by decide +kernel
theorem d_BA_countOutside_32 : decode m_BA_countOutside.2.1 32 = .ok (.iload 6, 2) := by decide +kernel
theorem d_BA_countOutside_34 : decode m_BA_countOutside.2.1 34 = .ok (.iload_n 2, 1) := by decide +kernel
theorem d_BA_countOutside_35 : decode m_BA_countOutside.2.1 35 = .ok (.invokevirtual 159, 3) := by decide +kernel
theorem d_BA_countOutside_38 : decode m_BA_countOutside.2.1 38 = .ok (.iload_n 3, 1) := by decide +kernel
theorem d_BA_countOutside_39 : decode m_BA_countOutside.2.1 39 = .ok (.iload 4, 2) := by decide +kernel
theorem d_BA_countOutside_41 : decode m_BA_countOutside.2.1 41 = .ok (.invokevirtual 163, 3) := by decide +kernel
theorem d_BA_countOutside_44 : decode m_BA_countOutside.2.1 44 = .ok (.ifCond .eq 6, 3) := by decide +kernel
theorem d_BA_countOutside_47 : decode m_BA_countOutside.2.1 47 = .ok (.iinc 5 1, 3) := by decide +kernel
theorem d_BA_countOutside_50 : decode m_BA_countOutside.2.1 50 = .ok (.iinc 6 1, 3) := by decide +kernel
theorem d_BA_countOutside_53 : decode m_BA_countOutside.2.1 53 = .ok (.goto (-47), 3) := by decide +kernel
theorem d_BA_countOutside_56 : decode m_BA_countOutside.2.1 56 = .ok (.iload 5, 2) := by decide +kernel
theorem d_BA_countOutside_58 : decode m_BA_countOutside.2.1 58 = .ok (.ireturn, 1) := by decide +kernel
theorem d_BA_countFilled_0 : decode m_BA_countFilled.2.1 0 = .ok (.iconst 0, 1) := by decide +kernel
theorem d_BA_countFilled_1 : decode m_BA_countFilled.2.1 1 = .ok (.istore_n 3, 1) := by decide +kernel
theorem d_BA_countFilled_2 : decode m_BA_countFilled.2.1 2 = .ok (.iconst 0, 1) := by decide +kernel
theorem d_BA_countFilled_3 : decode m_BA_countFilled.2.1 3 = .ok (.istore 4, 2) := by decide +kernel
theorem d_BA_countFilled_5 : decode m_BA_countFilled.2.1 5 = .ok (.iload 4, 2) := by decide +kernel
theorem d_BA_countFilled_7 : decode m_BA_countFilled.2.1 7 = .ok (.bipush 30, 2) := by decide +kernel
theorem d_BA_countFilled_9 : decode m_BA_countFilled.2.1 9 = .ok (.if_icmp .ge 41, 3) := by decide +kernel
theorem d_BA_countFilled_12 : decode m_BA_countFilled.2.1 12 = .ok (.aload_n 0, 1) := by decide +kernel
theorem d_BA_countFilled_13 : decode m_BA_countFilled.2.1 13 = .ok (.getfield 43, 3) := by decide +kernel
theorem d_BA_countFilled_16 : decode m_BA_countFilled.2.1 16 = .ok (.iload_n 1, 1) := by decide +kernel
theorem d_BA_countFilled_17 : decode m_BA_countFilled.2.1 17 = .ok (.iload 4, 2) := by decide +kernel
theorem d_BA_countFilled_19 : decode m_BA_countFilled.2.1 19 = .ok (.invokevirtual 155, 3) := by decide +kernel
theorem d_BA_countFilled_22 : decode m_BA_countFilled.2.1 22 = .ok (.ifCond .eq 22, 3) := by decide +kernel
theorem d_BA_countFilled_25 : decode m_BA_countFilled.2.1 25 = .ok (.aload_n 0, 1) := by decide +kernel
theorem d_BA_countFilled_26 : decode m_BA_countFilled.2.1 26 = .ok (.getfield 43, 3) := by decide +kernel
theorem d_BA_countFilled_29 : decode m_BA_countFilled.2.1 29 = .ok (.iload_n 1, 1) := by decide +kernel
theorem d_BA_countFilled_30 : decode m_BA_countFilled.2.1 30 = .ok (.iload 4, 2) := by decide +kernel
theorem d_BA_countFilled_32 : decode m_BA_countFilled.2.1 32 = .ok (.iload_n 2, 1) := by decide +kernel
theorem d_BA_countFilled_33 : decode m_BA_countFilled.2.1 33 = .ok (.invokevirtual 159, 3) := by decide +kernel
theorem d_BA_countFilled_36 : decode m_BA_countFilled.2.1 36 = .ok (.ldc 154, 2) := by decide +kernel
theorem d_BA_countFilled_38 : decode m_BA_countFilled.2.1 38 = .ok (.if_icmp .eq 6, 3) := by decide +kernel
theorem d_BA_countFilled_41 : decode m_BA_countFilled.2.1 41 = .ok (.iinc 3 1, 3) := by decide +kernel
theorem d_BA_countFilled_44 : decode m_BA_countFilled.2.1 44 = .ok (.iinc 4 1, 3) := by decide +kernel
theorem d_BA_countFilled_47 : decode m_BA_countFilled.2.1 47 = .ok (.goto (-42), 3) := by decide +kernel
theorem d_BA_countFilled_50 : decode m_BA_countFilled.2.1 50 = .ok (.iload_n 3, 1) := by decide +kernel
theorem d_BA_countFilled_51 : decode m_BA_countFilled.2.1 51 = .ok (.ireturn, 1) := by decide +kernel
theorem d_BA_changeRange_0 : decode m_BA_changeRange.2.1 0 = .ok (.aload_n 0, 1) := by decide +kernel
theorem d_BA_changeRange_1 : decode m_BA_changeRange.2.1 1 = .ok (.iload_n 1, 1) := by decide +kernel
theorem d_BA_changeRange_2 : decode m_BA_changeRange.2.1 2 = .ok (.iload_n 2, 1) := by decide +kernel
theorem d_BA_changeRange_3 : decode m_BA_changeRange.2.1 3 = .ok (.invokevirtual 79, 3) := by decide +kernel
theorem d_BA_changeRange_6 : decode m_BA_changeRange.2.1 6 = .ok (.astore 5, 2) := by decide +kernel
theorem d_BA_changeRange_8 : decode m_BA_changeRange.2.1 8 = .ok (.aload 5, 2) := by decide +kernel
theorem d_BA_changeRange_10 : decode m_BA_changeRange.2.1 10 = .ok (.getfield 105, 3) := by decide +kernel
theorem d_BA_changeRange_13 : decode m_BA_changeRange.2.1 13 = .ok (.istore 6, 2) := by decide +kernel
theorem d_BA_changeRange_15 : decode m_BA_changeRange.2.1 15 = .ok (.aload 5, 2) := by decide +kernel
theorem d_BA_changeRange_17 : decode m_BA_changeRange.2.1 17 = .ok (.getfield 108, 3) := by decide +kernel
theorem d_BA_changeRange_20 : decode m_BA_changeRange.2.1 20 = .ok (.istore 7, 2) := by decide +kernel
theorem d_BA_changeRange_22 : decode m_BA_changeRange.2.1 22 = .ok (.aload_n 0, 1) := by decide +kernel
theorem d_BA_changeRange_23 : decode m_BA_changeRange.2.1 23 = .ok (.invokevirtual 138, 3) := by decide +kernel
theorem d_BA_changeRange_26 : decode m_BA_changeRange.2.1 26 = .ok (.aload 5, 2) := by decide +kernel
theorem d_BA_changeRange_28 : decode m_BA_changeRange.2.1 28 = .ok (.iload_n 3, 1) := by decide +kernel
theorem d_BA_changeRange_29 : decode m_BA_changeRange.2.1 29 = .ok (.putfield 105, 3) := by decide +kernel
theorem d_BA_changeRange_32 : decode m_BA_changeRange.2.1 32 = .ok (.aload 5, 2) := by decide +kernel
theorem d_BA_changeRange_34 : decode m_BA_changeRange.2.1 34 = .ok (.iload 4, 2) := by decide +kernel
theorem d_BA_changeRange_36 : decode m_BA_changeRange.2.1 36 = .ok (.putfield 108, 3) := by decide +kernel
theorem d_BA_changeRange_39 : decode m_BA_changeRange.2.1 39 = .ok (.iconst 0, 1) := by decide +kernel
theorem d_BA_changeRange_40 : decode m_BA_changeRange.2.1 40 = .ok (.istore 8, 2) := by decide +kernel
theorem d_BA_changeRange_42 : decode m_BA_changeRange.2.1 42 = .ok (.iload 8, 2) := by decide +kernel
theorem d_BA_changeRange_44 : decode m_BA_changeRange.2.1 44 = .ok (.bipush 30, 2) := by decide +kernel
theorem d_BA_changeRange_46 : decode m_BA_changeRange.2.1 46 = .ok (.if_icmp .ge 43, 3) := by decide +kernel
theorem d_BA_changeRange_49 : decode m_BA_changeRange.2.1 49 = .ok (.aload_n 0, 1) := by decide +kernel
theorem d_BA_changeRange_50 : decode m_BA_changeRange.2.1 50 = .ok (.aload_n 0, 1) := by decide +kernel
theorem d_BA_changeRange_51 : decode m_BA_changeRange.2.1 51 = .ok (.getfield 43, 3) := by decide +kernel
theorem d_BA_changeRange_54 : decode m_BA_changeRange.2.1 54 = .ok (.iload_n 1, 1) := by decide +kernel
theorem d_BA_changeRange_55 : decode m_BA_changeRange.2.1 55 = .ok (.iload 8, 2) := by decide +kernel
theorem d_BA_changeRange_57 : decode m_BA_changeRange.2.1 57 = .ok (.iload_n 2, 1) := by decide +kernel
theorem d_BA_changeRange_58 : decode m_BA_changeRange.2.1 58 = .ok (.invokevirtual 159, 3) := by decide +kernel
theorem d_BA_changeRange_61 : decode m_BA_changeRange.2.1 61 = .ok (.iload_n 3, 1) := by decide +kernel
theorem d_BA_changeRange_62 : decode m_BA_changeRange.2.1 62 = .ok (.iload 4, 2) := by decide +kernel
theorem d_BA_changeRange_64 : decode m_BA_changeRange.2.1 64 = .ok (.invokevirtual 163, 3) := by decide +kernel
theorem d_BA_changeRange_67 : decode m_BA_changeRange.2.1 67 = .ok (.ifCond .eq 16, 3) := by decide +kernel
theorem d_BA_changeRange_70 : decode m_BA_changeRange.2.1 70 = .ok (.aload_n 0, 1) := by decide +kernel
theorem d_BA_changeRange_71 : decode m_BA_changeRange.2.1 71 = .ok (.getfield 43, 3) := by decide +kernel
theorem d_BA_changeRange_74 : decode m_BA_changeRange.2.1 74 = .ok (.iload_n 1, 1) := by decide +kernel
theorem d_BA_changeRange_75 : decode m_BA_changeRange.2.1 75 = .ok (.iload 8, 2) := by decide +kernel
theorem d_BA_changeRange_77 : decode m_BA_changeRange.2.1 77 = .ok (.iload_n 2, 1) := by decide +kernel
theorem d_BA_changeRange_78 : decode m_BA_changeRange.2.1 78 = .ok (.ldc 154, 2) := by decide +kernel
theorem d_BA_changeRange_80 : decode m_BA_changeRange.2.1 80 = .ok (.invokevirtual 166, 3) := by decide +kernel
theorem d_BA_changeRange_83 : decode m_BA_changeRange.2.1 83 = .ok (.iinc 8 1, 3) := by decide +kernel
theorem d_BA_changeRange_86 : decode m_BA_changeRange.2.1 86 = .ok (.goto (-44), 3) := by decide +kernel
theorem d_BA_changeRange_89 : decode m_BA_changeRange.2.1 89 = .ok (.aload_n 0, 1) := by decide +kernel
theorem d_BA_changeRange_90 : decode m_BA_changeRange.2.1 90 = .ok (.invokevirtual 141, 3) := by decide +kernel
theorem d_BA_changeRange_93 : decode m_BA_changeRange.2.1 93 = .ok (.istore 8, 2) := by decide +kernel
theorem d_BA_changeRange_95 : decode m_BA_changeRange.2.1 95 = .ok (.iload 8, 2) := by decide +kernel
theorem d_BA_changeRange_97 : decode m_BA_changeRange.2.1 97 = .ok (.ifCond .ne 17, 3) := by decide +kernel
theorem d_BA_changeRange_100 : decode m_BA_changeRange.2.1 100 = .ok (.aload 5, 2) := by decide +kernel
theorem d_BA_changeRange_102 : decode m_BA_changeRange.2.1 102 = .ok (.iload 6, 2) := by decide +kernel
theorem d_BA_changeRange_104 : decode m_BA_changeRange.2.1 104 = .ok (.putfield 105, 3) := by decide +kernel
theorem d_BA_changeRange_107 : decode m_BA_changeRange.2.1 107 = .ok (.aload 5, 2) := by decide +kernel
theorem d_BA_changeRange_109 : decode m_BA_changeRange.2.1 109 = .ok (.iload 7, 2) := by decide +kernel
theorem d_BA_changeRange_111 : decode m_BA_changeRange.2.1 111 = .ok (.putfield 108, 3) := by decide +kernel
theorem d_BA_changeRange_114 : decode m_BA_changeRange.2.1 114 = .ok (.iload 8, 2) := by decide +kernel
theorem d_BA_changeRange_116 : decode m_BA_changeRange.2.1 116 = .ok (.ireturn, 1) := by decide +kernel
theorem d_BA_dropColumn_0 : decode m_BA_dropColumn.2.1 0 = .ok (.aload_n 0, 1) := by decide +kernel
theorem d_BA_dropColumn_1 : decode m_BA_dropColumn.2.1 1 = .ok (.iload_n 1, 1) := by decide +kernel
theorem d_BA_dropColumn_2 : decode m_BA_dropColumn.2.1 2 = .ok (.iload_n 2, 1) := by decide +kernel
theorem d_BA_dropColumn_3 : decode m_BA_dropColumn.2.1 3 = .ok (.invokevirtual 79, 3) := by decide +kernel
theorem d_BA_dropColumn_6 : decode m_BA_dropColumn.2.1 6 = .ok (.astore_n 3, 1) := by decide +kernel
theorem d_BA_dropColumn_7 : decode m_BA_dropColumn.2.1 7 = .ok (.aload_n 3, 1) := by decide +kernel
theorem d_BA_dropColumn_8 : decode m_BA_dropColumn.2.1 8 = .ok (.iconst 0, 1) := by decide +kernel
theorem d_BA_dropColumn_9 : decode m_BA_dropColumn.2.1 9 = .ok (.putfield 98, 3) := by decide +kernel
theorem d_BA_dropColumn_12 : decode m_BA_dropColumn.2.1 12 = .ok (.aload_n 3, 1) := by decide +kernel
theorem d_BA_dropColumn_13 : decode m_BA_dropColumn.2.1 13 = .ok (.iconst 0, 1) := by decide +kernel
theorem d_BA_dropColumn_14 : decode m_BA_dropColumn.2.1 14 = .ok (.putfield 148, 3) := by decide +kernel
theorem d_BA_dropColumn_17 : decode m_BA_dropColumn.2.1 17 = .ok (.aload_n 3, 1) := by decide +kernel
theorem d_BA_dropColumn_18 : decode m_BA_dropColumn.2.1 18 = .ok (.iconst 0, 1) := by decide +kernel
theorem d_BA_dropColumn_19 : decode m_BA_dropColumn.2.1 19 = .ok (.putfield 151, 3) := by decide +kernel
theorem d_BA_dropColumn_22 : decode m_BA_dropColumn.2.1 22 = .ok (.iconst 0, 1) := by decide +kernel
theorem d_BA_dropColumn_23 : decode m_BA_dropColumn.2.1 23 = .ok (.istore 4, 2) := by decide +kernel
theorem d_BA_dropColumn_25 : decode m_BA_dropColumn.2.1 25 = .ok (.iload 4, 2) := by decide +kernel
theorem d_BA_dropColumn_27 : decode m_BA_dropColumn.2.1 27 = .ok (.bipush 30, 2) := by decide +kernel
theorem d_BA_dropColumn_29 : decode m_BA_dropColumn.2.1 29 = .ok (.if_icmp .ge 22, 3) := by decide +kernel
theorem d_BA_dropColumn_32 : decode m_BA_dropColumn.2.1 32 = .ok (.aload_n 0, 1) := by decide +kernel
theorem d_BA_dropColumn_33 : decode m_BA_dropColumn.2.1 33 = .ok (.getfield 43, 3) := by decide +kernel
theorem d_BA_dropColumn_36 : decode m_BA_dropColumn.2.1 36 = .ok (.iload_n 1, 1) := by decide +kernel
theorem d_BA_dropColumn_37 : decode m_BA_dropColumn.2.1 37 = .ok (.iload 4, 2) := by decide +kernel
theorem d_BA_dropColumn_39 : decode m_BA_dropColumn.2.1 39 = .ok (.iload_n 2, 1) := by decide +kernel
theorem d_BA_dropColumn_40 : decode m_BA_dropColumn.2.1 40 = .ok (.ldc 154, 2) := by decide +kernel
theorem d_BA_dropColumn_42 : decode m_BA_dropColumn.2.1 42 = .ok (.invokevirtual 166, 3) := by decide +kernel
theorem d_BA_dropColumn_45 : decode m_BA_dropColumn.2.1 45 = .ok (.iinc 4 1, 3) := by decide +kernel
theorem d_BA_dropColumn_48 : decode m_BA_dropColumn.2.1 48 = .ok (.goto (-23), 3) := by decide +kernel
theorem d_BA_dropColumn_51 : decode m_BA_dropColumn.2.1 51 = .ok (.aload_n 0, 1) := by decide +kernel
theorem d_BA_dropColumn_52 : decode m_BA_dropColumn.2.1 52 = .ok (.invokevirtual 120, 3) := by decide +kernel
theorem d_BA_dropColumn_55 : decode m_BA_dropColumn.2.1 55 = .ok (.pop, 1) := by decide +kernel
theorem d_BA_dropColumn_56 : decode m_BA_dropColumn.2.1 56 = .ok (.return_, 1) := by decide +kernel
theorem d_BA_makeRule_0 : decode m_BA_makeRule.2.1 0 = .ok (.aload_n 0, 1) := by decide +kernel
theorem d_BA_makeRule_1 : decode m_BA_makeRule.2.1 1 = .ok (.getfield 87, 3) := by decide +kernel
theorem d_BA_makeRule_4 : decode m_BA_makeRule.2.1 4 = .ok (.istore 6, 2) := by decide +kernel
theorem d_BA_makeRule_6 : decode m_BA_makeRule.2.1 6 = .ok (.aload_n 0, 1) := by decide +kernel
theorem d_BA_makeRule_7 : decode m_BA_makeRule.2.1 7 = .ok (.iload 6, 2) := by decide +kernel
theorem d_BA_makeRule_9 : decode m_BA_makeRule.2.1 9 = .ok (.invokevirtual 167, 3) := by decide +kernel
theorem d_BA_makeRule_12 : decode m_BA_makeRule.2.1 12 = .ok (.astore 7, 2) := by decide +kernel
theorem d_BA_makeRule_14 : decode m_BA_makeRule.2.1 14 = .ok (.aload 7, 2) := by decide +kernel
theorem d_BA_makeRule_16 : decode m_BA_makeRule.2.1 16 = .ok (.iload_n 1, 1) := by decide +kernel
theorem d_BA_makeRule_17 : decode m_BA_makeRule.2.1 17 = .ok (.putfield 171, 3) := by decide +kernel
theorem d_BA_makeRule_20 : decode m_BA_makeRule.2.1 20 = .ok (.aload 7, 2) := by decide +kernel
theorem d_BA_makeRule_22 : decode m_BA_makeRule.2.1 22 = .ok (.iload_n 2, 1) := by decide +kernel
theorem d_BA_makeRule_23 : decode m_BA_makeRule.2.1 23 = .ok (.putfield 174, 3) := by decide +kernel
theorem d_BA_makeRule_26 : decode m_BA_makeRule.2.1 26 = .ok (.aload 7, 2) := by decide +kernel
theorem d_BA_makeRule_28 : decode m_BA_makeRule.2.1 28 = .ok (.iload_n 3, 1) := by decide +kernel
theorem d_BA_makeRule_29 : decode m_BA_makeRule.2.1 29 = .ok (.putfield 175, 3) := by decide +kernel
theorem d_BA_makeRule_32 : decode m_BA_makeRule.2.1 32 = .ok (.aload 7, 2) := by decide +kernel
theorem d_BA_makeRule_34 : decode m_BA_makeRule.2.1 34 = .ok (.iload 4, 2) := by decide +kernel
theorem d_BA_makeRule_36 : decode m_BA_makeRule.2.1 36 = .ok (.putfield 178, 3) := by decide +kernel
theorem d_BA_makeRule_39 : decode m_BA_makeRule.2.1 39 = .ok (.aload 7, 2) := by decide +kernel
theorem d_BA_makeRule_41 : decode m_BA_makeRule.2.1 41 = .ok (.iload 5, 2) := by decide +kernel
theorem d_BA_makeRule_43 : decode m_BA_makeRule.2.1 43 = .ok (.putfield 179, 3) := by decide +kernel
theorem d_BA_makeRule_46 : decode m_BA_makeRule.2.1 46 = .ok (.aload_n 0, 1) := by decide +kernel
theorem d_BA_makeRule_47 : decode m_BA_makeRule.2.1 47 = .ok (.invokevirtual 138, 3) := by decide +kernel
theorem d_BA_makeRule_50 : decode m_BA_makeRule.2.1 50 = .ok (.aload_n 0, 1) := by decide +kernel
theorem d_BA_makeRule_51 : decode m_BA_makeRule.2.1 51 = .ok (.dup, 1) := by decide +kernel
theorem d_BA_makeRule_52 : decode m_BA_makeRule.2.1 52 = .ok (.getfield 87, 3) := by decide +kernel
theorem d_BA_makeRule_55 : decode m_BA_makeRule.2.1 55 = .ok (.iconst 1, 1) := by decide +kernel
theorem d_BA_makeRule_56 : decode m_BA_makeRule.2.1 56 = .ok (.iadd, 1) := by decide +kernel
theorem d_BA_makeRule_57 : decode m_BA_makeRule.2.1 57 = .ok (.putfield 87, 3) := by decide +kernel
theorem d_BA_makeRule_60 : decode m_BA_makeRule.2.1 60 = .ok (.aload_n 0, 1) := by decide +kernel
theorem d_BA_makeRule_61 : decode m_BA_makeRule.2.1 61 = .ok (.invokevirtual 141, 3) := by decide +kernel
theorem d_BA_makeRule_64 : decode m_BA_makeRule.2.1 64 = .ok (.ifCond .ne 15, 3) := by decide +kernel
theorem d_BA_makeRule_67 : decode m_BA_makeRule.2.1 67 = .ok (.aload_n 0, 1) := by decide +kernel
theorem d_BA_makeRule_68 : decode m_BA_makeRule.2.1 68 = .ok (.dup, 1) := by decide +kernel
theorem d_BA_makeRule_69 : decode m_BA_makeRule.2.1 69 = .ok (.getfield 87, 3) := by decide +kernel
theorem d_BA_makeRule_72 : decode m_BA_makeRule.2.1 72 = .ok (.iconst 1, 1) := by decide +kernel
theorem d_BA_makeRule_73 : decode m_BA_makeRule.2.1 73 = .ok (.isub, 1) := by decide +kernel
theorem d_BA_makeRule_74 : decode m_BA_makeRule.2.1 74 = .ok (.putfield 87, 3) := by decide +kernel
theorem d_BA_makeRule_77 : decode m_BA_makeRule.2.1 77 = .ok (.iconst (-1), 1) := by decide +kernel
theorem d_BA_makeRule_78 : decode m_BA_makeRule.2.1 78 = .ok (.ireturn, 1) := by decide +kernel
theorem d_BA_makeRule_79 : decode m_BA_makeRule.2.1 79 = .ok (.iload 6, 2) := by decide +kernel
theorem d_BA_makeRule_81 : decode m_BA_makeRule.2.1 81 = .ok (.ireturn, 1) := by decide +kernel
theorem d_BA_isUsed_0 : decode m_BA_isUsed.2.1 0 = .ok (.iconst 0, 1) := by decide +kernel
theorem d_BA_isUsed_1 : decode m_BA_isUsed.2.1 1 = .ok (.istore_n 3, 1) := by decide +kernel
theorem d_BA_isUsed_2 : decode m_BA_isUsed.2.1 2 = .ok (.iload_n 3, 1) := by decide +kernel
theorem d_BA_isUsed_3 : decode m_BA_isUsed.2.1 3 = .ok (.aload_n 0, 1) := by decide +kernel
theorem d_BA_isUsed_4 : decode m_BA_isUsed.2.1 4 = .ok (.getfield 87, 3) := by decide +kernel
theorem d_BA_isUsed_7 : decode m_BA_isUsed.2.1 7 = .ok (.if_icmp .ge 31, 3) := by decide +kernel
theorem d_BA_isUsed_10 : decode m_BA_isUsed.2.1 10 = .ok (.iload_n 3, 1) := by decide +kernel
theorem d_BA_isUsed_11 : decode m_BA_isUsed.2.1 11 = .ok (.bipush 8, 2) := by decide +kernel
theorem d_BA_isUsed_13 : decode m_BA_isUsed.2.1 13 = .ok (.if_icmp .ge 25, 3) := by decide +kernel
theorem d_BA_isUsed_16 : decode m_BA_isUsed.2.1 16 = .ok (.aload_n 0, 1) := by decide +kernel
theorem d_BA_isUsed_17 : decode m_BA_isUsed.2.1 17 = .ok (.getfield 28, 3) := by decide +kernel
theorem d_BA_isUsed_20 : decode m_BA_isUsed.2.1 20 = .ok (.iload_n 3, 1) := by decide +kernel
theorem d_BA_isUsed_21 : decode m_BA_isUsed.2.1 21 = .ok (.aaload, 1) := by decide +kernel
theorem d_BA_isUsed_22 : decode m_BA_isUsed.2.1 22 = .ok (.iload_n 1, 1) := by decide +kernel
theorem d_BA_isUsed_23 : decode m_BA_isUsed.2.1 23 = .ok (.iload_n 2, 1) := by decide +kernel
theorem d_BA_isUsed_24 : decode m_BA_isUsed.2.1 24 = .ok (.invokevirtual 182, 3) := by decide +kernel
theorem d_BA_isUsed_27 : decode m_BA_isUsed.2.1 27 = .ok (.ifCond .eq 5, 3) := by decide +kernel
theorem d_BA_isUsed_30 : decode m_BA_isUsed.2.1 30 = .ok (.iconst 1, 1) := by decide +kernel
theorem d_BA_isUsed_31 : decode m_BA_isUsed.2.1 31 = .ok (.ireturn, 1) := by decide +kernel
theorem d_BA_isUsed_32 : decode m_BA_isUsed.2.1 32 = .ok (.iinc 3 1, 3) := by decide +kernel
theorem d_BA_isUsed_35 : decode m_BA_isUsed.2.1 35 = .ok (.goto (-33), 3) := by decide +kernel
theorem d_BA_isUsed_38 : decode m_BA_isUsed.2.1 38 = .ok (.iconst 0, 1) := by decide +kernel
theorem d_BA_isUsed_39 : decode m_BA_isUsed.2.1 39 = .ok (.istore_n 3, 1) := by decide +kernel
theorem d_BA_isUsed_40 : decode m_BA_isUsed.2.1 40 = .ok (.iload_n 3, 1) := by decide +kernel
theorem d_BA_isUsed_41 : decode m_BA_isUsed.2.1 41 = .ok (.aload_n 0, 1) := by decide +kernel
theorem d_BA_isUsed_42 : decode m_BA_isUsed.2.1 42 = .ok (.getfield 11, 3) := by decide +kernel
theorem d_BA_isUsed_45 : decode m_BA_isUsed.2.1 45 = .ok (.arraylength, 1) := by decide +kernel
theorem d_BA_isUsed_46 : decode m_BA_isUsed.2.1 46 = .ok (.if_icmp .ge 21, 3) := by decide +kernel
theorem d_BA_isUsed_49 : decode m_BA_isUsed.2.1 49 = .ok (.aload_n 0, 1) := by decide +kernel
theorem d_BA_isUsed_50 : decode m_BA_isUsed.2.1 50 = .ok (.iload_n 3, 1) := by decide +kernel
theorem d_BA_isUsed_51 : decode m_BA_isUsed.2.1 51 = .ok (.iload_n 1, 1) := by decide +kernel
theorem d_BA_isUsed_52 : decode m_BA_isUsed.2.1 52 = .ok (.iload_n 2, 1) := by decide +kernel
theorem d_BA_isUsed_53 : decode m_BA_isUsed.2.1 53 = .ok (.invokevirtual 185, 3) := by decide +kernel
theorem d_BA_isUsed_56 : decode m_BA_isUsed.2.1 56 = .ok (.ifCond .eq 5, 3) := by decide +kernel
theorem d_BA_isUsed_59 : decode m_BA_isUsed.2.1 59 = .ok (.iconst 1, 1) := by decide +kernel
theorem d_BA_isUsed_60 : decode m_BA_isUsed.2.1 60 = .ok (.ireturn, 1) := by decide +kernel
theorem d_BA_isUsed_61 : decode m_BA_isUsed.2.1 61 = .ok (.iinc 3 1, 3) := by decide +kernel
theorem d_BA_isUsed_64 : decode m_BA_isUsed.2.1 64 = .ok (.goto (-24), 3) := by decide +kernel
theorem d_BA_isUsed_67 : decode m_BA_isUsed.2.1 67 = .ok (.iconst 0, 1) := by decide +kernel
theorem d_BA_isUsed_68 : decode m_BA_isUsed.2.1 68 = .ok (.ireturn, 1) := by decide +kernel
theorem d_BA_uses_0 : decode m_BA_uses.2.1 0 = .ok (.aload_n 0, 1) := by decide +kernel
theorem d_BA_uses_1 : decode m_BA_uses.2.1 1 = .ok (.iload_n 1, 1) := by decide +kernel
theorem d_BA_uses_2 : decode m_BA_uses.2.1 2 = .ok (.bipush 6, 2) := by decide +kernel
theorem d_BA_uses_4 : decode m_BA_uses.2.1 4 = .ok (.idiv, 1) := by decide +kernel
theorem d_BA_uses_5 : decode m_BA_uses.2.1 5 = .ok (.iload_n 1, 1) := by decide +kernel
theorem d_BA_uses_6 : decode m_BA_uses.2.1 6 = .ok (.bipush 6, 2) := by decide +kernel
theorem d_BA_uses_8 : decode m_BA_uses.2.1 8 = .ok (.irem, 1) := by decide +kernel
theorem d_BA_uses_9 : decode m_BA_uses.2.1 9 = .ok (.invokevirtual 79, 3) := by decide +kernel
theorem d_BA_uses_12 : decode m_BA_uses.2.1 12 = .ok (.astore 4, 2) := by decide +kernel
theorem d_BA_uses_14 : decode m_BA_uses.2.1 14 = .ok (.aload 4, 2) := by decide +kernel
theorem d_BA_uses_16 : decode m_BA_uses.2.1 16 = .ok (.getfield 98, 3) := by decide +kernel
theorem d_BA_uses_19 : decode m_BA_uses.2.1 19 = .ok (.iconst 3, 1) := by decide +kernel
theorem d_BA_uses_20 : decode m_BA_uses.2.1 20 = .ok (.if_icmp .eq 5, 3) := by decide +kernel
theorem d_BA_uses_23 : decode m_BA_uses.2.1 23 = .ok (.iconst 0, 1) := by decide +kernel
theorem d_BA_uses_24 : decode m_BA_uses.2.1 24 = .ok (.ireturn, 1) := by decide +kernel
theorem d_BA_uses_25 : decode m_BA_uses.2.1 25 = .ok (.iload_n 1, 1) := by decide +kernel
theorem d_BA_uses_26 : decode m_BA_uses.2.1 26 = .ok (.bipush 6, 2) := by decide +kernel
theorem d_BA_uses_28 : decode m_BA_uses.2.1 28 = .ok (.idiv, 1) := by decide +kernel
theorem d_BA_uses_29 : decode m_BA_uses.2.1 29 = .ok (.istore 5, 2) := by decide +kernel
theorem d_BA_uses_31 : decode m_BA_uses.2.1 31 = .ok (.aload_n 0, 1) := by decide +kernel
theorem d_BA_uses_32 : decode m_BA_uses.2.1 32 = .ok (.aload 4, 2) := by decide +kernel
theorem d_BA_uses_34 : decode m_BA_uses.2.1 34 = .ok (.iload 5, 2) := by decide +kernel
theorem d_BA_uses_36 : decode m_BA_uses.2.1 36 = .ok (.invokevirtual 188, 3) := by decide +kernel
theorem d_BA_uses_39 : decode m_BA_uses.2.1 39 = .ok (.iload_n 2, 1) := by decide +kernel
theorem d_BA_uses_40 : decode m_BA_uses.2.1 40 = .ok (.if_icmp .ne 14, 3) := by decide +kernel
theorem d_BA_uses_43 : decode m_BA_uses.2.1 43 = .ok (.aload 4, 2) := by decide +kernel
theorem d_BA_uses_45 : decode m_BA_uses.2.1 45 = .ok (.getfield 129, 3) := by decide +kernel
theorem d_BA_uses_48 : decode m_BA_uses.2.1 48 = .ok (.iload_n 3, 1) := by decide +kernel
theorem d_BA_uses_49 : decode m_BA_uses.2.1 49 = .ok (.if_icmp .ne 5, 3) := by decide +kernel
theorem d_BA_uses_52 : decode m_BA_uses.2.1 52 = .ok (.iconst 1, 1) := by decide +kernel
theorem d_BA_uses_53 : decode m_BA_uses.2.1 53 = .ok (.ireturn, 1) := by decide +kernel
theorem d_BA_uses_54 : decode m_BA_uses.2.1 54 = .ok (.aload 4, 2) := by decide +kernel
theorem d_BA_uses_56 : decode m_BA_uses.2.1 56 = .ok (.getfield 126, 3) := by decide +kernel
theorem d_BA_uses_59 : decode m_BA_uses.2.1 59 = .ok (.iconst 4, 1) := by decide +kernel
theorem d_BA_uses_60 : decode m_BA_uses.2.1 60 = .ok (.if_icmp .eq 28, 3) := by decide +kernel
theorem d_BA_uses_63 : decode m_BA_uses.2.1 63 = .ok (.aload_n 0, 1) := by decide +kernel
theorem d_BA_uses_64 : decode m_BA_uses.2.1 64 = .ok (.aload 4, 2) := by decide +kernel
theorem d_BA_uses_66 : decode m_BA_uses.2.1 66 = .ok (.iload 5, 2) := by decide +kernel
theorem d_BA_uses_68 : decode m_BA_uses.2.1 68 = .ok (.invokevirtual 192, 3) := by decide +kernel
theorem d_BA_uses_71 : decode m_BA_uses.2.1 71 = .ok (.iload_n 2, 1) := by decide +kernel
theorem d_BA_uses_72 : decode m_BA_uses.2.1 72 = .ok (.if_icmp .ne 16, 3) := by decide +kernel
theorem d_BA_uses_75 : decode m_BA_uses.2.1 75 = .ok (.aload 4, 2) := by decide +kernel
theorem d_BA_uses_77 : decode m_BA_uses.2.1 77 = .ok (.getfield 132, 3) := by decide +kernel
theorem d_BA_uses_80 : decode m_BA_uses.2.1 80 = .ok (.iload_n 3, 1) := by decide +kernel
theorem d_BA_uses_81 : decode m_BA_uses.2.1 81 = .ok (.if_icmp .ne 7, 3) := by decide +kernel
theorem d_BA_uses_84 : decode m_BA_uses.2.1 84 = .ok (.iconst 1, 1) := by decide +kernel
theorem d_BA_uses_85 : decode m_BA_uses.2.1 85 = .ok (.goto 4, 3) := by decide +kernel
theorem d_BA_uses_88 : decode m_BA_uses.2.1 88 = .ok (.iconst 0, 1) := by decide +kernel
theorem d_BA_uses_89 : decode m_BA_uses.2.1 89 = .ok (.ireturn, 1) := by decide +kernel
theorem d_BA_tableOfOne_0 : decode m_BA_tableOfOne.2.1 0 = .ok (.aload_n 1, 1) := by decide +kernel
theorem d_BA_tableOfOne_1 : decode m_BA_tableOfOne.2.1 1 = .ok (.getfield 126, 3) := by decide +kernel
theorem d_BA_tableOfOne_4 : decode m_BA_tableOfOne.2.1 4 = .ok (.iconst 3, 1) := by decide +kernel
theorem d_BA_tableOfOne_5 : decode m_BA_tableOfOne.2.1 5 = .ok (.if_icmp .eq 11, 3) := by decide +kernel
theorem d_BA_tableOfOne_8 : decode m_BA_tableOfOne.2.1 8 = .ok (.aload_n 1, 1) := by decide +kernel
theorem d_BA_tableOfOne_9 : decode m_BA_tableOfOne.2.1 9 = .ok (.getfield 126, 3) := by decide +kernel
theorem d_BA_tableOfOne_12 : decode m_BA_tableOfOne.2.1 12 = .ok (.iconst 4, 1) := by decide +kernel
theorem d_BA_tableOfOne_13 : decode m_BA_tableOfOne.2.1 13 = .ok (.if_icmp .ne 10, 3) := by decide +kernel
theorem d_BA_tableOfOne_16 : decode m_BA_tableOfOne.2.1 16 = .ok (.aload_n 1, 1) := by decide +kernel
theorem d_BA_tableOfOne_17 : decode m_BA_tableOfOne.2.1 17 = .ok (.getfield 135, 3) := by decide +kernel
theorem d_BA_tableOfOne_20 : decode m_BA_tableOfOne.2.1 20 = .ok (.goto 4, 3) := by decide +kernel
theorem d_BA_tableOfOne_23 : decode m_BA_tableOfOne.2.1 23 = .ok (.iload_n 2, 1) := by decide +kernel
theorem d_BA_tableOfOne_24 : decode m_BA_tableOfOne.2.1 24 = .ok (.ireturn, 1) := by decide +kernel
theorem d_BA_tableOfTwo_0 : decode m_BA_tableOfTwo.2.1 0 = .ok (.aload_n 1, 1) := by decide +kernel
theorem d_BA_tableOfTwo_1 : decode m_BA_tableOfTwo.2.1 1 = .ok (.getfield 126, 3) := by decide +kernel
theorem d_BA_tableOfTwo_4 : decode m_BA_tableOfTwo.2.1 4 = .ok (.iconst 2, 1) := by decide +kernel
theorem d_BA_tableOfTwo_5 : decode m_BA_tableOfTwo.2.1 5 = .ok (.if_icmp .ne 18, 3) := by decide +kernel
theorem d_BA_tableOfTwo_8 : decode m_BA_tableOfTwo.2.1 8 = .ok (.aload_n 0, 1) := by decide +kernel
theorem d_BA_tableOfTwo_9 : decode m_BA_tableOfTwo.2.1 9 = .ok (.iload_n 2, 1) := by decide +kernel
theorem d_BA_tableOfTwo_10 : decode m_BA_tableOfTwo.2.1 10 = .ok (.aload_n 1, 1) := by decide +kernel
theorem d_BA_tableOfTwo_11 : decode m_BA_tableOfTwo.2.1 11 = .ok (.getfield 129, 3) := by decide +kernel
theorem d_BA_tableOfTwo_14 : decode m_BA_tableOfTwo.2.1 14 = .ok (.invokevirtual 79, 3) := by decide +kernel
theorem d_BA_tableOfTwo_17 : decode m_BA_tableOfTwo.2.1 17 = .ok (.getfield 111, 3) := by decide +kernel
theorem d_BA_tableOfTwo_20 : decode m_BA_tableOfTwo.2.1 20 = .ok (.goto 9, 3) := by decide +kernel
theorem d_BA_tableOfTwo_23 : decode m_BA_tableOfTwo.2.1 23 = .ok (.aload_n 0, 1) := by decide +kernel
theorem d_BA_tableOfTwo_24 : decode m_BA_tableOfTwo.2.1 24 = .ok (.aload_n 1, 1) := by decide +kernel
theorem d_BA_tableOfTwo_25 : decode m_BA_tableOfTwo.2.1 25 = .ok (.iload_n 2, 1) := by decide +kernel
theorem d_BA_tableOfTwo_26 : decode m_BA_tableOfTwo.2.1 26 = .ok (.invokevirtual 188, 3) := by decide +kernel
theorem d_BA_tableOfTwo_29 : decode m_BA_tableOfTwo.2.1 29 = .ok (.ireturn, 1) := by decide +kernel
theorem d_BA_putInOrder_0 : decode m_BA_putInOrder.2.1 0 = .ok (.iconst 0, 1) := by decide +kernel
theorem d_BA_putInOrder_1 : decode m_BA_putInOrder.2.1 1 = .ok (.istore_n 1, 1) := by decide +kernel
theorem d_BA_putInOrder_2 : decode m_BA_putInOrder.2.1 2 = .ok (.iconst 0, 1) := by decide +kernel
theorem d_BA_putInOrder_3 : decode m_BA_putInOrder.2.1 3 = .ok (.istore_n 2, 1) := by decide +kernel
theorem d_BA_putInOrder_4 : decode m_BA_putInOrder.2.1 4 = .ok (.iload_n 2, 1) := by decide +kernel
theorem d_BA_putInOrder_5 : decode m_BA_putInOrder.2.1 5 = .ok (.aload_n 0, 1) := by decide +kernel
theorem d_BA_putInOrder_6 : decode m_BA_putInOrder.2.1 6 = .ok (.getfield 11, 3) := by decide +kernel
theorem d_BA_putInOrder_9 : decode m_BA_putInOrder.2.1 9 = .ok (.arraylength, 1) := by decide +kernel
theorem d_BA_putInOrder_10 : decode m_BA_putInOrder.2.1 10 = .ok (.if_icmp .ge 32, 3) := by decide +kernel
theorem d_BA_putInOrder_13 : decode m_BA_putInOrder.2.1 13 = .ok (.aload_n 0, 1) := by decide +kernel
theorem d_BA_putInOrder_14 : decode m_BA_putInOrder.2.1 14 = .ok (.getfield 57, 3) := by decide +kernel
theorem d_BA_putInOrder_17 : decode m_BA_putInOrder.2.1 17 = .ok (.iload_n 2, 1) := by decide +kernel
theorem d_BA_putInOrder_18 : decode m_BA_putInOrder.2.1 18 = .ok (.iconst 0, 1) := by decide +kernel
theorem d_BA_putInOrder_19 : decode m_BA_putInOrder.2.1 19 = .ok (.bastore, 1) := by decide +kernel
theorem d_BA_putInOrder_20 : decode m_BA_putInOrder.2.1 20 = .ok (.aload_n 0, 1) := by decide +kernel
theorem d_BA_putInOrder_21 : decode m_BA_putInOrder.2.1 21 = .ok (.getfield 11, 3) := by decide +kernel
theorem d_BA_putInOrder_24 : decode m_BA_putInOrder.2.1 24 = .ok (.iload_n 2, 1) := by decide +kernel
theorem d_BA_putInOrder_25 : decode m_BA_putInOrder.2.1 25 = .ok (.aaload, 1) := by decide +kernel
theorem d_BA_putInOrder_26 : decode m_BA_putInOrder.2.1 26 = .ok (.getfield 98, 3) := by decide +kernel
theorem d_BA_putInOrder_29 : decode m_BA_putInOrder.2.1 29 = .ok (.iconst 3, 1) := by decide +kernel
theorem d_BA_putInOrder_30 : decode m_BA_putInOrder.2.1 30 = .ok (.if_icmp .ne 6, 3) := by decide +kernel
theorem d_BA_putInOrder_33 : decode m_BA_putInOrder.2.1 33 = .ok (.iinc 1 1, 3) := by decide +kernel
theorem d_BA_putInOrder_36 : decode m_BA_putInOrder.2.1 36 = .ok (.iinc 2 1, 3) := by decide +kernel
theorem d_BA_putInOrder_39 : decode m_BA_putInOrder.2.1 39 = .ok (.goto (-35), 3) := by decide +kernel
theorem d_BA_putInOrder_42 : decode m_BA_putInOrder.2.1 42 = .ok (.aload_n 0, 1) := by decide +kernel
theorem d_BA_putInOrder_43 : decode m_BA_putInOrder.2.1 43 = .ok (.iconst 0, 1) := by decide +kernel
theorem d_BA_putInOrder_44 : decode m_BA_putInOrder.2.1 44 = .ok (.putfield 195, 3) := by decide +kernel
theorem d_BA_putInOrder_47 : decode m_BA_putInOrder.2.1 47 = .ok (.aload_n 0, 1) := by decide +kernel
theorem d_BA_putInOrder_48 : decode m_BA_putInOrder.2.1 48 = .ok (.getfield 195, 3) := by decide +kernel
theorem d_BA_putInOrder_51 : decode m_BA_putInOrder.2.1 51 = .ok (.iload_n 1, 1) := by decide +kernel
theorem d_BA_putInOrder_52 : decode m_BA_putInOrder.2.1 52 = .ok (.if_icmp .ge 67, 3) := by decide +kernel
theorem d_BA_putInOrder_55 : decode m_BA_putInOrder.2.1 55 = .ok (.aload_n 0, 1) := by decide +kernel
theorem d_BA_putInOrder_56 : decode m_BA_putInOrder.2.1 56 = .ok (.getfield 195, 3) := by decide +kernel
theorem d_BA_putInOrder_59 : decode m_BA_putInOrder.2.1 59 = .ok (.aload_n 0, 1) := by decide +kernel
theorem d_BA_putInOrder_60 : decode m_BA_putInOrder.2.1 60 = .ok (.getfield 37, 3) := by decide +kernel
theorem d_BA_putInOrder_63 : decode m_BA_putInOrder.2.1 63 = .ok (.arraylength, 1) := by decide +kernel
theorem d_BA_putInOrder_64 : decode m_BA_putInOrder.2.1 64 = .ok (.if_icmp .ge 55, 3) := by decide +kernel
theorem d_BA_putInOrder_67 : decode m_BA_putInOrder.2.1 67 = .ok (.aload_n 0, 1) := by decide +kernel
theorem d_BA_putInOrder_68 : decode m_BA_putInOrder.2.1 68 = .ok (.invokevirtual 198, 3) := by decide +kernel
theorem d_BA_putInOrder_71 : decode m_BA_putInOrder.2.1 71 = .ok (.istore_n 2, 1) := by decide +kernel
theorem d_BA_putInOrder_72 : decode m_BA_putInOrder.2.1 72 = .ok (.iload_n 2, 1) := by decide +kernel
theorem d_BA_putInOrder_73 : decode m_BA_putInOrder.2.1 73 = .ok (.ifCond .ge 5, 3) := by decide +kernel
theorem d_BA_putInOrder_76 : decode m_BA_putInOrder.2.1 76 = .ok (.iconst 0, 1) := by decide +kernel
theorem d_BA_putInOrder_77 : decode m_BA_putInOrder.2.1 77 = .ok (.ireturn, 1) := by decide +kernel
theorem d_BA_putInOrder_78 : decode m_BA_putInOrder.2.1 78 = .ok (.aload_n 0, 1) := by decide +kernel
theorem d_BA_putInOrder_79 : decode m_BA_putInOrder.2.1 79 = .ok (.getfield 57, 3) := by decide +kernel
theorem d_BA_putInOrder_82 : decode m_BA_putInOrder.2.1 82 = .ok (.iload_n 2, 1) := by decide +kernel
theorem d_BA_putInOrder_83 : decode m_BA_putInOrder.2.1 83 = .ok (.iconst 1, 1) := by decide +kernel
theorem d_BA_putInOrder_84 : decode m_BA_putInOrder.2.1 84 = .ok (.bastore, 1) := by decide +kernel
theorem d_BA_putInOrder_85 : decode m_BA_putInOrder.2.1 85 = .ok (.aload_n 0, 1) := by decide +kernel
theorem d_BA_putInOrder_86 : decode m_BA_putInOrder.2.1 86 = .ok (.getfield 37, 3) := by decide +kernel
theorem d_BA_putInOrder_89 : decode m_BA_putInOrder.2.1 89 = .ok (.aload_n 0, 1) := by decide +kernel
theorem d_BA_putInOrder_90 : decode m_BA_putInOrder.2.1 90 = .ok (.getfield 195, 3) := by decide +kernel
theorem d_BA_putInOrder_93 : decode m_BA_putInOrder.2.1 93 = .ok (.bipush 10, 2) := by decide +kernel
theorem d_BA_putInOrder_95 : decode m_BA_putInOrder.2.1 95 = .ok (.iload_n 2, 1) := by decide +kernel
theorem d_BA_putInOrder_96 : decode m_BA_putInOrder.2.1 96 = .ok (.bipush 6, 2) := by decide +kernel
theorem d_BA_putInOrder_98 : decode m_BA_putInOrder.2.1 98 = .ok (.idiv, 1) := by decide +kernel
theorem d_BA_putInOrder_99 : decode m_BA_putInOrder.2.1 99 = .ok (.imul, 1) := by decide +kernel
theorem d_BA_putInOrder_100 : decode m_BA_putInOrder.2.1 100 = .ok (.iload_n 2, 1) := by decide +kernel
theorem d_BA_putInOrder_101 : decode m_BA_putInOrder.2.1 101 = .ok (.bipush 6, 2) := by decide +kernel
theorem d_BA_putInOrder_103 : decode m_BA_putInOrder.2.1 103 = .ok (.irem, 1) := by decide +kernel
theorem d_BA_putInOrder_104 : decode m_BA_putInOrder.2.1 104 = .ok (.iadd, 1) := by decide +kernel
theorem d_BA_putInOrder_105 : decode m_BA_putInOrder.2.1 105 = .ok (.iastore, 1) := by decide +kernel
theorem d_BA_putInOrder_106 : decode m_BA_putInOrder.2.1 106 = .ok (.aload_n 0, 1) := by decide +kernel
theorem d_BA_putInOrder_107 : decode m_BA_putInOrder.2.1 107 = .ok (.dup, 1) := by decide +kernel
theorem d_BA_putInOrder_108 : decode m_BA_putInOrder.2.1 108 = .ok (.getfield 195, 3) := by decide +kernel
theorem d_BA_putInOrder_111 : decode m_BA_putInOrder.2.1 111 = .ok (.iconst 1, 1) := by decide +kernel
theorem d_BA_putInOrder_112 : decode m_BA_putInOrder.2.1 112 = .ok (.iadd, 1) := by decide +kernel
theorem d_BA_putInOrder_113 : decode m_BA_putInOrder.2.1 113 = .ok (.putfield 195, 3) := by decide +kernel
theorem d_BA_putInOrder_116 : decode m_BA_putInOrder.2.1 116 = .ok (.goto (-69), 3) := by decide +kernel
theorem d_BA_putInOrder_119 : decode m_BA_putInOrder.2.1 119 = .ok (.iconst 1, 1) := by decide +kernel
theorem d_BA_putInOrder_120 : decode m_BA_putInOrder.2.1 120 = .ok (.ireturn, 1) := by decide +kernel
theorem d_BA_nextReady_0 : decode m_BA_nextReady.2.1 0 = .ok (.iconst 0, 1) := by decide +kernel
theorem d_BA_nextReady_1 : decode m_BA_nextReady.2.1 1 = .ok (.istore_n 1, 1) := by decide +kernel
theorem d_BA_nextReady_2 : decode m_BA_nextReady.2.1 2 = .ok (.iload_n 1, 1) := by decide +kernel
theorem d_BA_nextReady_3 : decode m_BA_nextReady.2.1 3 = .ok (.aload_n 0, 1) := by decide +kernel
theorem d_BA_nextReady_4 : decode m_BA_nextReady.2.1 4 = .ok (.getfield 11, 3) := by decide +kernel
theorem d_BA_nextReady_7 : decode m_BA_nextReady.2.1 7 = .ok (.arraylength, 1) := by decide +kernel
theorem d_BA_nextReady_8 : decode m_BA_nextReady.2.1 8 = .ok (.if_icmp .ge 50, 3) := by decide +kernel
theorem d_BA_nextReady_11 : decode m_BA_nextReady.2.1 11 = .ok (.aload_n 0, 1) := by decide +kernel
theorem d_BA_nextReady_12 : decode m_BA_nextReady.2.1 12 = .ok (.getfield 11, 3) := by decide +kernel
theorem d_BA_nextReady_15 : decode m_BA_nextReady.2.1 15 = .ok (.iload_n 1, 1) := by decide +kernel
theorem d_BA_nextReady_16 : decode m_BA_nextReady.2.1 16 = .ok (.aaload, 1) := by decide +kernel
theorem d_BA_nextReady_17 : decode m_BA_nextReady.2.1 17 = .ok (.getfield 98, 3) := by decide +kernel
theorem d_BA_nextReady_20 : decode m_BA_nextReady.2.1 20 = .ok (.iconst 3, 1) := by decide +kernel
theorem d_BA_nextReady_21 : decode m_BA_nextReady.2.1 21 = .ok (.if_icmp .ne 31, 3) := by decide +kernel
theorem d_BA_nextReady_24 : decode m_BA_nextReady.2.1 24 = .ok (.aload_n 0, 1) := by decide +kernel
theorem d_BA_nextReady_25 : decode m_BA_nextReady.2.1 25 = .ok (.getfield 57, 3) := by decide +kernel
theorem d_BA_nextReady_28 : decode m_BA_nextReady.2.1 28 = .ok (.iload_n 1, 1) := by decide +kernel
theorem d_BA_nextReady_29 : decode m_BA_nextReady.2.1 29 = .ok (.baload, 1) := by decide +kernel
theorem d_BA_nextReady_30 : decode m_BA_nextReady.2.1 30 = .ok (.ifCond .ne 22, 3) := by decide +kernel
theorem d_BA_nextReady_33 : decode m_BA_nextReady.2.1 33 = .ok (.aload_n 0, 1) := by decide +kernel
theorem d_BA_nextReady_34 : decode m_BA_nextReady.2.1 34 = .ok (.aload_n 0, 1) := by decide +kernel
theorem d_BA_nextReady_35 : decode m_BA_nextReady.2.1 35 = .ok (.getfield 11, 3) := by decide +kernel
theorem d_BA_nextReady_38 : decode m_BA_nextReady.2.1 38 = .ok (.iload_n 1, 1) := by decide +kernel
theorem d_BA_nextReady_39 : decode m_BA_nextReady.2.1 39 = .ok (.aaload, 1) := by decide +kernel
theorem d_BA_nextReady_40 : decode m_BA_nextReady.2.1 40 = .ok (.iload_n 1, 1) := by decide +kernel
theorem d_BA_nextReady_41 : decode m_BA_nextReady.2.1 41 = .ok (.bipush 6, 2) := by decide +kernel
theorem d_BA_nextReady_43 : decode m_BA_nextReady.2.1 43 = .ok (.idiv, 1) := by decide +kernel
theorem d_BA_nextReady_44 : decode m_BA_nextReady.2.1 44 = .ok (.invokevirtual 202, 3) := by decide +kernel
theorem d_BA_nextReady_47 : decode m_BA_nextReady.2.1 47 = .ok (.ifCond .eq 5, 3) := by decide +kernel
theorem d_BA_nextReady_50 : decode m_BA_nextReady.2.1 50 = .ok (.iload_n 1, 1) := by decide +kernel
theorem d_BA_nextReady_51 : decode m_BA_nextReady.2.1 51 = .ok (.ireturn, 1) := by decide +kernel
theorem d_BA_nextReady_52 : decode m_BA_nextReady.2.1 52 = .ok (.iinc 1 1, 3) := by decide +kernel
theorem d_BA_nextReady_55 : decode m_BA_nextReady.2.1 55 = .ok (.goto (-53), 3) := by decide +kernel
theorem d_BA_nextReady_58 : decode m_BA_nextReady.2.1 58 = .ok (.iconst (-1), 1) := by decide +kernel
theorem d_BA_nextReady_59 : decode m_BA_nextReady.2.1 59 = .ok (.ireturn, 1) := by decide +kernel
theorem d_BA_isReady_0 : decode m_BA_isReady.2.1 0 = .ok (.aload_n 0, 1) := by decide +kernel
theorem d_BA_isReady_1 : decode m_BA_isReady.2.1 1 = .ok (.aload_n 0, 1) := by decide +kernel
theorem d_BA_isReady_2 : decode m_BA_isReady.2.1 2 = .ok (.aload_n 1, 1) := by decide +kernel
theorem d_BA_isReady_3 : decode m_BA_isReady.2.1 3 = .ok (.iload_n 2, 1) := by decide +kernel
theorem d_BA_isReady_4 : decode m_BA_isReady.2.1 4 = .ok (.invokevirtual 188, 3) := by decide +kernel
theorem d_BA_isReady_7 : decode m_BA_isReady.2.1 7 = .ok (.aload_n 1, 1) := by decide +kernel
theorem d_BA_isReady_8 : decode m_BA_isReady.2.1 8 = .ok (.getfield 129, 3) := by decide +kernel
theorem d_BA_isReady_11 : decode m_BA_isReady.2.1 11 = .ok (.invokevirtual 206, 3) := by decide +kernel
theorem d_BA_isReady_14 : decode m_BA_isReady.2.1 14 = .ok (.ifCond .ne 5, 3) := by decide +kernel
theorem d_BA_isReady_17 : decode m_BA_isReady.2.1 17 = .ok (.iconst 0, 1) := by decide +kernel
theorem d_BA_isReady_18 : decode m_BA_isReady.2.1 18 = .ok (.ireturn, 1) := by decide +kernel
theorem d_BA_isReady_19 : decode m_BA_isReady.2.1 19 = .ok (.aload_n 1, 1) := by decide +kernel
theorem d_BA_isReady_20 : decode m_BA_isReady.2.1 20 = .ok (.getfield 126, 3) := by decide +kernel
theorem d_BA_isReady_23 : decode m_BA_isReady.2.1 23 = .ok (.iconst 4, 1) := by decide +kernel
theorem d_BA_isReady_24 : decode m_BA_isReady.2.1 24 = .ok (.if_icmp .eq 20, 3) := by decide +kernel
theorem d_BA_isReady_27 : decode m_BA_isReady.2.1 27 = .ok (.aload_n 0, 1) := by decide +kernel
theorem d_BA_isReady_28 : decode m_BA_isReady.2.1 28 = .ok (.aload_n 0, 1) := by decide +kernel
theorem d_BA_isReady_29 : decode m_BA_isReady.2.1 29 = .ok (.aload_n 1, 1) := by decide +kernel
theorem d_BA_isReady_30 : decode m_BA_isReady.2.1 30 = .ok (.iload_n 2, 1) := by decide +kernel
theorem d_BA_isReady_31 : decode m_BA_isReady.2.1 31 = .ok (.invokevirtual 192, 3) := by decide +kernel
theorem d_BA_isReady_34 : decode m_BA_isReady.2.1 34 = .ok (.aload_n 1, 1) := by decide +kernel
theorem d_BA_isReady_35 : decode m_BA_isReady.2.1 35 = .ok (.getfield 132, 3) := by decide +kernel
theorem d_BA_isReady_38 : decode m_BA_isReady.2.1 38 = .ok (.invokevirtual 206, 3) := by decide +kernel
theorem d_BA_isReady_41 : decode m_BA_isReady.2.1 41 = .ok (.ifCond .eq 7, 3) := by decide +kernel
theorem d_BA_isReady_44 : decode m_BA_isReady.2.1 44 = .ok (.iconst 1, 1) := by decide +kernel
theorem d_BA_isReady_45 : decode m_BA_isReady.2.1 45 = .ok (.goto 4, 3) := by decide +kernel
theorem d_BA_isReady_48 : decode m_BA_isReady.2.1 48 = .ok (.iconst 0, 1) := by decide +kernel
theorem d_BA_isReady_49 : decode m_BA_isReady.2.1 49 = .ok (.ireturn, 1) := by decide +kernel
theorem d_BA_isKnown_0 : decode m_BA_isKnown.2.1 0 = .ok (.iload_n 1, 1) := by decide +kernel
theorem d_BA_isKnown_1 : decode m_BA_isKnown.2.1 1 = .ok (.bipush 6, 2) := by decide +kernel
theorem d_BA_isKnown_3 : decode m_BA_isKnown.2.1 3 = .ok (.imul, 1) := by decide +kernel
theorem d_BA_isKnown_4 : decode m_BA_isKnown.2.1 4 = .ok (.iload_n 2, 1) := by decide +kernel
theorem d_BA_isKnown_5 : decode m_BA_isKnown.2.1 5 = .ok (.iadd, 1) := by decide +kernel
theorem d_BA_isKnown_6 : decode m_BA_isKnown.2.1 6 = .ok (.istore_n 3, 1) := by decide +kernel
theorem d_BA_isKnown_7 : decode m_BA_isKnown.2.1 7 = .ok (.aload_n 0, 1) := by decide +kernel
theorem d_BA_isKnown_8 : decode m_BA_isKnown.2.1 8 = .ok (.iload_n 1, 1) := by decide +kernel
theorem d_BA_isKnown_9 : decode m_BA_isKnown.2.1 9 = .ok (.iload_n 2, 1) := by decide +kernel
theorem d_BA_isKnown_10 : decode m_BA_isKnown.2.1 10 = .ok (.invokevirtual 79, 3) := by decide +kernel
theorem d_BA_isKnown_13 : decode m_BA_isKnown.2.1 13 = .ok (.getfield 98, 3) := by decide +kernel
theorem d_BA_isKnown_16 : decode m_BA_isKnown.2.1 16 = .ok (.iconst 3, 1) := by decide +kernel
theorem d_BA_isKnown_17 : decode m_BA_isKnown.2.1 17 = .ok (.if_icmp .ne 25, 3) := by decide +kernel
theorem d_BA_isKnown_20 : decode m_BA_isKnown.2.1 20 = .ok (.iload_n 3, 1) := by decide +kernel
theorem d_BA_isKnown_21 : decode m_BA_isKnown.2.1 21 = .ok (.ifCond .lt 21, 3) := by decide +kernel
theorem d_BA_isKnown_24 : decode m_BA_isKnown.2.1 24 = .ok (.iload_n 3, 1) := by decide +kernel
theorem d_BA_isKnown_25 : decode m_BA_isKnown.2.1 25 = .ok (.aload_n 0, 1) := by decide +kernel
theorem d_BA_isKnown_26 : decode m_BA_isKnown.2.1 26 = .ok (.getfield 57, 3) := by decide +kernel
theorem d_BA_isKnown_29 : decode m_BA_isKnown.2.1 29 = .ok (.arraylength, 1) := by decide +kernel
theorem d_BA_isKnown_30 : decode m_BA_isKnown.2.1 30 = .ok (.if_icmp .ge 12, 3) := by decide +kernel
theorem d_BA_isKnown_33 : decode m_BA_isKnown.2.1 33 = .ok (.aload_n 0, 1) := by decide +kernel
theorem d_BA_isKnown_34 : decode m_BA_isKnown.2.1 34 = .ok (.getfield 57, 3) := by decide +kernel
theorem d_BA_isKnown_37 : decode m_BA_isKnown.2.1 37 = .ok (.iload_n 3, 1) := by decide +kernel
theorem d_BA_isKnown_38 : decode m_BA_isKnown.2.1 38 = .ok (.baload, 1) := by decide +kernel
theorem d_BA_isKnown_39 : decode m_BA_isKnown.2.1 39 = .ok (.ifCond .eq 7, 3) := by decide +kernel
theorem d_BA_isKnown_42 : decode m_BA_isKnown.2.1 42 = .ok (.iconst 1, 1) := by decide +kernel
theorem d_BA_isKnown_43 : decode m_BA_isKnown.2.1 43 = .ok (.goto 4, 3) := by decide +kernel
theorem d_BA_isKnown_46 : decode m_BA_isKnown.2.1 46 = .ok (.iconst 0, 1) := by decide +kernel
theorem d_BA_isKnown_47 : decode m_BA_isKnown.2.1 47 = .ok (.ireturn, 1) := by decide +kernel
theorem d_BA_reckon_0 : decode m_BA_reckon.2.1 0 = .ok (.iconst 0, 1) := by decide +kernel
theorem d_BA_reckon_1 : decode m_BA_reckon.2.1 1 = .ok (.istore_n 1, 1) := by decide +kernel
theorem d_BA_reckon_2 : decode m_BA_reckon.2.1 2 = .ok (.iload_n 1, 1) := by decide +kernel
theorem d_BA_reckon_3 : decode m_BA_reckon.2.1 3 = .ok (.aload_n 0, 1) := by decide +kernel
theorem d_BA_reckon_4 : decode m_BA_reckon.2.1 4 = .ok (.getfield 195, 3) := by decide +kernel
theorem d_BA_reckon_7 : decode m_BA_reckon.2.1 7 = .ok (.if_icmp .ge 124, 3) := by decide +kernel
theorem d_BA_reckon_10 : decode m_BA_reckon.2.1 10 = .ok (.iload_n 1, 1) := by decide +kernel
theorem d_BA_reckon_11 : decode m_BA_reckon.2.1 11 = .ok (.aload_n 0, 1) := by decide +kernel
theorem d_BA_reckon_12 : decode m_BA_reckon.2.1 12 = .ok (.getfield 37, 3) := by decide +kernel
theorem d_BA_reckon_15 : decode m_BA_reckon.2.1 15 = .ok (.arraylength, 1) := by decide +kernel
theorem d_BA_reckon_16 : decode m_BA_reckon.2.1 16 = .ok (.if_icmp .ge 115, 3) := by decide +kernel
theorem d_BA_reckon_19 : decode m_BA_reckon.2.1 19 = .ok (.aload_n 0, 1) := by decide +kernel
theorem d_BA_reckon_20 : decode m_BA_reckon.2.1 20 = .ok (.getfield 37, 3) := by decide +kernel
theorem d_BA_reckon_23 : decode m_BA_reckon.2.1 23 = .ok (.iload_n 1, 1) := by decide +kernel
theorem d_BA_reckon_24 : decode m_BA_reckon.2.1 24 = .ok (.iaload, 1) := by decide +kernel
theorem d_BA_reckon_25 : decode m_BA_reckon.2.1 25 = .ok (.bipush 10, 2) := by decide +kernel
theorem d_BA_reckon_27 : decode m_BA_reckon.2.1 27 = .ok (.idiv, 1) := by decide +kernel
theorem d_BA_reckon_28 : decode m_BA_reckon.2.1 28 = .ok (.istore_n 2, 1) := by decide +kernel
theorem d_BA_reckon_29 : decode m_BA_reckon.2.1 29 = .ok (.aload_n 0, 1) := by decide +kernel
theorem d_BA_reckon_30 : decode m_BA_reckon.2.1 30 = .ok (.getfield 37, 3) := by decide +kernel
theorem d_BA_reckon_33 : decode m_BA_reckon.2.1 33 = .ok (.iload_n 1, 1) := by decide +kernel
theorem d_BA_reckon_34 : decode m_BA_reckon.2.1 34 = .ok (.iaload, 1) := by decide +kernel
theorem d_BA_reckon_35 : decode m_BA_reckon.2.1 35 = .ok (.bipush 10, 2) := by decide +kernel
theorem d_BA_reckon_37 : decode m_BA_reckon.2.1 37 = .ok (.irem, 1) := by decide +kernel
theorem d_BA_reckon_38 : decode m_BA_reckon.2.1 38 = .ok (.istore_n 3, 1) := by decide +kernel
theorem d_BA_reckon_39 : decode m_BA_reckon.2.1 39 = .ok (.aload_n 0, 1) := by decide +kernel
theorem d_BA_reckon_40 : decode m_BA_reckon.2.1 40 = .ok (.iload_n 2, 1) := by decide +kernel
theorem d_BA_reckon_41 : decode m_BA_reckon.2.1 41 = .ok (.iload_n 3, 1) := by decide +kernel
theorem d_BA_reckon_42 : decode m_BA_reckon.2.1 42 = .ok (.invokevirtual 79, 3) := by decide +kernel
theorem d_BA_reckon_45 : decode m_BA_reckon.2.1 45 = .ok (.astore 4, 2) := by decide +kernel
theorem d_BA_reckon_47 : decode m_BA_reckon.2.1 47 = .ok (.aload 4, 2) := by decide +kernel
theorem d_BA_reckon_49 : decode m_BA_reckon.2.1 49 = .ok (.getfield 126, 3) := by decide +kernel
theorem d_BA_reckon_52 : decode m_BA_reckon.2.1 52 = .ok (.iconst 3, 1) := by decide +kernel
theorem d_BA_reckon_53 : decode m_BA_reckon.2.1 53 = .ok (.if_icmp .eq 12, 3) := by decide +kernel
theorem d_BA_reckon_56 : decode m_BA_reckon.2.1 56 = .ok (.aload 4, 2) := by decide +kernel
theorem d_BA_reckon_58 : decode m_BA_reckon.2.1 58 = .ok (.getfield 126, 3) := by decide +kernel
theorem d_BA_reckon_61 : decode m_BA_reckon.2.1 61 = .ok (.iconst 4, 1) := by decide +kernel
theorem d_BA_reckon_62 : decode m_BA_reckon.2.1 62 = .ok (.if_icmp .ne 14, 3) := by decide +kernel
theorem d_BA_reckon_65 : decode m_BA_reckon.2.1 65 = .ok (.aload_n 0, 1) := by decide +kernel
theorem d_BA_reckon_66 : decode m_BA_reckon.2.1 66 = .ok (.iload_n 2, 1) := by decide +kernel
theorem d_BA_reckon_67 : decode m_BA_reckon.2.1 67 = .ok (.iload_n 3, 1) := by decide +kernel
theorem d_BA_reckon_68 : decode m_BA_reckon.2.1 68 = .ok (.aload 4, 2) := by decide +kernel
theorem d_BA_reckon_70 : decode m_BA_reckon.2.1 70 = .ok (.invokevirtual 209, 3) := by decide +kernel
theorem d_BA_reckon_73 : decode m_BA_reckon.2.1 73 = .ok (.goto 52, 3) := by decide +kernel
theorem d_BA_reckon_76 : decode m_BA_reckon.2.1 76 = .ok (.iconst 0, 1) := by decide +kernel
theorem d_BA_reckon_77 : decode m_BA_reckon.2.1 77 = .ok (.istore 5, 2) := by decide +kernel
theorem d_BA_reckon_79 : decode m_BA_reckon.2.1 79 = .ok (.iload 5, 2) := by decide +kernel
theorem d_BA_reckon_81 : decode m_BA_reckon.2.1 81 = .ok (.bipush 30, 2) := by decide +kernel
theorem d_BA_reckon_83 : decode m_BA_reckon.2.1 83 = .ok (.if_icmp .ge 42, 3) := by decide +kernel
theorem d_BA_reckon_86 : decode m_BA_reckon.2.1 86 = .ok (.aload_n 0, 1) := by decide +kernel
theorem d_BA_reckon_87 : decode m_BA_reckon.2.1 87 = .ok (.getfield 43, 3) := by decide +kernel
theorem d_BA_reckon_90 : decode m_BA_reckon.2.1 90 = .ok (.iload_n 2, 1) := by decide +kernel
theorem d_BA_reckon_91 : decode m_BA_reckon.2.1 91 = .ok (.iload 5, 2) := by decide +kernel
theorem d_BA_reckon_93 : decode m_BA_reckon.2.1 93 = .ok (.invokevirtual 155, 3) := by decide +kernel
theorem d_BA_reckon_96 : decode m_BA_reckon.2.1 96 = .ok (.ifCond .eq 23, 3) := by decide +kernel
theorem d_BA_reckon_99 : decode m_BA_reckon.2.1 99 = .ok (.aload_n 0, 1) := by decide +kernel
theorem d_BA_reckon_100 : decode m_BA_reckon.2.1 100 = .ok (.getfield 43, 3) := by decide +kernel
theorem d_BA_reckon_103 : decode m_BA_reckon.2.1 103 = .ok (.iload_n 2, 1) := by decide +kernel
theorem d_BA_reckon_104 : decode m_BA_reckon.2.1 104 = .ok (.iload 5, 2) := by decide +kernel
theorem d_BA_reckon_106 : decode m_BA_reckon.2.1 106 = .ok (.iload_n 3, 1) := by decide +kernel
theorem d_BA_reckon_107 : decode m_BA_reckon.2.1 107 = .ok (.aload_n 0, 1) := by decide +kernel
theorem d_BA_reckon_108 : decode m_BA_reckon.2.1 108 = .ok (.iload_n 2, 1) := by decide +kernel
theorem d_BA_reckon_109 : decode m_BA_reckon.2.1 109 = .ok (.iload 5, 2) := by decide +kernel
theorem d_BA_reckon_111 : decode m_BA_reckon.2.1 111 = .ok (.aload 4, 2) := by decide +kernel
theorem d_BA_reckon_113 : decode m_BA_reckon.2.1 113 = .ok (.invokevirtual 213, 3) := by decide +kernel
theorem d_BA_reckon_116 : decode m_BA_reckon.2.1 116 = .ok (.invokevirtual 166, 3) := by decide +kernel
theorem d_BA_reckon_119 : decode m_BA_reckon.2.1 119 = .ok (.iinc 5 1, 3) := by decide +kernel
theorem d_BA_reckon_122 : decode m_BA_reckon.2.1 122 = .ok (.goto (-43), 3) := by decide +kernel
theorem d_BA_reckon_125 : decode m_BA_reckon.2.1 125 = .ok (.iinc 1 1, 3) := by decide +kernel
theorem d_BA_reckon_128 : decode m_BA_reckon.2.1 128 = .ok (.goto (-126), 3) := by decide +kernel
theorem d_BA_reckon_131 : decode m_BA_reckon.2.1 131 = .ok (.return_, 1) := by decide +kernel
theorem d_BA_reckonCell_0 : decode m_BA_reckonCell.2.1 0 = .ok (.aload_n 0, 1) := by decide +kernel
theorem d_BA_reckonCell_1 : decode m_BA_reckonCell.2.1 1 = .ok (.getfield 43, 3) := by decide +kernel
theorem d_BA_reckonCell_4 : decode m_BA_reckonCell.2.1 4 = .ok (.iload_n 1, 1) := by decide +kernel
theorem d_BA_reckonCell_5 : decode m_BA_reckonCell.2.1 5 = .ok (.iload_n 2, 1) := by decide +kernel
theorem d_BA_reckonCell_6 : decode m_BA_reckonCell.2.1 6 = .ok (.aload_n 3, 1) := by decide +kernel
theorem d_BA_reckonCell_7 : decode m_BA_reckonCell.2.1 7 = .ok (.getfield 129, 3) := by decide +kernel
theorem d_BA_reckonCell_10 : decode m_BA_reckonCell.2.1 10 = .ok (.invokevirtual 159, 3) := by decide +kernel
theorem d_BA_reckonCell_13 : decode m_BA_reckonCell.2.1 13 = .ok (.istore 4, 2) := by decide +kernel
theorem d_BA_reckonCell_15 : decode m_BA_reckonCell.2.1 15 = .ok (.aload_n 3, 1) := by decide +kernel
theorem d_BA_reckonCell_16 : decode m_BA_reckonCell.2.1 16 = .ok (.getfield 126, 3) := by decide +kernel
theorem d_BA_reckonCell_19 : decode m_BA_reckonCell.2.1 19 = .ok (.iconst 2, 1) := by decide +kernel
theorem d_BA_reckonCell_20 : decode m_BA_reckonCell.2.1 20 = .ok (.if_icmp .ne 52, 3) := by decide +kernel
theorem d_BA_reckonCell_23 : decode m_BA_reckonCell.2.1 23 = .ok (.aload_n 0, 1) := by decide +kernel
theorem d_BA_reckonCell_24 : decode m_BA_reckonCell.2.1 24 = .ok (.iload_n 1, 1) := by decide +kernel
theorem d_BA_reckonCell_25 : decode m_BA_reckonCell.2.1 25 = .ok (.aload_n 3, 1) := by decide +kernel
theorem d_BA_reckonCell_26 : decode m_BA_reckonCell.2.1 26 = .ok (.getfield 129, 3) := by decide +kernel
theorem d_BA_reckonCell_29 : decode m_BA_reckonCell.2.1 29 = .ok (.invokevirtual 79, 3) := by decide +kernel
theorem d_BA_reckonCell_32 : decode m_BA_reckonCell.2.1 32 = .ok (.getfield 111, 3) := by decide +kernel
theorem d_BA_reckonCell_35 : decode m_BA_reckonCell.2.1 35 = .ok (.istore 5, 2) := by decide +kernel
theorem d_BA_reckonCell_37 : decode m_BA_reckonCell.2.1 37 = .ok (.aload_n 0, 1) := by decide +kernel
theorem d_BA_reckonCell_38 : decode m_BA_reckonCell.2.1 38 = .ok (.getfield 43, 3) := by decide +kernel
theorem d_BA_reckonCell_41 : decode m_BA_reckonCell.2.1 41 = .ok (.iload 5, 2) := by decide +kernel
theorem d_BA_reckonCell_43 : decode m_BA_reckonCell.2.1 43 = .ok (.iload 4, 2) := by decide +kernel
theorem d_BA_reckonCell_45 : decode m_BA_reckonCell.2.1 45 = .ok (.invokevirtual 155, 3) := by decide +kernel
theorem d_BA_reckonCell_48 : decode m_BA_reckonCell.2.1 48 = .ok (.ifCond .eq 21, 3) := by decide +kernel
theorem d_BA_reckonCell_51 : decode m_BA_reckonCell.2.1 51 = .ok (.aload_n 0, 1) := by decide +kernel
theorem d_BA_reckonCell_52 : decode m_BA_reckonCell.2.1 52 = .ok (.getfield 43, 3) := by decide +kernel
theorem d_BA_reckonCell_55 : decode m_BA_reckonCell.2.1 55 = .ok (.iload 5, 2) := by decide +kernel
theorem d_BA_reckonCell_57 : decode m_BA_reckonCell.2.1 57 = .ok (.iload 4, 2) := by decide +kernel
theorem d_BA_reckonCell_59 : decode m_BA_reckonCell.2.1 59 = .ok (.aload_n 3, 1) := by decide +kernel
theorem d_BA_reckonCell_60 : decode m_BA_reckonCell.2.1 60 = .ok (.getfield 132, 3) := by decide +kernel
theorem d_BA_reckonCell_63 : decode m_BA_reckonCell.2.1 63 = .ok (.invokevirtual 159, 3) := by decide +kernel
theorem d_BA_reckonCell_66 : decode m_BA_reckonCell.2.1 66 = .ok (.goto 5, 3) := by decide +kernel
theorem d_BA_reckonCell_69 : decode m_BA_reckonCell.2.1 69 = .ok (.ldc 154, 2) := by decide +kernel
theorem d_BA_reckonCell_71 : decode m_BA_reckonCell.2.1 71 = .ok (.ireturn, 1) := by decide +kernel
theorem d_BA_reckonCell_72 : decode m_BA_reckonCell.2.1 72 = .ok (.aload_n 0, 1) := by decide +kernel
theorem d_BA_reckonCell_73 : decode m_BA_reckonCell.2.1 73 = .ok (.getfield 43, 3) := by decide +kernel
theorem d_BA_reckonCell_76 : decode m_BA_reckonCell.2.1 76 = .ok (.iload_n 1, 1) := by decide +kernel
theorem d_BA_reckonCell_77 : decode m_BA_reckonCell.2.1 77 = .ok (.iload_n 2, 1) := by decide +kernel
theorem d_BA_reckonCell_78 : decode m_BA_reckonCell.2.1 78 = .ok (.aload_n 3, 1) := by decide +kernel
theorem d_BA_reckonCell_79 : decode m_BA_reckonCell.2.1 79 = .ok (.getfield 132, 3) := by decide +kernel
theorem d_BA_reckonCell_82 : decode m_BA_reckonCell.2.1 82 = .ok (.invokevirtual 159, 3) := by decide +kernel
theorem d_BA_reckonCell_85 : decode m_BA_reckonCell.2.1 85 = .ok (.istore 5, 2) := by decide +kernel
theorem d_BA_reckonCell_87 : decode m_BA_reckonCell.2.1 87 = .ok (.iload 4, 2) := by decide +kernel
theorem d_BA_reckonCell_89 : decode m_BA_reckonCell.2.1 89 = .ok (.ldc 154, 2) := by decide +kernel
theorem d_BA_reckonCell_91 : decode m_BA_reckonCell.2.1 91 = .ok (.if_icmp .eq 10, 3) := by decide +kernel
theorem d_BA_reckonCell_94 : decode m_BA_reckonCell.2.1 94 = .ok (.iload 5, 2) := by decide +kernel
theorem d_BA_reckonCell_96 : decode m_BA_reckonCell.2.1 96 = .ok (.ldc 154, 2) := by decide +kernel
theorem d_BA_reckonCell_98 : decode m_BA_reckonCell.2.1 98 = .ok (.if_icmp .ne 6, 3) := by decide +kernel
theorem d_BA_reckonCell_101 : decode m_BA_reckonCell.2.1 101 = .ok (.ldc 154, 2) := by decide +kernel
theorem d_BA_reckonCell_103 : decode m_BA_reckonCell.2.1 103 = .ok (.ireturn, 1) := by decide +kernel
theorem d_BA_reckonCell_104 : decode m_BA_reckonCell.2.1 104 = .ok (.aload_n 3, 1) := by decide +kernel
theorem d_BA_reckonCell_105 : decode m_BA_reckonCell.2.1 105 = .ok (.getfield 126, 3) := by decide +kernel
theorem d_BA_reckonCell_108 : decode m_BA_reckonCell.2.1 108 = .ok (.ifCond .ne 13, 3) := by decide +kernel
theorem d_BA_reckonCell_111 : decode m_BA_reckonCell.2.1 111 = .ok (.iload 4, 2) := by decide +kernel
theorem d_BA_reckonCell_113 : decode m_BA_reckonCell.2.1 113 = .ok (.i2l, 1) := by decide +kernel
theorem d_BA_reckonCell_114 : decode m_BA_reckonCell.2.1 114 = .ok (.iload 5, 2) := by decide +kernel
theorem d_BA_reckonCell_116 : decode m_BA_reckonCell.2.1 116 = .ok (.i2l, 1) := by decide +kernel
theorem d_BA_reckonCell_117 : decode m_BA_reckonCell.2.1 117 = .ok (.ladd, 1) := by decide +kernel
theorem d_BA_reckonCell_118 : decode m_BA_reckonCell.2.1 118 = .ok (.goto 10, 3) := by decide +kernel
theorem d_BA_reckonCell_121 : decode m_BA_reckonCell.2.1 121 = .ok (.iload 4, 2) := by decide +kernel
theorem d_BA_reckonCell_123 : decode m_BA_reckonCell.2.1 123 = .ok (.i2l, 1) := by decide +kernel
theorem d_BA_reckonCell_124 : decode m_BA_reckonCell.2.1 124 = .ok (.iload 5, 2) := by decide +kernel
theorem d_BA_reckonCell_126 : decode m_BA_reckonCell.2.1 126 = .ok (.i2l, 1) := by decide +kernel
theorem d_BA_reckonCell_127 : decode m_BA_reckonCell.2.1 127 = .ok (.lmul, 1) := by decide +kernel
theorem d_BA_reckonCell_128 : decode m_BA_reckonCell.2.1 128 = .ok (.invokestatic 217, 3) := by decide +kernel
theorem d_BA_reckonCell_131 : decode m_BA_reckonCell.2.1 131 = .ok (.ireturn, 1) := by decide +kernel
theorem d_BA_reckonSums_0 : decode m_BA_reckonSums.2.1 0 = .ok (.aload_n 0, 1) := by decide +kernel
theorem d_BA_reckonSums_1 : decode m_BA_reckonSums.2.1 1 = .ok (.getfield 64, 3) := by decide +kernel
theorem d_BA_reckonSums_4 : decode m_BA_reckonSums.2.1 4 = .ok (.iconst 0, 1) := by decide +kernel
theorem d_BA_reckonSums_5 : decode m_BA_reckonSums.2.1 5 = .ok (.invokestatic 221, 3) := by decide +kernel
theorem d_BA_reckonSums_8 : decode m_BA_reckonSums.2.1 8 = .ok (.iconst 0, 1) := by decide +kernel
theorem d_BA_reckonSums_9 : decode m_BA_reckonSums.2.1 9 = .ok (.istore 4, 2) := by decide +kernel
theorem d_BA_reckonSums_11 : decode m_BA_reckonSums.2.1 11 = .ok (.iload 4, 2) := by decide +kernel
theorem d_BA_reckonSums_13 : decode m_BA_reckonSums.2.1 13 = .ok (.bipush 30, 2) := by decide +kernel
theorem d_BA_reckonSums_15 : decode m_BA_reckonSums.2.1 15 = .ok (.if_icmp .ge 101, 3) := by decide +kernel
theorem d_BA_reckonSums_18 : decode m_BA_reckonSums.2.1 18 = .ok (.aload_n 0, 1) := by decide +kernel
theorem d_BA_reckonSums_19 : decode m_BA_reckonSums.2.1 19 = .ok (.getfield 43, 3) := by decide +kernel
theorem d_BA_reckonSums_22 : decode m_BA_reckonSums.2.1 22 = .ok (.aload_n 3, 1) := by decide +kernel
theorem d_BA_reckonSums_23 : decode m_BA_reckonSums.2.1 23 = .ok (.getfield 135, 3) := by decide +kernel
theorem d_BA_reckonSums_26 : decode m_BA_reckonSums.2.1 26 = .ok (.iload 4, 2) := by decide +kernel
theorem d_BA_reckonSums_28 : decode m_BA_reckonSums.2.1 28 = .ok (.aload_n 3, 1) := by decide +kernel
theorem d_BA_reckonSums_29 : decode m_BA_reckonSums.2.1 29 = .ok (.getfield 129, 3) := by decide +kernel
theorem d_BA_reckonSums_32 : decode m_BA_reckonSums.2.1 32 = .ok (.invokevirtual 159, 3) := by decide +kernel
theorem d_BA_reckonSums_35 : decode m_BA_reckonSums.2.1 35 = .ok (.istore 5, 2) := by decide +kernel
theorem d_BA_reckonSums_37 : decode m_BA_reckonSums.2.1 37 = .ok (.aload_n 0, 1) := by decide +kernel
theorem d_BA_reckonSums_38 : decode m_BA_reckonSums.2.1 38 = .ok (.getfield 43, 3) := by decide +kernel
theorem d_BA_reckonSums_41 : decode m_BA_reckonSums.2.1 41 = .ok (.aload_n 3, 1) := by decide +kernel
theorem d_BA_reckonSums_42 : decode m_BA_reckonSums.2.1 42 = .ok (.getfield 135, 3) := by decide +kernel
theorem d_BA_reckonSums_45 : decode m_BA_reckonSums.2.1 45 = .ok (.iload 4, 2) := by decide +kernel
theorem d_BA_reckonSums_47 : decode m_BA_reckonSums.2.1 47 = .ok (.invokevirtual 155, 3) := by decide +kernel
theorem d_BA_reckonSums_50 : decode m_BA_reckonSums.2.1 50 = .ok (.ifCond .eq 60, 3) := by decide +kernel
theorem d_BA_reckonSums_53 : decode m_BA_reckonSums.2.1 53 = .ok (.iload 5, 2) := by decide +kernel
theorem d_BA_reckonSums_55 : decode m_BA_reckonSums.2.1 55 = .ok (.ifCond .lt 55, 3) := by decide +kernel
theorem d_BA_reckonSums_58 : decode m_BA_reckonSums.2.1 58 = .ok (.iload 5, 2) := by decide +kernel
theorem d_BA_reckonSums_60 : decode m_BA_reckonSums.2.1 60 = .ok (.aload_n 0, 1) := by decide +kernel
theorem d_BA_reckonSums_61 : decode m_BA_reckonSums.2.1 61 = .ok (.getfield 64, 3) := by decide +kernel
theorem d_BA_reckonSums_64 : decode m_BA_reckonSums.2.1 64 = .ok (.arraylength, 1) := by decide +kernel
theorem d_BA_reckonSums_65 : decode m_BA_reckonSums.2.1 65 = .ok (.if_icmp .ge 45, 3) := by decide +kernel
theorem d_BA_reckonSums_68 : decode m_BA_reckonSums.2.1 68 = .ok (.aload_n 0, 1) := by decide +kernel
theorem d_BA_reckonSums_69 : decode m_BA_reckonSums.2.1 69 = .ok (.getfield 64, 3) := by decide +kernel
theorem d_BA_reckonSums_72 : decode m_BA_reckonSums.2.1 72 = .ok (.iload 5, 2) := by decide +kernel
theorem d_BA_reckonSums_74 : decode m_BA_reckonSums.2.1 74 = .ok (.dup2, 1) := by decide +kernel
theorem d_BA_reckonSums_75 : decode m_BA_reckonSums.2.1 75 = .ok (.iaload, 1) := by decide +kernel
theorem d_BA_reckonSums_76 : decode m_BA_reckonSums.2.1 76 = .ok (.aload_n 3, 1) := by decide +kernel
theorem d_BA_reckonSums_77 : decode m_BA_reckonSums.2.1 77 = .ok (.getfield 126, 3) := by decide +kernel
theorem d_BA_reckonSums_80 : decode m_BA_reckonSums.2.1 80 = .ok (.iconst 4, 1) := by decide +kernel
theorem d_BA_reckonSums_81 : decode m_BA_reckonSums.2.1 81 = .ok (.if_icmp .ne 7, 3) := by decide +kernel
theorem d_BA_reckonSums_84 : decode m_BA_reckonSums.2.1 84 = .ok (.iconst 1, 1) := by decide +kernel
theorem d_BA_reckonSums_85 : decode m_BA_reckonSums.2.1 85 = .ok (.goto 23, 3) := by decide +kernel
theorem d_BA_reckonSums_88 : decode m_BA_reckonSums.2.1 88 = .ok (.aload_n 0, 1) := by decide +kernel
theorem d_BA_reckonSums_89 : decode m_BA_reckonSums.2.1 89 = .ok (.getfield 43, 3) := by decide +kernel
theorem d_BA_reckonSums_92 : decode m_BA_reckonSums.2.1 92 = .ok (.aload_n 3, 1) := by decide +kernel
theorem d_BA_reckonSums_93 : decode m_BA_reckonSums.2.1 93 = .ok (.getfield 135, 3) := by decide +kernel
theorem d_BA_reckonSums_96 : decode m_BA_reckonSums.2.1 96 = .ok (.iload 4, 2) := by decide +kernel
theorem d_BA_reckonSums_98 : decode m_BA_reckonSums.2.1 98 = .ok (.aload_n 3, 1) := by decide +kernel
theorem d_BA_reckonSums_99 : decode m_BA_reckonSums.2.1 99 = .ok (.getfield 132, 3) := by decide +kernel
theorem d_BA_reckonSums_102 : decode m_BA_reckonSums.2.1 102 = .ok (.invokevirtual 159, 3) := by decide +kernel
theorem d_BA_reckonSums_105 : decode m_BA_reckonSums.2.1 105 = .ok (.invokestatic 227, 3) := by decide +kernel
theorem d_BA_reckonSums_108 : decode m_BA_reckonSums.2.1 108 = .ok (.iadd, 1) := by decide +kernel
theorem d_BA_reckonSums_109 : decode m_BA_reckonSums.2.1 109 = .ok (.iastore, 1) := by decide +kernel
theorem d_BA_reckonSums_110 : decode m_BA_reckonSums.2.1 110 = .ok (.iinc 4 1, 3) := by decide +kernel
theorem d_BA_reckonSums_113 : decode m_BA_reckonSums.2.1 113 = .ok (.goto (-102), 3) := by decide +kernel
theorem d_BA_reckonSums_116 : decode m_BA_reckonSums.2.1 116 = .ok (.iconst 0, 1) := by decide +kernel
theorem d_BA_reckonSums_117 : decode m_BA_reckonSums.2.1 117 = .ok (.istore 4, 2) := by decide +kernel
theorem d_BA_reckonSums_119 : decode m_BA_reckonSums.2.1 119 = .ok (.iload 4, 2) := by decide +kernel
theorem d_BA_reckonSums_121 : decode m_BA_reckonSums.2.1 121 = .ok (.aload_n 0, 1) := by decide +kernel
theorem d_BA_reckonSums_122 : decode m_BA_reckonSums.2.1 122 = .ok (.getfield 64, 3) := by decide +kernel
theorem d_BA_reckonSums_125 : decode m_BA_reckonSums.2.1 125 = .ok (.arraylength, 1) := by decide +kernel
theorem d_BA_reckonSums_126 : decode m_BA_reckonSums.2.1 126 = .ok (.if_icmp .ge 44, 3) := by decide +kernel
theorem d_BA_reckonSums_129 : decode m_BA_reckonSums.2.1 129 = .ok (.aload_n 0, 1) := by decide +kernel
theorem d_BA_reckonSums_130 : decode m_BA_reckonSums.2.1 130 = .ok (.getfield 43, 3) := by decide +kernel
theorem d_BA_reckonSums_133 : decode m_BA_reckonSums.2.1 133 = .ok (.iload_n 1, 1) := by decide +kernel
theorem d_BA_reckonSums_134 : decode m_BA_reckonSums.2.1 134 = .ok (.iload 4, 2) := by decide +kernel
theorem d_BA_reckonSums_136 : decode m_BA_reckonSums.2.1 136 = .ok (.invokevirtual 155, 3) := by decide +kernel
theorem d_BA_reckonSums_139 : decode m_BA_reckonSums.2.1 139 = .ok (.ifCond .eq 25, 3) := by decide +kernel
theorem d_BA_reckonSums_142 : decode m_BA_reckonSums.2.1 142 = .ok (.aload_n 0, 1) := by decide +kernel
theorem d_BA_reckonSums_143 : decode m_BA_reckonSums.2.1 143 = .ok (.getfield 43, 3) := by decide +kernel
theorem d_BA_reckonSums_146 : decode m_BA_reckonSums.2.1 146 = .ok (.iload_n 1, 1) := by decide +kernel
theorem d_BA_reckonSums_147 : decode m_BA_reckonSums.2.1 147 = .ok (.iload 4, 2) := by decide +kernel
theorem d_BA_reckonSums_149 : decode m_BA_reckonSums.2.1 149 = .ok (.iload_n 2, 1) := by decide +kernel
theorem d_BA_reckonSums_150 : decode m_BA_reckonSums.2.1 150 = .ok (.aload_n 0, 1) := by decide +kernel
theorem d_BA_reckonSums_151 : decode m_BA_reckonSums.2.1 151 = .ok (.getfield 64, 3) := by decide +kernel
theorem d_BA_reckonSums_154 : decode m_BA_reckonSums.2.1 154 = .ok (.iload 4, 2) := by decide +kernel
theorem d_BA_reckonSums_156 : decode m_BA_reckonSums.2.1 156 = .ok (.iaload, 1) := by decide +kernel
theorem d_BA_reckonSums_157 : decode m_BA_reckonSums.2.1 157 = .ok (.i2l, 1) := by decide +kernel
theorem d_BA_reckonSums_158 : decode m_BA_reckonSums.2.1 158 = .ok (.invokestatic 217, 3) := by decide +kernel
theorem d_BA_reckonSums_161 : decode m_BA_reckonSums.2.1 161 = .ok (.invokevirtual 166, 3) := by decide +kernel
theorem d_BA_reckonSums_164 : decode m_BA_reckonSums.2.1 164 = .ok (.iinc 4 1, 3) := by decide +kernel
theorem d_BA_reckonSums_167 : decode m_BA_reckonSums.2.1 167 = .ok (.goto (-48), 3) := by decide +kernel
theorem d_BA_reckonSums_170 : decode m_BA_reckonSums.2.1 170 = .ok (.return_, 1) := by decide +kernel
theorem d_BA_countBroken_0 : decode m_BA_countBroken.2.1 0 = .ok (.iconst 0, 1) := by decide +kernel
theorem d_BA_countBroken_1 : decode m_BA_countBroken.2.1 1 = .ok (.istore_n 2, 1) := by decide +kernel
theorem d_BA_countBroken_2 : decode m_BA_countBroken.2.1 2 = .ok (.aload_n 0, 1) := by decide +kernel
theorem d_BA_countBroken_3 : decode m_BA_countBroken.2.1 3 = .ok (.getfield 53, 3) := by decide +kernel
theorem d_BA_countBroken_6 : decode m_BA_countBroken.2.1 6 = .ok (.invokevirtual 230, 3) := by decide +kernel
theorem d_BA_countBroken_9 : decode m_BA_countBroken.2.1 9 = .ok (.iconst 0, 1) := by decide +kernel
theorem d_BA_countBroken_10 : decode m_BA_countBroken.2.1 10 = .ok (.istore_n 3, 1) := by decide +kernel
theorem d_BA_countBroken_11 : decode m_BA_countBroken.2.1 11 = .ok (.iload_n 3, 1) := by decide +kernel
theorem d_BA_countBroken_12 : decode m_BA_countBroken.2.1 12 = .ok (.aload_n 0, 1) := by decide +kernel
theorem d_BA_countBroken_13 : decode m_BA_countBroken.2.1 13 = .ok (.getfield 67, 3) := by decide +kernel
theorem d_BA_countBroken_16 : decode m_BA_countBroken.2.1 16 = .ok (.if_icmp .ge 87, 3) := by decide +kernel
theorem d_BA_countBroken_19 : decode m_BA_countBroken.2.1 19 = .ok (.iconst 0, 1) := by decide +kernel
theorem d_BA_countBroken_20 : decode m_BA_countBroken.2.1 20 = .ok (.istore 4, 2) := by decide +kernel
theorem d_BA_countBroken_22 : decode m_BA_countBroken.2.1 22 = .ok (.iload 4, 2) := by decide +kernel
theorem d_BA_countBroken_24 : decode m_BA_countBroken.2.1 24 = .ok (.bipush 30, 2) := by decide +kernel
theorem d_BA_countBroken_26 : decode m_BA_countBroken.2.1 26 = .ok (.if_icmp .ge 71, 3) := by decide +kernel
theorem d_BA_countBroken_29 : decode m_BA_countBroken.2.1 29 = .ok (.iload_n 1, 1) := by decide +kernel
theorem d_BA_countBroken_30 : decode m_BA_countBroken.2.1 30 = .ok (.ifCond .ne 7, 3) := by decide +kernel
theorem d_BA_countBroken_33 : decode m_BA_countBroken.2.1 33 = .ok (.iload_n 2, 1) := by decide +kernel
theorem d_BA_countBroken_34 : decode m_BA_countBroken.2.1 34 = .ok (.ifCond .ne 63, 3) := by decide +kernel
theorem d_BA_countBroken_37 : decode m_BA_countBroken.2.1 37 = .ok (.aload_n 0, 1) := by decide +kernel
theorem d_BA_countBroken_38 : decode m_BA_countBroken.2.1 38 = .ok (.getfield 43, 3) := by decide +kernel
theorem d_BA_countBroken_41 : decode m_BA_countBroken.2.1 41 = .ok (.iload_n 3, 1) := by decide +kernel
theorem d_BA_countBroken_42 : decode m_BA_countBroken.2.1 42 = .ok (.iload 4, 2) := by decide +kernel
theorem d_BA_countBroken_44 : decode m_BA_countBroken.2.1 44 = .ok (.invokevirtual 155, 3) := by decide +kernel
theorem d_BA_countBroken_47 : decode m_BA_countBroken.2.1 47 = .ok (.ifCond .eq 44, 3) := by decide +kernel
theorem d_BA_countBroken_50 : decode m_BA_countBroken.2.1 50 = .ok (.iconst 0, 1) := by decide +kernel
theorem d_BA_countBroken_51 : decode m_BA_countBroken.2.1 51 = .ok (.istore 5, 2) := by decide +kernel
theorem d_BA_countBroken_53 : decode m_BA_countBroken.2.1 53 = .ok (.iload 5, 2) := by decide +kernel
theorem d_BA_countBroken_55 : decode m_BA_countBroken.2.1 55 = .ok (.aload_n 0, 1) := by decide +kernel
theorem d_BA_countBroken_56 : decode m_BA_countBroken.2.1 56 = .ok (.iload_n 3, 1) := by decide +kernel
theorem d_BA_countBroken_57 : decode m_BA_countBroken.2.1 57 = .ok (.invokevirtual 75, 3) := by decide +kernel
theorem d_BA_countBroken_60 : decode m_BA_countBroken.2.1 60 = .ok (.if_icmp .ge 21, 3) := by decide +kernel
theorem d_BA_countBroken_63 : decode m_BA_countBroken.2.1 63 = .ok (.iload_n 2, 1) := by decide +kernel
theorem d_BA_countBroken_64 : decode m_BA_countBroken.2.1 64 = .ok (.aload_n 0, 1) := by decide +kernel
theorem d_BA_countBroken_65 : decode m_BA_countBroken.2.1 65 = .ok (.iload_n 3, 1) := by decide +kernel
theorem d_BA_countBroken_66 : decode m_BA_countBroken.2.1 66 = .ok (.iload 4, 2) := by decide +kernel
theorem d_BA_countBroken_68 : decode m_BA_countBroken.2.1 68 = .ok (.iload 5, 2) := by decide +kernel
theorem d_BA_countBroken_70 : decode m_BA_countBroken.2.1 70 = .ok (.invokevirtual 233, 3) := by decide +kernel
theorem d_BA_countBroken_73 : decode m_BA_countBroken.2.1 73 = .ok (.iadd, 1) := by decide +kernel
theorem d_BA_countBroken_74 : decode m_BA_countBroken.2.1 74 = .ok (.istore_n 2, 1) := by decide +kernel
theorem d_BA_countBroken_75 : decode m_BA_countBroken.2.1 75 = .ok (.iinc 5 1, 3) := by decide +kernel
theorem d_BA_countBroken_78 : decode m_BA_countBroken.2.1 78 = .ok (.goto (-25), 3) := by decide +kernel
theorem d_BA_countBroken_81 : decode m_BA_countBroken.2.1 81 = .ok (.iload_n 2, 1) := by decide +kernel
theorem d_BA_countBroken_82 : decode m_BA_countBroken.2.1 82 = .ok (.aload_n 0, 1) := by decide +kernel
theorem d_BA_countBroken_83 : decode m_BA_countBroken.2.1 83 = .ok (.iload_n 3, 1) := by decide +kernel
theorem d_BA_countBroken_84 : decode m_BA_countBroken.2.1 84 = .ok (.iload 4, 2) := by decide +kernel
theorem d_BA_countBroken_86 : decode m_BA_countBroken.2.1 86 = .ok (.invokevirtual 236, 3) := by decide +kernel
theorem d_BA_countBroken_89 : decode m_BA_countBroken.2.1 89 = .ok (.iadd, 1) := by decide +kernel
theorem d_BA_countBroken_90 : decode m_BA_countBroken.2.1 90 = .ok (.istore_n 2, 1) := by decide +kernel
theorem d_BA_countBroken_91 : decode m_BA_countBroken.2.1 91 = .ok (.iinc 4 1, 3) := by decide +kernel
theorem d_BA_countBroken_94 : decode m_BA_countBroken.2.1 94 = .ok (.goto (-72), 3) := by decide +kernel
theorem d_BA_countBroken_97 : decode m_BA_countBroken.2.1 97 = .ok (.iinc 3 1, 3) := by decide +kernel
theorem d_BA_countBroken_100 : decode m_BA_countBroken.2.1 100 = .ok (.goto (-89), 3) := by decide +kernel
theorem d_BA_countBroken_103 : decode m_BA_countBroken.2.1 103 = .ok (.iload_n 2, 1) := by decide +kernel
theorem d_BA_countBroken_104 : decode m_BA_countBroken.2.1 104 = .ok (.ireturn, 1) := by decide +kernel
theorem d_BA_brokenInCell_0 : decode m_BA_brokenInCell.2.1 0 = .ok (.aload_n 0, 1) := by decide +kernel
theorem d_BA_brokenInCell_1 : decode m_BA_brokenInCell.2.1 1 = .ok (.iload_n 1, 1) := by decide +kernel
theorem d_BA_brokenInCell_2 : decode m_BA_brokenInCell.2.1 2 = .ok (.iload_n 3, 1) := by decide +kernel
theorem d_BA_brokenInCell_3 : decode m_BA_brokenInCell.2.1 3 = .ok (.invokevirtual 79, 3) := by decide +kernel
theorem d_BA_brokenInCell_6 : decode m_BA_brokenInCell.2.1 6 = .ok (.astore 4, 2) := by decide +kernel
theorem d_BA_brokenInCell_8 : decode m_BA_brokenInCell.2.1 8 = .ok (.aload_n 0, 1) := by decide +kernel
theorem d_BA_brokenInCell_9 : decode m_BA_brokenInCell.2.1 9 = .ok (.getfield 43, 3) := by decide +kernel
theorem d_BA_brokenInCell_12 : decode m_BA_brokenInCell.2.1 12 = .ok (.iload_n 1, 1) := by decide +kernel
theorem d_BA_brokenInCell_13 : decode m_BA_brokenInCell.2.1 13 = .ok (.iload_n 2, 1) := by decide +kernel
theorem d_BA_brokenInCell_14 : decode m_BA_brokenInCell.2.1 14 = .ok (.iload_n 3, 1) := by decide +kernel
theorem d_BA_brokenInCell_15 : decode m_BA_brokenInCell.2.1 15 = .ok (.invokevirtual 159, 3) := by decide +kernel
theorem d_BA_brokenInCell_18 : decode m_BA_brokenInCell.2.1 18 = .ok (.istore 5, 2) := by decide +kernel
theorem d_BA_brokenInCell_20 : decode m_BA_brokenInCell.2.1 20 = .ok (.iconst 0, 1) := by decide +kernel
theorem d_BA_brokenInCell_21 : decode m_BA_brokenInCell.2.1 21 = .ok (.istore 6, 2) := by decide +kernel
theorem d_BA_brokenInCell_23 : decode m_BA_brokenInCell.2.1 23 = .ok (.aload 4, 2) := by decide +kernel
theorem d_BA_brokenInCell_25 : decode m_BA_brokenInCell.2.1 25 = .ok (.getfield 98, 3) := by decide +kernel
theorem d_BA_brokenInCell_28 : decode m_BA_brokenInCell.2.1 28 = .ok (.iconst 1, 1) := by decide +kernel
theorem d_BA_brokenInCell_29 : decode m_BA_brokenInCell.2.1 29 = .ok (.if_icmp .ne 36, 3) := by decide +kernel
theorem d_BA_brokenInCell_32 : decode m_BA_brokenInCell.2.1 32 = .ok (.aload_n 0, 1) := by decide +kernel
theorem d_BA_brokenInCell_33 : decode m_BA_brokenInCell.2.1 33 = .ok (.iload 5, 2) := by decide +kernel
theorem d_BA_brokenInCell_35 : decode m_BA_brokenInCell.2.1 35 = .ok (.aload 4, 2) := by decide +kernel
theorem d_BA_brokenInCell_37 : decode m_BA_brokenInCell.2.1 37 = .ok (.getfield 105, 3) := by decide +kernel
theorem d_BA_brokenInCell_40 : decode m_BA_brokenInCell.2.1 40 = .ok (.aload 4, 2) := by decide +kernel
theorem d_BA_brokenInCell_42 : decode m_BA_brokenInCell.2.1 42 = .ok (.getfield 108, 3) := by decide +kernel
theorem d_BA_brokenInCell_45 : decode m_BA_brokenInCell.2.1 45 = .ok (.invokevirtual 163, 3) := by decide +kernel
theorem d_BA_brokenInCell_48 : decode m_BA_brokenInCell.2.1 48 = .ok (.ifCond .eq 17, 3) := by decide +kernel
theorem d_BA_brokenInCell_51 : decode m_BA_brokenInCell.2.1 51 = .ok (.aload_n 0, 1) := by decide +kernel
theorem d_BA_brokenInCell_52 : decode m_BA_brokenInCell.2.1 52 = .ok (.getfield 53, 3) := by decide +kernel
theorem d_BA_brokenInCell_55 : decode m_BA_brokenInCell.2.1 55 = .ok (.iconst 1, 1) := by decide +kernel
theorem d_BA_brokenInCell_56 : decode m_BA_brokenInCell.2.1 56 = .ok (.iload_n 1, 1) := by decide +kernel
theorem d_BA_brokenInCell_57 : decode m_BA_brokenInCell.2.1 57 = .ok (.iload_n 2, 1) := by decide +kernel
theorem d_BA_brokenInCell_58 : decode m_BA_brokenInCell.2.1 58 = .ok (.iload_n 3, 1) := by decide +kernel
theorem d_BA_brokenInCell_59 : decode m_BA_brokenInCell.2.1 59 = .ok (.invokevirtual 239, 3) := by decide +kernel
theorem d_BA_brokenInCell_62 : decode m_BA_brokenInCell.2.1 62 = .ok (.iinc 6 1, 3) := by decide +kernel
theorem d_BA_brokenInCell_65 : decode m_BA_brokenInCell.2.1 65 = .ok (.aload 4, 2) := by decide +kernel
theorem d_BA_brokenInCell_67 : decode m_BA_brokenInCell.2.1 67 = .ok (.getfield 148, 3) := by decide +kernel
theorem d_BA_brokenInCell_70 : decode m_BA_brokenInCell.2.1 70 = .ok (.ifCond .eq 24, 3) := by decide +kernel
theorem d_BA_brokenInCell_73 : decode m_BA_brokenInCell.2.1 73 = .ok (.iload 5, 2) := by decide +kernel
theorem d_BA_brokenInCell_75 : decode m_BA_brokenInCell.2.1 75 = .ok (.ldc 154, 2) := by decide +kernel
theorem d_BA_brokenInCell_77 : decode m_BA_brokenInCell.2.1 77 = .ok (.if_icmp .ne 17, 3) := by decide +kernel
theorem d_BA_brokenInCell_80 : decode m_BA_brokenInCell.2.1 80 = .ok (.aload_n 0, 1) := by decide +kernel
theorem d_BA_brokenInCell_81 : decode m_BA_brokenInCell.2.1 81 = .ok (.getfield 53, 3) := by decide +kernel
theorem d_BA_brokenInCell_84 : decode m_BA_brokenInCell.2.1 84 = .ok (.iconst 2, 1) := by decide +kernel
theorem d_BA_brokenInCell_85 : decode m_BA_brokenInCell.2.1 85 = .ok (.iload_n 1, 1) := by decide +kernel
theorem d_BA_brokenInCell_86 : decode m_BA_brokenInCell.2.1 86 = .ok (.iload_n 2, 1) := by decide +kernel
theorem d_BA_brokenInCell_87 : decode m_BA_brokenInCell.2.1 87 = .ok (.iload_n 3, 1) := by decide +kernel
theorem d_BA_brokenInCell_88 : decode m_BA_brokenInCell.2.1 88 = .ok (.invokevirtual 239, 3) := by decide +kernel
theorem d_BA_brokenInCell_91 : decode m_BA_brokenInCell.2.1 91 = .ok (.iinc 6 1, 3) := by decide +kernel
theorem d_BA_brokenInCell_94 : decode m_BA_brokenInCell.2.1 94 = .ok (.aload 4, 2) := by decide +kernel
theorem d_BA_brokenInCell_96 : decode m_BA_brokenInCell.2.1 96 = .ok (.getfield 151, 3) := by decide +kernel
theorem d_BA_brokenInCell_99 : decode m_BA_brokenInCell.2.1 99 = .ok (.ifCond .eq 37, 3) := by decide +kernel
theorem d_BA_brokenInCell_102 : decode m_BA_brokenInCell.2.1 102 = .ok (.iload 5, 2) := by decide +kernel
theorem d_BA_brokenInCell_104 : decode m_BA_brokenInCell.2.1 104 = .ok (.ldc 154, 2) := by decide +kernel
theorem d_BA_brokenInCell_106 : decode m_BA_brokenInCell.2.1 106 = .ok (.if_icmp .eq 30, 3) := by decide +kernel
theorem d_BA_brokenInCell_109 : decode m_BA_brokenInCell.2.1 109 = .ok (.aload_n 0, 1) := by decide +kernel
theorem d_BA_brokenInCell_110 : decode m_BA_brokenInCell.2.1 110 = .ok (.getfield 43, 3) := by decide +kernel
theorem d_BA_brokenInCell_113 : decode m_BA_brokenInCell.2.1 113 = .ok (.iload_n 1, 1) := by decide +kernel
theorem d_BA_brokenInCell_114 : decode m_BA_brokenInCell.2.1 114 = .ok (.iload_n 2, 1) := by decide +kernel
theorem d_BA_brokenInCell_115 : decode m_BA_brokenInCell.2.1 115 = .ok (.iload_n 3, 1) := by decide +kernel
theorem d_BA_brokenInCell_116 : decode m_BA_brokenInCell.2.1 116 = .ok (.invokevirtual 242, 3) := by decide +kernel
theorem d_BA_brokenInCell_119 : decode m_BA_brokenInCell.2.1 119 = .ok (.ifCond .eq 17, 3) := by decide +kernel
theorem d_BA_brokenInCell_122 : decode m_BA_brokenInCell.2.1 122 = .ok (.aload_n 0, 1) := by decide +kernel
theorem d_BA_brokenInCell_123 : decode m_BA_brokenInCell.2.1 123 = .ok (.getfield 53, 3) := by decide +kernel
theorem d_BA_brokenInCell_126 : decode m_BA_brokenInCell.2.1 126 = .ok (.iconst 3, 1) := by decide +kernel
theorem d_BA_brokenInCell_127 : decode m_BA_brokenInCell.2.1 127 = .ok (.iload_n 1, 1) := by decide +kernel
theorem d_BA_brokenInCell_128 : decode m_BA_brokenInCell.2.1 128 = .ok (.iload_n 2, 1) := by decide +kernel
theorem d_BA_brokenInCell_129 : decode m_BA_brokenInCell.2.1 129 = .ok (.iload_n 3, 1) := by decide +kernel
theorem d_BA_brokenInCell_130 : decode m_BA_brokenInCell.2.1 130 = .ok (.invokevirtual 239, 3) := by decide +kernel
theorem d_BA_brokenInCell_133 : decode m_BA_brokenInCell.2.1 133 = .ok (.iinc 6 1, 3) := by decide +kernel
theorem d_BA_brokenInCell_136 : decode m_BA_brokenInCell.2.1 136 = .ok (.aload 4, 2) := by decide +kernel
theorem d_BA_brokenInCell_138 : decode m_BA_brokenInCell.2.1 138 = .ok (.getfield 98, 3) := by decide +kernel
theorem d_BA_brokenInCell_141 : decode m_BA_brokenInCell.2.1 141 = .ok (.iconst 2, 1) := by decide +kernel
theorem d_BA_brokenInCell_142 : decode m_BA_brokenInCell.2.1 142 = .ok (.if_icmp .ne 41, 3) := by decide +kernel
theorem d_BA_brokenInCell_145 : decode m_BA_brokenInCell.2.1 145 = .ok (.iload 5, 2) := by decide +kernel
theorem d_BA_brokenInCell_147 : decode m_BA_brokenInCell.2.1 147 = .ok (.ldc 154, 2) := by decide +kernel
theorem d_BA_brokenInCell_149 : decode m_BA_brokenInCell.2.1 149 = .ok (.if_icmp .eq 34, 3) := by decide +kernel
theorem d_BA_brokenInCell_152 : decode m_BA_brokenInCell.2.1 152 = .ok (.aload_n 0, 1) := by decide +kernel
theorem d_BA_brokenInCell_153 : decode m_BA_brokenInCell.2.1 153 = .ok (.getfield 43, 3) := by decide +kernel
theorem d_BA_brokenInCell_156 : decode m_BA_brokenInCell.2.1 156 = .ok (.aload 4, 2) := by decide +kernel
theorem d_BA_brokenInCell_158 : decode m_BA_brokenInCell.2.1 158 = .ok (.getfield 111, 3) := by decide +kernel
theorem d_BA_brokenInCell_161 : decode m_BA_brokenInCell.2.1 161 = .ok (.iload 5, 2) := by decide +kernel
theorem d_BA_brokenInCell_163 : decode m_BA_brokenInCell.2.1 163 = .ok (.invokevirtual 155, 3) := by decide +kernel
theorem d_BA_brokenInCell_166 : decode m_BA_brokenInCell.2.1 166 = .ok (.ifCond .ne 17, 3) := by decide +kernel
theorem d_BA_brokenInCell_169 : decode m_BA_brokenInCell.2.1 169 = .ok (.aload_n 0, 1) := by decide +kernel
theorem d_BA_brokenInCell_170 : decode m_BA_brokenInCell.2.1 170 = .ok (.getfield 53, 3) := by decide +kernel
theorem d_BA_brokenInCell_173 : decode m_BA_brokenInCell.2.1 173 = .ok (.iconst 4, 1) := by decide +kernel
theorem d_BA_brokenInCell_174 : decode m_BA_brokenInCell.2.1 174 = .ok (.iload_n 1, 1) := by decide +kernel
theorem d_BA_brokenInCell_175 : decode m_BA_brokenInCell.2.1 175 = .ok (.iload_n 2, 1) := by decide +kernel
theorem d_BA_brokenInCell_176 : decode m_BA_brokenInCell.2.1 176 = .ok (.iload_n 3, 1) := by decide +kernel
theorem d_BA_brokenInCell_177 : decode m_BA_brokenInCell.2.1 177 = .ok (.invokevirtual 239, 3) := by decide +kernel
theorem d_BA_brokenInCell_180 : decode m_BA_brokenInCell.2.1 180 = .ok (.iinc 6 1, 3) := by decide +kernel
theorem d_BA_brokenInCell_183 : decode m_BA_brokenInCell.2.1 183 = .ok (.iload 6, 2) := by decide +kernel
theorem d_BA_brokenInCell_185 : decode m_BA_brokenInCell.2.1 185 = .ok (.ireturn, 1) := by decide +kernel
theorem d_BA_brokenRules_0 : decode m_BA_brokenRules.2.1 0 = .ok (.iconst 0, 1) := by decide +kernel
theorem d_BA_brokenRules_1 : decode m_BA_brokenRules.2.1 1 = .ok (.istore_n 3, 1) := by decide +kernel
theorem d_BA_brokenRules_2 : decode m_BA_brokenRules.2.1 2 = .ok (.iconst 0, 1) := by decide +kernel
theorem d_BA_brokenRules_3 : decode m_BA_brokenRules.2.1 3 = .ok (.istore 4, 2) := by decide +kernel
theorem d_BA_brokenRules_5 : decode m_BA_brokenRules.2.1 5 = .ok (.iload 4, 2) := by decide +kernel
theorem d_BA_brokenRules_7 : decode m_BA_brokenRules.2.1 7 = .ok (.aload_n 0, 1) := by decide +kernel
theorem d_BA_brokenRules_8 : decode m_BA_brokenRules.2.1 8 = .ok (.getfield 87, 3) := by decide +kernel
theorem d_BA_brokenRules_11 : decode m_BA_brokenRules.2.1 11 = .ok (.if_icmp .ge 93, 3) := by decide +kernel
theorem d_BA_brokenRules_14 : decode m_BA_brokenRules.2.1 14 = .ok (.iload 4, 2) := by decide +kernel
theorem d_BA_brokenRules_16 : decode m_BA_brokenRules.2.1 16 = .ok (.bipush 8, 2) := by decide +kernel
theorem d_BA_brokenRules_18 : decode m_BA_brokenRules.2.1 18 = .ok (.if_icmp .ge 86, 3) := by decide +kernel
theorem d_BA_brokenRules_21 : decode m_BA_brokenRules.2.1 21 = .ok (.aload_n 0, 1) := by decide +kernel
theorem d_BA_brokenRules_22 : decode m_BA_brokenRules.2.1 22 = .ok (.getfield 28, 3) := by decide +kernel
theorem d_BA_brokenRules_25 : decode m_BA_brokenRules.2.1 25 = .ok (.iload 4, 2) := by decide +kernel
theorem d_BA_brokenRules_27 : decode m_BA_brokenRules.2.1 27 = .ok (.aaload, 1) := by decide +kernel
theorem d_BA_brokenRules_28 : decode m_BA_brokenRules.2.1 28 = .ok (.astore 5, 2) := by decide +kernel
theorem d_BA_brokenRules_30 : decode m_BA_brokenRules.2.1 30 = .ok (.aload 5, 2) := by decide +kernel
theorem d_BA_brokenRules_32 : decode m_BA_brokenRules.2.1 32 = .ok (.getfield 90, 3) := by decide +kernel
theorem d_BA_brokenRules_35 : decode m_BA_brokenRules.2.1 35 = .ok (.ifCond .ne 63, 3) := by decide +kernel
theorem d_BA_brokenRules_38 : decode m_BA_brokenRules.2.1 38 = .ok (.aload 5, 2) := by decide +kernel
theorem d_BA_brokenRules_40 : decode m_BA_brokenRules.2.1 40 = .ok (.getfield 171, 3) := by decide +kernel
theorem d_BA_brokenRules_43 : decode m_BA_brokenRules.2.1 43 = .ok (.iload_n 1, 1) := by decide +kernel
theorem d_BA_brokenRules_44 : decode m_BA_brokenRules.2.1 44 = .ok (.if_icmp .ne 54, 3) := by decide +kernel
theorem d_BA_brokenRules_47 : decode m_BA_brokenRules.2.1 47 = .ok (.aload 5, 2) := by decide +kernel
theorem d_BA_brokenRules_49 : decode m_BA_brokenRules.2.1 49 = .ok (.aload_n 0, 1) := by decide +kernel
theorem d_BA_brokenRules_50 : decode m_BA_brokenRules.2.1 50 = .ok (.getfield 43, 3) := by decide +kernel
theorem d_BA_brokenRules_53 : decode m_BA_brokenRules.2.1 53 = .ok (.iload_n 1, 1) := by decide +kernel
theorem d_BA_brokenRules_54 : decode m_BA_brokenRules.2.1 54 = .ok (.iload_n 2, 1) := by decide +kernel
theorem d_BA_brokenRules_55 : decode m_BA_brokenRules.2.1 55 = .ok (.aload 5, 2) := by decide +kernel
theorem d_BA_brokenRules_57 : decode m_BA_brokenRules.2.1 57 = .ok (.getfield 174, 3) := by decide +kernel
theorem d_BA_brokenRules_60 : decode m_BA_brokenRules.2.1 60 = .ok (.invokevirtual 159, 3) := by decide +kernel
theorem d_BA_brokenRules_63 : decode m_BA_brokenRules.2.1 63 = .ok (.aload_n 0, 1) := by decide +kernel
theorem d_BA_brokenRules_64 : decode m_BA_brokenRules.2.1 64 = .ok (.getfield 43, 3) := by decide +kernel
theorem d_BA_brokenRules_67 : decode m_BA_brokenRules.2.1 67 = .ok (.iload_n 1, 1) := by decide +kernel
theorem d_BA_brokenRules_68 : decode m_BA_brokenRules.2.1 68 = .ok (.iload_n 2, 1) := by decide +kernel
theorem d_BA_brokenRules_69 : decode m_BA_brokenRules.2.1 69 = .ok (.aload 5, 2) := by decide +kernel
theorem d_BA_brokenRules_71 : decode m_BA_brokenRules.2.1 71 = .ok (.getfield 178, 3) := by decide +kernel
theorem d_BA_brokenRules_74 : decode m_BA_brokenRules.2.1 74 = .ok (.invokevirtual 159, 3) := by decide +kernel
theorem d_BA_brokenRules_77 : decode m_BA_brokenRules.2.1 77 = .ok (.invokevirtual 245, 3) := by decide +kernel
theorem d_BA_brokenRules_80 : decode m_BA_brokenRules.2.1 80 = .ok (.ifCond .ne 18, 3) := by decide +kernel
theorem d_BA_brokenRules_83 : decode m_BA_brokenRules.2.1 83 = .ok (.aload_n 0, 1) := by decide +kernel
theorem d_BA_brokenRules_84 : decode m_BA_brokenRules.2.1 84 = .ok (.getfield 53, 3) := by decide +kernel
theorem d_BA_brokenRules_87 : decode m_BA_brokenRules.2.1 87 = .ok (.iconst 5, 1) := by decide +kernel
theorem d_BA_brokenRules_88 : decode m_BA_brokenRules.2.1 88 = .ok (.iload_n 1, 1) := by decide +kernel
theorem d_BA_brokenRules_89 : decode m_BA_brokenRules.2.1 89 = .ok (.iload_n 2, 1) := by decide +kernel
theorem d_BA_brokenRules_90 : decode m_BA_brokenRules.2.1 90 = .ok (.iload 4, 2) := by decide +kernel
theorem d_BA_brokenRules_92 : decode m_BA_brokenRules.2.1 92 = .ok (.invokevirtual 239, 3) := by decide +kernel
theorem d_BA_brokenRules_95 : decode m_BA_brokenRules.2.1 95 = .ok (.iinc 3 1, 3) := by decide +kernel
theorem d_BA_brokenRules_98 : decode m_BA_brokenRules.2.1 98 = .ok (.iinc 4 1, 3) := by decide +kernel
theorem d_BA_brokenRules_101 : decode m_BA_brokenRules.2.1 101 = .ok (.goto (-96), 3) := by decide +kernel
theorem d_BA_brokenRules_104 : decode m_BA_brokenRules.2.1 104 = .ok (.iload_n 3, 1) := by decide +kernel
theorem d_BA_brokenRules_105 : decode m_BA_brokenRules.2.1 105 = .ok (.ireturn, 1) := by decide +kernel
theorem d_BA_keep_0 : decode m_BA_keep.2.1 0 = .ok (.aload_n 0, 1) := by decide +kernel
theorem d_BA_keep_1 : decode m_BA_keep.2.1 1 = .ok (.getfield 47, 3) := by decide +kernel
theorem d_BA_keep_4 : decode m_BA_keep.2.1 4 = .ok (.aload_n 0, 1) := by decide +kernel
theorem d_BA_keep_5 : decode m_BA_keep.2.1 5 = .ok (.getfield 43, 3) := by decide +kernel
theorem d_BA_keep_8 : decode m_BA_keep.2.1 8 = .ok (.invokevirtual 248, 3) := by decide +kernel
theorem d_BA_keep_11 : decode m_BA_keep.2.1 11 = .ok (.return_, 1) := by decide +kernel
theorem d_BA_settle_0 : decode m_BA_settle.2.1 0 = .ok (.aload_n 0, 1) := by decide +kernel
theorem d_BA_settle_1 : decode m_BA_settle.2.1 1 = .ok (.invokevirtual 123, 3) := by decide +kernel
theorem d_BA_settle_4 : decode m_BA_settle.2.1 4 = .ok (.aload_n 0, 1) := by decide +kernel
theorem d_BA_settle_5 : decode m_BA_settle.2.1 5 = .ok (.iconst 0, 1) := by decide +kernel
theorem d_BA_settle_6 : decode m_BA_settle.2.1 6 = .ok (.invokevirtual 252, 3) := by decide +kernel
theorem d_BA_settle_9 : decode m_BA_settle.2.1 9 = .ok (.ifCond .ne 5, 3) := by decide +kernel
theorem d_BA_settle_12 : decode m_BA_settle.2.1 12 = .ok (.iconst 1, 1) := by decide +kernel
theorem d_BA_settle_13 : decode m_BA_settle.2.1 13 = .ok (.ireturn, 1) := by decide +kernel
theorem d_BA_settle_14 : decode m_BA_settle.2.1 14 = .ok (.aload_n 0, 1) := by decide +kernel
theorem d_BA_settle_15 : decode m_BA_settle.2.1 15 = .ok (.getfield 43, 3) := by decide +kernel
theorem d_BA_settle_18 : decode m_BA_settle.2.1 18 = .ok (.aload_n 0, 1) := by decide +kernel
theorem d_BA_settle_19 : decode m_BA_settle.2.1 19 = .ok (.getfield 47, 3) := by decide +kernel
theorem d_BA_settle_22 : decode m_BA_settle.2.1 22 = .ok (.invokevirtual 248, 3) := by decide +kernel
theorem d_BA_settle_25 : decode m_BA_settle.2.1 25 = .ok (.iconst 0, 1) := by decide +kernel
theorem d_BA_settle_26 : decode m_BA_settle.2.1 26 = .ok (.ireturn, 1) := by decide +kernel
theorem d_BA_enterRow_0 : decode m_BA_enterRow.2.1 0 = .ok (.aload_n 0, 1) := by decide +kernel
theorem d_BA_enterRow_1 : decode m_BA_enterRow.2.1 1 = .ok (.getfield 43, 3) := by decide +kernel
theorem d_BA_enterRow_4 : decode m_BA_enterRow.2.1 4 = .ok (.iload_n 1, 1) := by decide +kernel
theorem d_BA_enterRow_5 : decode m_BA_enterRow.2.1 5 = .ok (.invokevirtual 256, 3) := by decide +kernel
theorem d_BA_enterRow_8 : decode m_BA_enterRow.2.1 8 = .ok (.ifCond .eq 5, 3) := by decide +kernel
theorem d_BA_enterRow_11 : decode m_BA_enterRow.2.1 11 = .ok (.iconst (-1), 1) := by decide +kernel
theorem d_BA_enterRow_12 : decode m_BA_enterRow.2.1 12 = .ok (.ireturn, 1) := by decide +kernel
theorem d_BA_enterRow_13 : decode m_BA_enterRow.2.1 13 = .ok (.aload_n 0, 1) := by decide +kernel
theorem d_BA_enterRow_14 : decode m_BA_enterRow.2.1 14 = .ok (.invokevirtual 138, 3) := by decide +kernel
theorem d_BA_enterRow_17 : decode m_BA_enterRow.2.1 17 = .ok (.aload_n 0, 1) := by decide +kernel
theorem d_BA_enterRow_18 : decode m_BA_enterRow.2.1 18 = .ok (.dup, 1) := by decide +kernel
theorem d_BA_enterRow_19 : decode m_BA_enterRow.2.1 19 = .ok (.getfield 259, 3) := by decide +kernel
theorem d_BA_enterRow_22 : decode m_BA_enterRow.2.1 22 = .ok (.iconst 1, 1) := by decide +kernel
theorem d_BA_enterRow_23 : decode m_BA_enterRow.2.1 23 = .ok (.iadd, 1) := by decide +kernel
theorem d_BA_enterRow_24 : decode m_BA_enterRow.2.1 24 = .ok (.putfield 259, 3) := by decide +kernel
theorem d_BA_enterRow_27 : decode m_BA_enterRow.2.1 27 = .ok (.aload_n 0, 1) := by decide +kernel
theorem d_BA_enterRow_28 : decode m_BA_enterRow.2.1 28 = .ok (.getfield 43, 3) := by decide +kernel
theorem d_BA_enterRow_31 : decode m_BA_enterRow.2.1 31 = .ok (.iload_n 1, 1) := by decide +kernel
theorem d_BA_enterRow_32 : decode m_BA_enterRow.2.1 32 = .ok (.aload_n 0, 1) := by decide +kernel
theorem d_BA_enterRow_33 : decode m_BA_enterRow.2.1 33 = .ok (.getfield 259, 3) := by decide +kernel
theorem d_BA_enterRow_36 : decode m_BA_enterRow.2.1 36 = .ok (.invokevirtual 262, 3) := by decide +kernel
theorem d_BA_enterRow_39 : decode m_BA_enterRow.2.1 39 = .ok (.istore 5, 2) := by decide +kernel
theorem d_BA_enterRow_41 : decode m_BA_enterRow.2.1 41 = .ok (.iconst 0, 1) := by decide +kernel
theorem d_BA_enterRow_42 : decode m_BA_enterRow.2.1 42 = .ok (.istore 6, 2) := by decide +kernel
theorem d_BA_enterRow_44 : decode m_BA_enterRow.2.1 44 = .ok (.iload 6, 2) := by decide +kernel
theorem d_BA_enterRow_46 : decode m_BA_enterRow.2.1 46 = .ok (.bipush 6, 2) := by decide +kernel
theorem d_BA_enterRow_48 : decode m_BA_enterRow.2.1 48 = .ok (.if_icmp .ge 65, 3) := by decide +kernel
theorem d_BA_enterRow_51 : decode m_BA_enterRow.2.1 51 = .ok (.iload 6, 2) := by decide +kernel
theorem d_BA_enterRow_53 : decode m_BA_enterRow.2.1 53 = .ok (.aload_n 2, 1) := by decide +kernel
theorem d_BA_enterRow_54 : decode m_BA_enterRow.2.1 54 = .ok (.arraylength, 1) := by decide +kernel
theorem d_BA_enterRow_55 : decode m_BA_enterRow.2.1 55 = .ok (.if_icmp .ge 58, 3) := by decide +kernel
theorem d_BA_enterRow_58 : decode m_BA_enterRow.2.1 58 = .ok (.aload_n 0, 1) := by decide +kernel
theorem d_BA_enterRow_59 : decode m_BA_enterRow.2.1 59 = .ok (.iload_n 1, 1) := by decide +kernel
theorem d_BA_enterRow_60 : decode m_BA_enterRow.2.1 60 = .ok (.iload 6, 2) := by decide +kernel
theorem d_BA_enterRow_62 : decode m_BA_enterRow.2.1 62 = .ok (.invokevirtual 79, 3) := by decide +kernel
theorem d_BA_enterRow_65 : decode m_BA_enterRow.2.1 65 = .ok (.invokevirtual 83, 3) := by decide +kernel
theorem d_BA_enterRow_68 : decode m_BA_enterRow.2.1 68 = .ok (.istore 7, 2) := by decide +kernel
theorem d_BA_enterRow_70 : decode m_BA_enterRow.2.1 70 = .ok (.aload_n 0, 1) := by decide +kernel
theorem d_BA_enterRow_71 : decode m_BA_enterRow.2.1 71 = .ok (.getfield 43, 3) := by decide +kernel
theorem d_BA_enterRow_74 : decode m_BA_enterRow.2.1 74 = .ok (.iload_n 1, 1) := by decide +kernel
theorem d_BA_enterRow_75 : decode m_BA_enterRow.2.1 75 = .ok (.iload 5, 2) := by decide +kernel
theorem d_BA_enterRow_77 : decode m_BA_enterRow.2.1 77 = .ok (.iload 6, 2) := by decide +kernel
theorem d_BA_enterRow_79 : decode m_BA_enterRow.2.1 79 = .ok (.iload 7, 2) := by decide +kernel
theorem d_BA_enterRow_81 : decode m_BA_enterRow.2.1 81 = .ok (.ifCond .ne 8, 3) := by decide +kernel
theorem d_BA_enterRow_84 : decode m_BA_enterRow.2.1 84 = .ok (.ldc 154, 2) := by decide +kernel
theorem d_BA_enterRow_86 : decode m_BA_enterRow.2.1 86 = .ok (.goto 18, 3) := by decide +kernel
theorem d_BA_enterRow_89 : decode m_BA_enterRow.2.1 89 = .ok (.iload 6, 2) := by decide +kernel
theorem d_BA_enterRow_91 : decode m_BA_enterRow.2.1 91 = .ok (.iload_n 3, 1) := by decide +kernel
theorem d_BA_enterRow_92 : decode m_BA_enterRow.2.1 92 = .ok (.if_icmp .ne 8, 3) := by decide +kernel
theorem d_BA_enterRow_95 : decode m_BA_enterRow.2.1 95 = .ok (.iload 4, 2) := by decide +kernel
theorem d_BA_enterRow_97 : decode m_BA_enterRow.2.1 97 = .ok (.goto 7, 3) := by decide +kernel
theorem d_BA_enterRow_100 : decode m_BA_enterRow.2.1 100 = .ok (.aload_n 2, 1) := by decide +kernel
theorem d_BA_enterRow_101 : decode m_BA_enterRow.2.1 101 = .ok (.iload 6, 2) := by decide +kernel
theorem d_BA_enterRow_103 : decode m_BA_enterRow.2.1 103 = .ok (.iaload, 1) := by decide +kernel
theorem d_BA_enterRow_104 : decode m_BA_enterRow.2.1 104 = .ok (.invokevirtual 166, 3) := by decide +kernel
theorem d_BA_enterRow_107 : decode m_BA_enterRow.2.1 107 = .ok (.iinc 6 1, 3) := by decide +kernel
theorem d_BA_enterRow_110 : decode m_BA_enterRow.2.1 110 = .ok (.goto (-66), 3) := by decide +kernel
theorem d_BA_enterRow_113 : decode m_BA_enterRow.2.1 113 = .ok (.aload_n 0, 1) := by decide +kernel
theorem d_BA_enterRow_114 : decode m_BA_enterRow.2.1 114 = .ok (.invokevirtual 141, 3) := by decide +kernel
theorem d_BA_enterRow_117 : decode m_BA_enterRow.2.1 117 = .ok (.ifCond .eq 8, 3) := by decide +kernel
theorem d_BA_enterRow_120 : decode m_BA_enterRow.2.1 120 = .ok (.iload 5, 2) := by decide +kernel
theorem d_BA_enterRow_122 : decode m_BA_enterRow.2.1 122 = .ok (.goto 4, 3) := by decide +kernel
theorem d_BA_enterRow_125 : decode m_BA_enterRow.2.1 125 = .ok (.iconst (-1), 1) := by decide +kernel
theorem d_BA_enterRow_126 : decode m_BA_enterRow.2.1 126 = .ok (.ireturn, 1) := by decide +kernel
theorem d_BA_putThrough_0 : decode m_BA_putThrough.2.1 0 = .ok (.aload_n 0, 1) := by decide +kernel
theorem d_BA_putThrough_1 : decode m_BA_putThrough.2.1 1 = .ok (.iload_n 1, 1) := by decide +kernel
theorem d_BA_putThrough_2 : decode m_BA_putThrough.2.1 2 = .ok (.invokevirtual 265, 3) := by decide +kernel
theorem d_BA_putThrough_5 : decode m_BA_putThrough.2.1 5 = .ok (.ifCond .ne 12, 3) := by decide +kernel
theorem d_BA_putThrough_8 : decode m_BA_putThrough.2.1 8 = .ok (.aload_n 0, 1) := by decide +kernel
theorem d_BA_putThrough_9 : decode m_BA_putThrough.2.1 9 = .ok (.bipush 7, 2) := by decide +kernel
theorem d_BA_putThrough_11 : decode m_BA_putThrough.2.1 11 = .ok (.iconst (-1), 1) := by decide +kernel
theorem d_BA_putThrough_12 : decode m_BA_putThrough.2.1 12 = .ok (.iconst (-1), 1) := by decide +kernel
theorem d_BA_putThrough_13 : decode m_BA_putThrough.2.1 13 = .ok (.invokevirtual 144, 3) := by decide +kernel
theorem d_BA_putThrough_16 : decode m_BA_putThrough.2.1 16 = .ok (.ireturn, 1) := by decide +kernel
theorem d_BA_putThrough_17 : decode m_BA_putThrough.2.1 17 = .ok (.aload_n 0, 1) := by decide +kernel
theorem d_BA_putThrough_18 : decode m_BA_putThrough.2.1 18 = .ok (.invokevirtual 138, 3) := by decide +kernel
theorem d_BA_putThrough_21 : decode m_BA_putThrough.2.1 21 = .ok (.aload_n 0, 1) := by decide +kernel
theorem d_BA_putThrough_22 : decode m_BA_putThrough.2.1 22 = .ok (.getfield 43, 3) := by decide +kernel
theorem d_BA_putThrough_25 : decode m_BA_putThrough.2.1 25 = .ok (.iload_n 1, 1) := by decide +kernel
theorem d_BA_putThrough_26 : decode m_BA_putThrough.2.1 26 = .ok (.bipush 10, 2) := by decide +kernel
theorem d_BA_putThrough_28 : decode m_BA_putThrough.2.1 28 = .ok (.idiv, 1) := by decide +kernel
theorem d_BA_putThrough_29 : decode m_BA_putThrough.2.1 29 = .ok (.iload_n 2, 1) := by decide +kernel
theorem d_BA_putThrough_30 : decode m_BA_putThrough.2.1 30 = .ok (.iload_n 1, 1) := by decide +kernel
theorem d_BA_putThrough_31 : decode m_BA_putThrough.2.1 31 = .ok (.bipush 10, 2) := by decide +kernel
theorem d_BA_putThrough_33 : decode m_BA_putThrough.2.1 33 = .ok (.irem, 1) := by decide +kernel
theorem d_BA_putThrough_34 : decode m_BA_putThrough.2.1 34 = .ok (.iload_n 3, 1) := by decide +kernel
theorem d_BA_putThrough_35 : decode m_BA_putThrough.2.1 35 = .ok (.invokevirtual 166, 3) := by decide +kernel
theorem d_BA_putThrough_38 : decode m_BA_putThrough.2.1 38 = .ok (.aload_n 0, 1) := by decide +kernel
theorem d_BA_putThrough_39 : decode m_BA_putThrough.2.1 39 = .ok (.invokevirtual 141, 3) := by decide +kernel
theorem d_BA_putThrough_42 : decode m_BA_putThrough.2.1 42 = .ok (.ireturn, 1) := by decide +kernel
theorem d_BA_couldPut_0 : decode m_BA_couldPut.2.1 0 = .ok (.aload_n 0, 1) := by decide +kernel
theorem d_BA_couldPut_1 : decode m_BA_couldPut.2.1 1 = .ok (.iload_n 1, 1) := by decide +kernel
theorem d_BA_couldPut_2 : decode m_BA_couldPut.2.1 2 = .ok (.iload_n 2, 1) := by decide +kernel
theorem d_BA_couldPut_3 : decode m_BA_couldPut.2.1 3 = .ok (.iload_n 3, 1) := by decide +kernel
theorem d_BA_couldPut_4 : decode m_BA_couldPut.2.1 4 = .ok (.invokevirtual 267, 3) := by decide +kernel
theorem d_BA_couldPut_7 : decode m_BA_couldPut.2.1 7 = .ok (.istore 4, 2) := by decide +kernel
theorem d_BA_couldPut_9 : decode m_BA_couldPut.2.1 9 = .ok (.aload_n 0, 1) := by decide +kernel
theorem d_BA_couldPut_10 : decode m_BA_couldPut.2.1 10 = .ok (.getfield 43, 3) := by decide +kernel
theorem d_BA_couldPut_13 : decode m_BA_couldPut.2.1 13 = .ok (.aload_n 0, 1) := by decide +kernel
theorem d_BA_couldPut_14 : decode m_BA_couldPut.2.1 14 = .ok (.getfield 47, 3) := by decide +kernel
theorem d_BA_couldPut_17 : decode m_BA_couldPut.2.1 17 = .ok (.invokevirtual 248, 3) := by decide +kernel
theorem d_BA_couldPut_20 : decode m_BA_couldPut.2.1 20 = .ok (.iload 4, 2) := by decide +kernel
theorem d_BA_couldPut_22 : decode m_BA_couldPut.2.1 22 = .ok (.ireturn, 1) := by decide +kernel
theorem d_BA_takeOut_0 : decode m_BA_takeOut.2.1 0 = .ok (.iconst 0, 1) := by decide +kernel
theorem d_BA_takeOut_1 : decode m_BA_takeOut.2.1 1 = .ok (.istore_n 3, 1) := by decide +kernel
theorem d_BA_takeOut_2 : decode m_BA_takeOut.2.1 2 = .ok (.iload_n 3, 1) := by decide +kernel
theorem d_BA_takeOut_3 : decode m_BA_takeOut.2.1 3 = .ok (.aload_n 0, 1) := by decide +kernel
theorem d_BA_takeOut_4 : decode m_BA_takeOut.2.1 4 = .ok (.getfield 61, 3) := by decide +kernel
theorem d_BA_takeOut_7 : decode m_BA_takeOut.2.1 7 = .ok (.arraylength, 1) := by decide +kernel
theorem d_BA_takeOut_8 : decode m_BA_takeOut.2.1 8 = .ok (.if_icmp .ge 30, 3) := by decide +kernel
theorem d_BA_takeOut_11 : decode m_BA_takeOut.2.1 11 = .ok (.aload_n 0, 1) := by decide +kernel
theorem d_BA_takeOut_12 : decode m_BA_takeOut.2.1 12 = .ok (.getfield 61, 3) := by decide +kernel
theorem d_BA_takeOut_15 : decode m_BA_takeOut.2.1 15 = .ok (.iload_n 3, 1) := by decide +kernel
theorem d_BA_takeOut_16 : decode m_BA_takeOut.2.1 16 = .ok (.iload_n 3, 1) := by decide +kernel
theorem d_BA_takeOut_17 : decode m_BA_takeOut.2.1 17 = .ok (.iload_n 1, 1) := by decide +kernel
theorem d_BA_takeOut_18 : decode m_BA_takeOut.2.1 18 = .ok (.bipush 30, 2) := by decide +kernel
theorem d_BA_takeOut_20 : decode m_BA_takeOut.2.1 20 = .ok (.imul, 1) := by decide +kernel
theorem d_BA_takeOut_21 : decode m_BA_takeOut.2.1 21 = .ok (.iload_n 2, 1) := by decide +kernel
theorem d_BA_takeOut_22 : decode m_BA_takeOut.2.1 22 = .ok (.iadd, 1) := by decide +kernel
theorem d_BA_takeOut_23 : decode m_BA_takeOut.2.1 23 = .ok (.if_icmp .ne 7, 3) := by decide +kernel
theorem d_BA_takeOut_26 : decode m_BA_takeOut.2.1 26 = .ok (.iconst 1, 1) := by decide +kernel
theorem d_BA_takeOut_27 : decode m_BA_takeOut.2.1 27 = .ok (.goto 4, 3) := by decide +kernel
theorem d_BA_takeOut_30 : decode m_BA_takeOut.2.1 30 = .ok (.iconst 0, 1) := by decide +kernel
theorem d_BA_takeOut_31 : decode m_BA_takeOut.2.1 31 = .ok (.bastore, 1) := by decide +kernel
theorem d_BA_takeOut_32 : decode m_BA_takeOut.2.1 32 = .ok (.iinc 3 1, 3) := by decide +kernel
theorem d_BA_takeOut_35 : decode m_BA_takeOut.2.1 35 = .ok (.goto (-33), 3) := by decide +kernel
theorem d_BA_takeOut_38 : decode m_BA_takeOut.2.1 38 = .ok (.iconst 0, 1) := by decide +kernel
theorem d_BA_takeOut_39 : decode m_BA_takeOut.2.1 39 = .ok (.istore_n 3, 1) := by decide +kernel
theorem d_BA_takeOut_40 : decode m_BA_takeOut.2.1 40 = .ok (.iload_n 3, 1) := by decide +kernel
theorem d_BA_takeOut_41 : decode m_BA_takeOut.2.1 41 = .ok (.aload_n 0, 1) := by decide +kernel
theorem d_BA_takeOut_42 : decode m_BA_takeOut.2.1 42 = .ok (.getfield 61, 3) := by decide +kernel
theorem d_BA_takeOut_45 : decode m_BA_takeOut.2.1 45 = .ok (.arraylength, 1) := by decide +kernel
theorem d_BA_takeOut_46 : decode m_BA_takeOut.2.1 46 = .ok (.if_icmp .ge 19, 3) := by decide +kernel
theorem d_BA_takeOut_49 : decode m_BA_takeOut.2.1 49 = .ok (.aload_n 0, 1) := by decide +kernel
theorem d_BA_takeOut_50 : decode m_BA_takeOut.2.1 50 = .ok (.invokevirtual 270, 3) := by decide +kernel
theorem d_BA_takeOut_53 : decode m_BA_takeOut.2.1 53 = .ok (.ifCond .ne 6, 3) := by decide +kernel
theorem d_BA_takeOut_56 : decode m_BA_takeOut.2.1 56 = .ok (.goto 9, 3) := by decide +kernel
theorem d_BA_takeOut_59 : decode m_BA_takeOut.2.1 59 = .ok (.iinc 3 1, 3) := by decide +kernel
theorem d_BA_takeOut_62 : decode m_BA_takeOut.2.1 62 = .ok (.goto (-22), 3) := by decide +kernel
theorem d_BA_takeOut_65 : decode m_BA_takeOut.2.1 65 = .ok (.aload_n 0, 1) := by decide +kernel
theorem d_BA_takeOut_66 : decode m_BA_takeOut.2.1 66 = .ok (.invokevirtual 273, 3) := by decide +kernel
theorem d_BA_takeOut_69 : decode m_BA_takeOut.2.1 69 = .ok (.ifCond .eq 5, 3) := by decide +kernel
theorem d_BA_takeOut_72 : decode m_BA_takeOut.2.1 72 = .ok (.iconst 0, 1) := by decide +kernel
theorem d_BA_takeOut_73 : decode m_BA_takeOut.2.1 73 = .ok (.ireturn, 1) := by decide +kernel
theorem d_BA_takeOut_74 : decode m_BA_takeOut.2.1 74 = .ok (.aload_n 0, 1) := by decide +kernel
theorem d_BA_takeOut_75 : decode m_BA_takeOut.2.1 75 = .ok (.invokevirtual 138, 3) := by decide +kernel
theorem d_BA_takeOut_78 : decode m_BA_takeOut.2.1 78 = .ok (.aload_n 0, 1) := by decide +kernel
theorem d_BA_takeOut_79 : decode m_BA_takeOut.2.1 79 = .ok (.invokevirtual 276, 3) := by decide +kernel
theorem d_BA_takeOut_82 : decode m_BA_takeOut.2.1 82 = .ok (.iconst 0, 1) := by decide +kernel
theorem d_BA_takeOut_83 : decode m_BA_takeOut.2.1 83 = .ok (.istore_n 3, 1) := by decide +kernel
theorem d_BA_takeOut_84 : decode m_BA_takeOut.2.1 84 = .ok (.iload_n 3, 1) := by decide +kernel
theorem d_BA_takeOut_85 : decode m_BA_takeOut.2.1 85 = .ok (.aload_n 0, 1) := by decide +kernel
theorem d_BA_takeOut_86 : decode m_BA_takeOut.2.1 86 = .ok (.getfield 61, 3) := by decide +kernel
theorem d_BA_takeOut_89 : decode m_BA_takeOut.2.1 89 = .ok (.arraylength, 1) := by decide +kernel
theorem d_BA_takeOut_90 : decode m_BA_takeOut.2.1 90 = .ok (.if_icmp .ge 34, 3) := by decide +kernel
theorem d_BA_takeOut_93 : decode m_BA_takeOut.2.1 93 = .ok (.aload_n 0, 1) := by decide +kernel
theorem d_BA_takeOut_94 : decode m_BA_takeOut.2.1 94 = .ok (.getfield 61, 3) := by decide +kernel
theorem d_BA_takeOut_97 : decode m_BA_takeOut.2.1 97 = .ok (.iload_n 3, 1) := by decide +kernel
theorem d_BA_takeOut_98 : decode m_BA_takeOut.2.1 98 = .ok (.baload, 1) := by decide +kernel
theorem d_BA_takeOut_99 : decode m_BA_takeOut.2.1 99 = .ok (.ifCond .eq 19, 3) := by decide +kernel
theorem d_BA_takeOut_102 : decode m_BA_takeOut.2.1 102 = .ok (.aload_n 0, 1) := by decide +kernel
theorem d_BA_takeOut_103 : decode m_BA_takeOut.2.1 103 = .ok (.getfield 43, 3) := by decide +kernel
theorem d_BA_takeOut_106 : decode m_BA_takeOut.2.1 106 = .ok (.iload_n 3, 1) := by decide +kernel
theorem d_BA_takeOut_107 : decode m_BA_takeOut.2.1 107 = .ok (.bipush 30, 2) := by decide +kernel
theorem d_BA_takeOut_109 : decode m_BA_takeOut.2.1 109 = .ok (.idiv, 1) := by decide +kernel
theorem d_BA_takeOut_110 : decode m_BA_takeOut.2.1 110 = .ok (.iload_n 3, 1) := by decide +kernel
theorem d_BA_takeOut_111 : decode m_BA_takeOut.2.1 111 = .ok (.bipush 30, 2) := by decide +kernel
theorem d_BA_takeOut_113 : decode m_BA_takeOut.2.1 113 = .ok (.irem, 1) := by decide +kernel
theorem d_BA_takeOut_114 : decode m_BA_takeOut.2.1 114 = .ok (.iconst 0, 1) := by decide +kernel
theorem d_BA_takeOut_115 : decode m_BA_takeOut.2.1 115 = .ok (.invokevirtual 279, 3) := by decide +kernel
theorem d_BA_takeOut_118 : decode m_BA_takeOut.2.1 118 = .ok (.iinc 3 1, 3) := by decide +kernel
theorem d_BA_takeOut_121 : decode m_BA_takeOut.2.1 121 = .ok (.goto (-37), 3) := by decide +kernel
theorem d_BA_takeOut_124 : decode m_BA_takeOut.2.1 124 = .ok (.aload_n 0, 1) := by decide +kernel
theorem d_BA_takeOut_125 : decode m_BA_takeOut.2.1 125 = .ok (.invokevirtual 141, 3) := by decide +kernel
theorem d_BA_takeOut_128 : decode m_BA_takeOut.2.1 128 = .ok (.ireturn, 1) := by decide +kernel
theorem d_BA_spreadGoing_0 : decode m_BA_spreadGoing.2.1 0 = .ok (.iconst 0, 1) := by decide +kernel
theorem d_BA_spreadGoing_1 : decode m_BA_spreadGoing.2.1 1 = .ok (.istore_n 1, 1) := by decide +kernel
theorem d_BA_spreadGoing_2 : decode m_BA_spreadGoing.2.1 2 = .ok (.iconst 0, 1) := by decide +kernel
theorem d_BA_spreadGoing_3 : decode m_BA_spreadGoing.2.1 3 = .ok (.istore_n 2, 1) := by decide +kernel
theorem d_BA_spreadGoing_4 : decode m_BA_spreadGoing.2.1 4 = .ok (.iload_n 2, 1) := by decide +kernel
theorem d_BA_spreadGoing_5 : decode m_BA_spreadGoing.2.1 5 = .ok (.aload_n 0, 1) := by decide +kernel
theorem d_BA_spreadGoing_6 : decode m_BA_spreadGoing.2.1 6 = .ok (.getfield 61, 3) := by decide +kernel
theorem d_BA_spreadGoing_9 : decode m_BA_spreadGoing.2.1 9 = .ok (.arraylength, 1) := by decide +kernel
theorem d_BA_spreadGoing_10 : decode m_BA_spreadGoing.2.1 10 = .ok (.if_icmp .ge 36, 3) := by decide +kernel
theorem d_BA_spreadGoing_13 : decode m_BA_spreadGoing.2.1 13 = .ok (.aload_n 0, 1) := by decide +kernel
theorem d_BA_spreadGoing_14 : decode m_BA_spreadGoing.2.1 14 = .ok (.getfield 61, 3) := by decide +kernel
theorem d_BA_spreadGoing_17 : decode m_BA_spreadGoing.2.1 17 = .ok (.iload_n 2, 1) := by decide +kernel
theorem d_BA_spreadGoing_18 : decode m_BA_spreadGoing.2.1 18 = .ok (.baload, 1) := by decide +kernel
theorem d_BA_spreadGoing_19 : decode m_BA_spreadGoing.2.1 19 = .ok (.ifCond .ne 21, 3) := by decide +kernel
theorem d_BA_spreadGoing_22 : decode m_BA_spreadGoing.2.1 22 = .ok (.aload_n 0, 1) := by decide +kernel
theorem d_BA_spreadGoing_23 : decode m_BA_spreadGoing.2.1 23 = .ok (.iload_n 2, 1) := by decide +kernel
theorem d_BA_spreadGoing_24 : decode m_BA_spreadGoing.2.1 24 = .ok (.iconst 1, 1) := by decide +kernel
theorem d_BA_spreadGoing_25 : decode m_BA_spreadGoing.2.1 25 = .ok (.invokevirtual 283, 3) := by decide +kernel
theorem d_BA_spreadGoing_28 : decode m_BA_spreadGoing.2.1 28 = .ok (.ifCond .lt 12, 3) := by decide +kernel
theorem d_BA_spreadGoing_31 : decode m_BA_spreadGoing.2.1 31 = .ok (.aload_n 0, 1) := by decide +kernel
theorem d_BA_spreadGoing_32 : decode m_BA_spreadGoing.2.1 32 = .ok (.getfield 61, 3) := by decide +kernel
theorem d_BA_spreadGoing_35 : decode m_BA_spreadGoing.2.1 35 = .ok (.iload_n 2, 1) := by decide +kernel
theorem d_BA_spreadGoing_36 : decode m_BA_spreadGoing.2.1 36 = .ok (.iconst 1, 1) := by decide +kernel
theorem d_BA_spreadGoing_37 : decode m_BA_spreadGoing.2.1 37 = .ok (.bastore, 1) := by decide +kernel
theorem d_BA_spreadGoing_38 : decode m_BA_spreadGoing.2.1 38 = .ok (.iconst 1, 1) := by decide +kernel
theorem d_BA_spreadGoing_39 : decode m_BA_spreadGoing.2.1 39 = .ok (.istore_n 1, 1) := by decide +kernel
theorem d_BA_spreadGoing_40 : decode m_BA_spreadGoing.2.1 40 = .ok (.iinc 2 1, 3) := by decide +kernel
theorem d_BA_spreadGoing_43 : decode m_BA_spreadGoing.2.1 43 = .ok (.goto (-39), 3) := by decide +kernel
theorem d_BA_spreadGoing_46 : decode m_BA_spreadGoing.2.1 46 = .ok (.iload_n 1, 1) := by decide +kernel
theorem d_BA_spreadGoing_47 : decode m_BA_spreadGoing.2.1 47 = .ok (.ireturn, 1) := by decide +kernel
theorem d_BA_isForbidden_0 : decode m_BA_isForbidden.2.1 0 = .ok (.iconst 0, 1) := by decide +kernel
theorem d_BA_isForbidden_1 : decode m_BA_isForbidden.2.1 1 = .ok (.istore_n 1, 1) := by decide +kernel
theorem d_BA_isForbidden_2 : decode m_BA_isForbidden.2.1 2 = .ok (.iload_n 1, 1) := by decide +kernel
theorem d_BA_isForbidden_3 : decode m_BA_isForbidden.2.1 3 = .ok (.aload_n 0, 1) := by decide +kernel
theorem d_BA_isForbidden_4 : decode m_BA_isForbidden.2.1 4 = .ok (.getfield 61, 3) := by decide +kernel
theorem d_BA_isForbidden_7 : decode m_BA_isForbidden.2.1 7 = .ok (.arraylength, 1) := by decide +kernel
theorem d_BA_isForbidden_8 : decode m_BA_isForbidden.2.1 8 = .ok (.if_icmp .ge 53, 3) := by decide +kernel
theorem d_BA_isForbidden_11 : decode m_BA_isForbidden.2.1 11 = .ok (.aload_n 0, 1) := by decide +kernel
theorem d_BA_isForbidden_12 : decode m_BA_isForbidden.2.1 12 = .ok (.getfield 61, 3) := by decide +kernel
theorem d_BA_isForbidden_15 : decode m_BA_isForbidden.2.1 15 = .ok (.iload_n 1, 1) := by decide +kernel
theorem d_BA_isForbidden_16 : decode m_BA_isForbidden.2.1 16 = .ok (.baload, 1) := by decide +kernel
theorem d_BA_isForbidden_17 : decode m_BA_isForbidden.2.1 17 = .ok (.ifCond .eq 7, 3) := by decide +kernel
theorem d_BA_isForbidden_20 : decode m_BA_isForbidden.2.1 20 = .ok (.iconst (-1), 1) := by decide +kernel
theorem d_BA_isForbidden_21 : decode m_BA_isForbidden.2.1 21 = .ok (.goto 9, 3) := by decide +kernel
theorem d_BA_isForbidden_24 : decode m_BA_isForbidden.2.1 24 = .ok (.aload_n 0, 1) := by decide +kernel
theorem d_BA_isForbidden_25 : decode m_BA_isForbidden.2.1 25 = .ok (.iload_n 1, 1) := by decide +kernel
theorem d_BA_isForbidden_26 : decode m_BA_isForbidden.2.1 26 = .ok (.iconst 0, 1) := by decide +kernel
theorem d_BA_isForbidden_27 : decode m_BA_isForbidden.2.1 27 = .ok (.invokevirtual 283, 3) := by decide +kernel
theorem d_BA_isForbidden_30 : decode m_BA_isForbidden.2.1 30 = .ok (.istore_n 2, 1) := by decide +kernel
theorem d_BA_isForbidden_31 : decode m_BA_isForbidden.2.1 31 = .ok (.iload_n 2, 1) := by decide +kernel
theorem d_BA_isForbidden_32 : decode m_BA_isForbidden.2.1 32 = .ok (.ifCond .lt 23, 3) := by decide +kernel
theorem d_BA_isForbidden_35 : decode m_BA_isForbidden.2.1 35 = .ok (.aload_n 0, 1) := by decide +kernel
theorem d_BA_isForbidden_36 : decode m_BA_isForbidden.2.1 36 = .ok (.getfield 53, 3) := by decide +kernel
theorem d_BA_isForbidden_39 : decode m_BA_isForbidden.2.1 39 = .ok (.bipush 6, 2) := by decide +kernel
theorem d_BA_isForbidden_41 : decode m_BA_isForbidden.2.1 41 = .ok (.iload_n 1, 1) := by decide +kernel
theorem d_BA_isForbidden_42 : decode m_BA_isForbidden.2.1 42 = .ok (.bipush 30, 2) := by decide +kernel
theorem d_BA_isForbidden_44 : decode m_BA_isForbidden.2.1 44 = .ok (.idiv, 1) := by decide +kernel
theorem d_BA_isForbidden_45 : decode m_BA_isForbidden.2.1 45 = .ok (.iload_n 1, 1) := by decide +kernel
theorem d_BA_isForbidden_46 : decode m_BA_isForbidden.2.1 46 = .ok (.bipush 30, 2) := by decide +kernel
theorem d_BA_isForbidden_48 : decode m_BA_isForbidden.2.1 48 = .ok (.irem, 1) := by decide +kernel
theorem d_BA_isForbidden_49 : decode m_BA_isForbidden.2.1 49 = .ok (.iload_n 2, 1) := by decide +kernel
theorem d_BA_isForbidden_50 : decode m_BA_isForbidden.2.1 50 = .ok (.invokevirtual 94, 3) := by decide +kernel
theorem d_BA_isForbidden_53 : decode m_BA_isForbidden.2.1 53 = .ok (.iconst 1, 1) := by decide +kernel
theorem d_BA_isForbidden_54 : decode m_BA_isForbidden.2.1 54 = .ok (.ireturn, 1) := by decide +kernel
theorem d_BA_isForbidden_55 : decode m_BA_isForbidden.2.1 55 = .ok (.iinc 1 1, 3) := by decide +kernel
theorem d_BA_isForbidden_58 : decode m_BA_isForbidden.2.1 58 = .ok (.goto (-56), 3) := by decide +kernel
theorem d_BA_isForbidden_61 : decode m_BA_isForbidden.2.1 61 = .ok (.iconst 0, 1) := by decide +kernel
theorem d_BA_isForbidden_62 : decode m_BA_isForbidden.2.1 62 = .ok (.ireturn, 1) := by decide +kernel
theorem d_BA_blankToGoing_0 : decode m_BA_blankToGoing.2.1 0 = .ok (.iconst 0, 1) := by decide +kernel
theorem d_BA_blankToGoing_1 : decode m_BA_blankToGoing.2.1 1 = .ok (.istore_n 1, 1) := by decide +kernel
theorem d_BA_blankToGoing_2 : decode m_BA_blankToGoing.2.1 2 = .ok (.iload_n 1, 1) := by decide +kernel
theorem d_BA_blankToGoing_3 : decode m_BA_blankToGoing.2.1 3 = .ok (.aload_n 0, 1) := by decide +kernel
theorem d_BA_blankToGoing_4 : decode m_BA_blankToGoing.2.1 4 = .ok (.getfield 61, 3) := by decide +kernel
theorem d_BA_blankToGoing_7 : decode m_BA_blankToGoing.2.1 7 = .ok (.arraylength, 1) := by decide +kernel
theorem d_BA_blankToGoing_8 : decode m_BA_blankToGoing.2.1 8 = .ok (.if_icmp .ge 64, 3) := by decide +kernel
theorem d_BA_blankToGoing_11 : decode m_BA_blankToGoing.2.1 11 = .ok (.iconst 0, 1) := by decide +kernel
theorem d_BA_blankToGoing_12 : decode m_BA_blankToGoing.2.1 12 = .ok (.istore_n 2, 1) := by decide +kernel
theorem d_BA_blankToGoing_13 : decode m_BA_blankToGoing.2.1 13 = .ok (.iload_n 2, 1) := by decide +kernel
theorem d_BA_blankToGoing_14 : decode m_BA_blankToGoing.2.1 14 = .ok (.bipush 6, 2) := by decide +kernel
theorem d_BA_blankToGoing_16 : decode m_BA_blankToGoing.2.1 16 = .ok (.if_icmp .ge 50, 3) := by decide +kernel
theorem d_BA_blankToGoing_19 : decode m_BA_blankToGoing.2.1 19 = .ok (.aload_n 0, 1) := by decide +kernel
theorem d_BA_blankToGoing_20 : decode m_BA_blankToGoing.2.1 20 = .ok (.getfield 61, 3) := by decide +kernel
theorem d_BA_blankToGoing_23 : decode m_BA_blankToGoing.2.1 23 = .ok (.iload_n 1, 1) := by decide +kernel
theorem d_BA_blankToGoing_24 : decode m_BA_blankToGoing.2.1 24 = .ok (.baload, 1) := by decide +kernel
theorem d_BA_blankToGoing_25 : decode m_BA_blankToGoing.2.1 25 = .ok (.ifCond .ne 41, 3) := by decide +kernel
theorem d_BA_blankToGoing_28 : decode m_BA_blankToGoing.2.1 28 = .ok (.aload_n 0, 1) := by decide +kernel
theorem d_BA_blankToGoing_29 : decode m_BA_blankToGoing.2.1 29 = .ok (.iload_n 1, 1) := by decide +kernel
theorem d_BA_blankToGoing_30 : decode m_BA_blankToGoing.2.1 30 = .ok (.iconst 2, 1) := by decide +kernel
theorem d_BA_blankToGoing_31 : decode m_BA_blankToGoing.2.1 31 = .ok (.invokevirtual 283, 3) := by decide +kernel
theorem d_BA_blankToGoing_34 : decode m_BA_blankToGoing.2.1 34 = .ok (.istore_n 3, 1) := by decide +kernel
theorem d_BA_blankToGoing_35 : decode m_BA_blankToGoing.2.1 35 = .ok (.iload_n 3, 1) := by decide +kernel
theorem d_BA_blankToGoing_36 : decode m_BA_blankToGoing.2.1 36 = .ok (.ifCond .ge 6, 3) := by decide +kernel
theorem d_BA_blankToGoing_39 : decode m_BA_blankToGoing.2.1 39 = .ok (.goto 27, 3) := by decide +kernel
theorem d_BA_blankToGoing_42 : decode m_BA_blankToGoing.2.1 42 = .ok (.aload_n 0, 1) := by decide +kernel
theorem d_BA_blankToGoing_43 : decode m_BA_blankToGoing.2.1 43 = .ok (.getfield 43, 3) := by decide +kernel
theorem d_BA_blankToGoing_46 : decode m_BA_blankToGoing.2.1 46 = .ok (.iload_n 1, 1) := by decide +kernel
theorem d_BA_blankToGoing_47 : decode m_BA_blankToGoing.2.1 47 = .ok (.bipush 30, 2) := by decide +kernel
theorem d_BA_blankToGoing_49 : decode m_BA_blankToGoing.2.1 49 = .ok (.idiv, 1) := by decide +kernel
theorem d_BA_blankToGoing_50 : decode m_BA_blankToGoing.2.1 50 = .ok (.iload_n 1, 1) := by decide +kernel
theorem d_BA_blankToGoing_51 : decode m_BA_blankToGoing.2.1 51 = .ok (.bipush 30, 2) := by decide +kernel
theorem d_BA_blankToGoing_53 : decode m_BA_blankToGoing.2.1 53 = .ok (.irem, 1) := by decide +kernel
theorem d_BA_blankToGoing_54 : decode m_BA_blankToGoing.2.1 54 = .ok (.iload_n 3, 1) := by decide +kernel
theorem d_BA_blankToGoing_55 : decode m_BA_blankToGoing.2.1 55 = .ok (.ldc 154, 2) := by decide +kernel
theorem d_BA_blankToGoing_57 : decode m_BA_blankToGoing.2.1 57 = .ok (.invokevirtual 166, 3) := by decide +kernel
theorem d_BA_blankToGoing_60 : decode m_BA_blankToGoing.2.1 60 = .ok (.iinc 2 1, 3) := by decide +kernel
theorem d_BA_blankToGoing_63 : decode m_BA_blankToGoing.2.1 63 = .ok (.goto (-50), 3) := by decide +kernel
theorem d_BA_blankToGoing_66 : decode m_BA_blankToGoing.2.1 66 = .ok (.iinc 1 1, 3) := by decide +kernel
theorem d_BA_blankToGoing_69 : decode m_BA_blankToGoing.2.1 69 = .ok (.goto (-67), 3) := by decide +kernel
theorem d_BA_blankToGoing_72 : decode m_BA_blankToGoing.2.1 72 = .ok (.return_, 1) := by decide +kernel
theorem d_BA_firstToGoing_0 : decode m_BA_firstToGoing.2.1 0 = .ok (.iload_n 1, 1) := by decide +kernel
theorem d_BA_firstToGoing_1 : decode m_BA_firstToGoing.2.1 1 = .ok (.bipush 30, 2) := by decide +kernel
theorem d_BA_firstToGoing_3 : decode m_BA_firstToGoing.2.1 3 = .ok (.idiv, 1) := by decide +kernel
theorem d_BA_firstToGoing_4 : decode m_BA_firstToGoing.2.1 4 = .ok (.istore_n 3, 1) := by decide +kernel
theorem d_BA_firstToGoing_5 : decode m_BA_firstToGoing.2.1 5 = .ok (.iload_n 1, 1) := by decide +kernel
theorem d_BA_firstToGoing_6 : decode m_BA_firstToGoing.2.1 6 = .ok (.bipush 30, 2) := by decide +kernel
theorem d_BA_firstToGoing_8 : decode m_BA_firstToGoing.2.1 8 = .ok (.irem, 1) := by decide +kernel
theorem d_BA_firstToGoing_9 : decode m_BA_firstToGoing.2.1 9 = .ok (.istore 4, 2) := by decide +kernel
theorem d_BA_firstToGoing_11 : decode m_BA_firstToGoing.2.1 11 = .ok (.iconst 0, 1) := by decide +kernel
theorem d_BA_firstToGoing_12 : decode m_BA_firstToGoing.2.1 12 = .ok (.istore 5, 2) := by decide +kernel
theorem d_BA_firstToGoing_14 : decode m_BA_firstToGoing.2.1 14 = .ok (.iload 5, 2) := by decide +kernel
theorem d_BA_firstToGoing_16 : decode m_BA_firstToGoing.2.1 16 = .ok (.bipush 6, 2) := by decide +kernel
theorem d_BA_firstToGoing_18 : decode m_BA_firstToGoing.2.1 18 = .ok (.if_icmp .ge 121, 3) := by decide +kernel
theorem d_BA_firstToGoing_21 : decode m_BA_firstToGoing.2.1 21 = .ok (.aload_n 0, 1) := by decide +kernel
theorem d_BA_firstToGoing_22 : decode m_BA_firstToGoing.2.1 22 = .ok (.getfield 43, 3) := by decide +kernel
theorem d_BA_firstToGoing_25 : decode m_BA_firstToGoing.2.1 25 = .ok (.iload_n 3, 1) := by decide +kernel
theorem d_BA_firstToGoing_26 : decode m_BA_firstToGoing.2.1 26 = .ok (.iload 4, 2) := by decide +kernel
theorem d_BA_firstToGoing_28 : decode m_BA_firstToGoing.2.1 28 = .ok (.invokevirtual 155, 3) := by decide +kernel
theorem d_BA_firstToGoing_31 : decode m_BA_firstToGoing.2.1 31 = .ok (.ifCond .eq 108, 3) := by decide +kernel
theorem d_BA_firstToGoing_34 : decode m_BA_firstToGoing.2.1 34 = .ok (.aload_n 0, 1) := by decide +kernel
theorem d_BA_firstToGoing_35 : decode m_BA_firstToGoing.2.1 35 = .ok (.iload_n 3, 1) := by decide +kernel
theorem d_BA_firstToGoing_36 : decode m_BA_firstToGoing.2.1 36 = .ok (.iload 5, 2) := by decide +kernel
theorem d_BA_firstToGoing_38 : decode m_BA_firstToGoing.2.1 38 = .ok (.invokevirtual 79, 3) := by decide +kernel
theorem d_BA_firstToGoing_41 : decode m_BA_firstToGoing.2.1 41 = .ok (.astore 6, 2) := by decide +kernel
theorem d_BA_firstToGoing_43 : decode m_BA_firstToGoing.2.1 43 = .ok (.aload_n 0, 1) := by decide +kernel
theorem d_BA_firstToGoing_44 : decode m_BA_firstToGoing.2.1 44 = .ok (.getfield 43, 3) := by decide +kernel
theorem d_BA_firstToGoing_47 : decode m_BA_firstToGoing.2.1 47 = .ok (.iload_n 3, 1) := by decide +kernel
theorem d_BA_firstToGoing_48 : decode m_BA_firstToGoing.2.1 48 = .ok (.iload 4, 2) := by decide +kernel
theorem d_BA_firstToGoing_50 : decode m_BA_firstToGoing.2.1 50 = .ok (.iload 5, 2) := by decide +kernel
theorem d_BA_firstToGoing_52 : decode m_BA_firstToGoing.2.1 52 = .ok (.invokevirtual 159, 3) := by decide +kernel
theorem d_BA_firstToGoing_55 : decode m_BA_firstToGoing.2.1 55 = .ok (.istore 7, 2) := by decide +kernel
theorem d_BA_firstToGoing_57 : decode m_BA_firstToGoing.2.1 57 = .ok (.aload 6, 2) := by decide +kernel
theorem d_BA_firstToGoing_59 : decode m_BA_firstToGoing.2.1 59 = .ok (.getfield 98, 3) := by decide +kernel
theorem d_BA_firstToGoing_62 : decode m_BA_firstToGoing.2.1 62 = .ok (.iconst 2, 1) := by decide +kernel
theorem d_BA_firstToGoing_63 : decode m_BA_firstToGoing.2.1 63 = .ok (.if_icmp .ne 70, 3) := by decide +kernel
theorem d_BA_firstToGoing_66 : decode m_BA_firstToGoing.2.1 66 = .ok (.aload 6, 2) := by decide +kernel
theorem d_BA_firstToGoing_68 : decode m_BA_firstToGoing.2.1 68 = .ok (.getfield 114, 3) := by decide +kernel
theorem d_BA_firstToGoing_71 : decode m_BA_firstToGoing.2.1 71 = .ok (.iload_n 2, 1) := by decide +kernel
theorem d_BA_firstToGoing_72 : decode m_BA_firstToGoing.2.1 72 = .ok (.if_icmp .ne 61, 3) := by decide +kernel
theorem d_BA_firstToGoing_75 : decode m_BA_firstToGoing.2.1 75 = .ok (.aload_n 0, 1) := by decide +kernel
theorem d_BA_firstToGoing_76 : decode m_BA_firstToGoing.2.1 76 = .ok (.getfield 43, 3) := by decide +kernel
theorem d_BA_firstToGoing_79 : decode m_BA_firstToGoing.2.1 79 = .ok (.aload 6, 2) := by decide +kernel
theorem d_BA_firstToGoing_81 : decode m_BA_firstToGoing.2.1 81 = .ok (.getfield 111, 3) := by decide +kernel
theorem d_BA_firstToGoing_84 : decode m_BA_firstToGoing.2.1 84 = .ok (.iload 7, 2) := by decide +kernel
theorem d_BA_firstToGoing_86 : decode m_BA_firstToGoing.2.1 86 = .ok (.invokevirtual 155, 3) := by decide +kernel
theorem d_BA_firstToGoing_89 : decode m_BA_firstToGoing.2.1 89 = .ok (.ifCond .eq 44, 3) := by decide +kernel
theorem d_BA_firstToGoing_92 : decode m_BA_firstToGoing.2.1 92 = .ok (.aload 6, 2) := by decide +kernel
theorem d_BA_firstToGoing_94 : decode m_BA_firstToGoing.2.1 94 = .ok (.getfield 111, 3) := by decide +kernel
theorem d_BA_firstToGoing_97 : decode m_BA_firstToGoing.2.1 97 = .ok (.bipush 30, 2) := by decide +kernel
theorem d_BA_firstToGoing_99 : decode m_BA_firstToGoing.2.1 99 = .ok (.imul, 1) := by decide +kernel
theorem d_BA_firstToGoing_100 : decode m_BA_firstToGoing.2.1 100 = .ok (.iload 7, 2) := by decide +kernel
theorem d_BA_firstToGoing_102 : decode m_BA_firstToGoing.2.1 102 = .ok (.iadd, 1) := by decide +kernel
theorem d_BA_firstToGoing_103 : decode m_BA_firstToGoing.2.1 103 = .ok (.istore 8, 2) := by decide +kernel
theorem d_BA_firstToGoing_105 : decode m_BA_firstToGoing.2.1 105 = .ok (.iload 8, 2) := by decide +kernel
theorem d_BA_firstToGoing_107 : decode m_BA_firstToGoing.2.1 107 = .ok (.ifCond .lt 26, 3) := by decide +kernel
theorem d_BA_firstToGoing_110 : decode m_BA_firstToGoing.2.1 110 = .ok (.iload 8, 2) := by decide +kernel
theorem d_BA_firstToGoing_112 : decode m_BA_firstToGoing.2.1 112 = .ok (.aload_n 0, 1) := by decide +kernel
theorem d_BA_firstToGoing_113 : decode m_BA_firstToGoing.2.1 113 = .ok (.getfield 61, 3) := by decide +kernel
theorem d_BA_firstToGoing_116 : decode m_BA_firstToGoing.2.1 116 = .ok (.arraylength, 1) := by decide +kernel
theorem d_BA_firstToGoing_117 : decode m_BA_firstToGoing.2.1 117 = .ok (.if_icmp .ge 16, 3) := by decide +kernel
theorem d_BA_firstToGoing_120 : decode m_BA_firstToGoing.2.1 120 = .ok (.aload_n 0, 1) := by decide +kernel
theorem d_BA_firstToGoing_121 : decode m_BA_firstToGoing.2.1 121 = .ok (.getfield 61, 3) := by decide +kernel
theorem d_BA_firstToGoing_124 : decode m_BA_firstToGoing.2.1 124 = .ok (.iload 8, 2) := by decide +kernel
theorem d_BA_firstToGoing_126 : decode m_BA_firstToGoing.2.1 126 = .ok (.baload, 1) := by decide +kernel
theorem d_BA_firstToGoing_127 : decode m_BA_firstToGoing.2.1 127 = .ok (.ifCond .eq 6, 3) := by decide +kernel
theorem d_BA_firstToGoing_130 : decode m_BA_firstToGoing.2.1 130 = .ok (.iload 5, 2) := by decide +kernel
theorem d_BA_firstToGoing_132 : decode m_BA_firstToGoing.2.1 132 = .ok (.ireturn, 1) := by decide +kernel
theorem d_BA_firstToGoing_133 : decode m_BA_firstToGoing.2.1 133 = .ok (.iinc 5 1, 3) := by decide +kernel
theorem d_BA_firstToGoing_136 : decode m_BA_firstToGoing.2.1 136 = .ok (.goto (-122), 3) := by decide +kernel
theorem d_BA_firstToGoing_139 : decode m_BA_firstToGoing.2.1 139 = .ok (.iconst (-1), 1) := by decide +kernel
theorem d_BA_firstToGoing_140 : decode m_BA_firstToGoing.2.1 140 = .ok (.ireturn, 1) := by decide +kernel

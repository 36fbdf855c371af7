theorem d_AC_init_0 : decode m_AC_init.2.1 0 = .ok (.aload_n 0, 1) := by decide +kernel
theorem d_AC_init_1 : decode m_AC_init.2.1 1 = .ok (.invokespecial 3, 3) := by decide +kernel
theorem d_AC_init_4 : decode m_AC_init.2.1 4 = .ok (.aload_n 0, 1) := by decide +kernel
theorem d_AC_init_5 : decode m_AC_init.2.1 5 = .ok (.bipush 6, 2) := by decide +kernel
theorem d_AC_init_7 : decode m_AC_init.2.1 7 = .ok (.anewarray 9, 3) := by decide +kernel
theorem d_AC_init_10 : decode m_AC_init.2.1 10 = .ok (.putfield 11, 3) := by decide +kernel
theorem d_AC_init_13 : decode m_AC_init.2.1 13 = .ok (.iconst 0, 1) := by decide +kernel
theorem d_AC_init_14 : decode m_AC_init.2.1 14 = .ok (.istore_n 1, 1) := by decide +kernel
theorem d_AC_init_15 : decode m_AC_init.2.1 15 = .ok (.iload_n 1, 1) := by decide +kernel
theorem d_AC_init_16 : decode m_AC_init.2.1 16 = .ok (.aload_n 0, 1) := by decide +kernel
theorem d_AC_init_17 : decode m_AC_init.2.1 17 = .ok (.getfield 11, 3) := by decide +kernel
theorem d_AC_init_20 : decode m_AC_init.2.1 20 = .ok (.arraylength, 1) := by decide +kernel
theorem d_AC_init_21 : decode m_AC_init.2.1 21 = .ok (.if_icmp .ge 22, 3) := by decide +kernel
theorem d_AC_init_24 : decode m_AC_init.2.1 24 = .ok (.aload_n 0, 1) := by decide +kernel
theorem d_AC_init_25 : decode m_AC_init.2.1 25 = .ok (.getfield 11, 3) := by decide +kernel
theorem d_AC_init_28 : decode m_AC_init.2.1 28 = .ok (.iload_n 1, 1) := by decide +kernel
theorem d_AC_init_29 : decode m_AC_init.2.1 29 = .ok (.new 9, 3) := by decide +kernel
theorem d_AC_init_32 : decode m_AC_init.2.1 32 = .ok (.dup, 1) := by decide +kernel
theorem d_AC_init_33 : decode m_AC_init.2.1 33 = .ok (.invokespecial 17, 3) := by decide +kernel
theorem d_AC_init_36 : decode m_AC_init.2.1 36 = .ok (.aastore, 1) := by decide +kernel
theorem d_AC_init_37 : decode m_AC_init.2.1 37 = .ok (.iinc 1 1, 3) := by decide +kernel
theorem d_AC_init_40 : decode m_AC_init.2.1 40 = .ok (.goto (-25), 3) := by decide +kernel
theorem d_AC_init_43 : decode m_AC_init.2.1 43 = .ok (.return_, 1) := by decide +kernel
theorem d_AC_keepDraft_0 : decode m_AC_keepDraft.2.1 0 = .ok (.aload_n 0, 1) := by decide +kernel
theorem d_AC_keepDraft_1 : decode m_AC_keepDraft.2.1 1 = .ok (.getfield 18, 3) := by decide +kernel
theorem d_AC_keepDraft_4 : decode m_AC_keepDraft.2.1 4 = .ok (.bipush 6, 2) := by decide +kernel
theorem d_AC_keepDraft_6 : decode m_AC_keepDraft.2.1 6 = .ok (.if_icmp .ge 23, 3) := by decide +kernel
theorem d_AC_keepDraft_9 : decode m_AC_keepDraft.2.1 9 = .ok (.aload_n 1, 1) := by decide +kernel
theorem d_AC_keepDraft_10 : decode m_AC_keepDraft.2.1 10 = .ok (.iconst 0, 1) := by decide +kernel
theorem d_AC_keepDraft_11 : decode m_AC_keepDraft.2.1 11 = .ok (.aload_n 0, 1) := by decide +kernel
theorem d_AC_keepDraft_12 : decode m_AC_keepDraft.2.1 12 = .ok (.getfield 11, 3) := by decide +kernel
theorem d_AC_keepDraft_15 : decode m_AC_keepDraft.2.1 15 = .ok (.aload_n 0, 1) := by decide +kernel
theorem d_AC_keepDraft_16 : decode m_AC_keepDraft.2.1 16 = .ok (.getfield 18, 3) := by decide +kernel
theorem d_AC_keepDraft_19 : decode m_AC_keepDraft.2.1 19 = .ok (.aaload, 1) := by decide +kernel
theorem d_AC_keepDraft_20 : decode m_AC_keepDraft.2.1 20 = .ok (.getfield 22, 3) := by decide +kernel
theorem d_AC_keepDraft_23 : decode m_AC_keepDraft.2.1 23 = .ok (.iconst 0, 1) := by decide +kernel
theorem d_AC_keepDraft_24 : decode m_AC_keepDraft.2.1 24 = .ok (.bipush 6, 2) := by decide +kernel
theorem d_AC_keepDraft_26 : decode m_AC_keepDraft.2.1 26 = .ok (.invokestatic 26, 3) := by decide +kernel
theorem d_AC_keepDraft_29 : decode m_AC_keepDraft.2.1 29 = .ok (.return_, 1) := by decide +kernel
theorem d_AC_addStep_0 : decode m_AC_addStep.2.1 0 = .ok (.aload_n 0, 1) := by decide +kernel
theorem d_AC_addStep_1 : decode m_AC_addStep.2.1 1 = .ok (.getfield 18, 3) := by decide +kernel
theorem d_AC_addStep_4 : decode m_AC_addStep.2.1 4 = .ok (.bipush 6, 2) := by decide +kernel
theorem d_AC_addStep_6 : decode m_AC_addStep.2.1 6 = .ok (.if_icmp .ge 49, 3) := by decide +kernel
theorem d_AC_addStep_9 : decode m_AC_addStep.2.1 9 = .ok (.aload_n 0, 1) := by decide +kernel
theorem d_AC_addStep_10 : decode m_AC_addStep.2.1 10 = .ok (.getfield 11, 3) := by decide +kernel
theorem d_AC_addStep_13 : decode m_AC_addStep.2.1 13 = .ok (.aload_n 0, 1) := by decide +kernel
theorem d_AC_addStep_14 : decode m_AC_addStep.2.1 14 = .ok (.getfield 18, 3) := by decide +kernel
theorem d_AC_addStep_17 : decode m_AC_addStep.2.1 17 = .ok (.aaload, 1) := by decide +kernel
theorem d_AC_addStep_18 : decode m_AC_addStep.2.1 18 = .ok (.astore 5, 2) := by decide +kernel
theorem d_AC_addStep_20 : decode m_AC_addStep.2.1 20 = .ok (.aload 5, 2) := by decide +kernel
theorem d_AC_addStep_22 : decode m_AC_addStep.2.1 22 = .ok (.iload_n 1, 1) := by decide +kernel
theorem d_AC_addStep_23 : decode m_AC_addStep.2.1 23 = .ok (.putfield 32, 3) := by decide +kernel
theorem d_AC_addStep_26 : decode m_AC_addStep.2.1 26 = .ok (.aload 5, 2) := by decide +kernel
theorem d_AC_addStep_28 : decode m_AC_addStep.2.1 28 = .ok (.iload_n 2, 1) := by decide +kernel
theorem d_AC_addStep_29 : decode m_AC_addStep.2.1 29 = .ok (.putfield 35, 3) := by decide +kernel
theorem d_AC_addStep_32 : decode m_AC_addStep.2.1 32 = .ok (.aload 5, 2) := by decide +kernel
theorem d_AC_addStep_34 : decode m_AC_addStep.2.1 34 = .ok (.iload_n 3, 1) := by decide +kernel
theorem d_AC_addStep_35 : decode m_AC_addStep.2.1 35 = .ok (.putfield 38, 3) := by decide +kernel
theorem d_AC_addStep_38 : decode m_AC_addStep.2.1 38 = .ok (.aload 5, 2) := by decide +kernel
theorem d_AC_addStep_40 : decode m_AC_addStep.2.1 40 = .ok (.iload 4, 2) := by decide +kernel
theorem d_AC_addStep_42 : decode m_AC_addStep.2.1 42 = .ok (.putfield 41, 3) := by decide +kernel
theorem d_AC_addStep_45 : decode m_AC_addStep.2.1 45 = .ok (.aload_n 0, 1) := by decide +kernel
theorem d_AC_addStep_46 : decode m_AC_addStep.2.1 46 = .ok (.dup, 1) := by decide +kernel
theorem d_AC_addStep_47 : decode m_AC_addStep.2.1 47 = .ok (.getfield 18, 3) := by decide +kernel
theorem d_AC_addStep_50 : decode m_AC_addStep.2.1 50 = .ok (.iconst 1, 1) := by decide +kernel
theorem d_AC_addStep_51 : decode m_AC_addStep.2.1 51 = .ok (.iadd, 1) := by decide +kernel
theorem d_AC_addStep_52 : decode m_AC_addStep.2.1 52 = .ok (.putfield 18, 3) := by decide +kernel
theorem d_AC_addStep_55 : decode m_AC_addStep.2.1 55 = .ok (.aload_n 0, 1) := by decide +kernel
theorem d_AC_addStep_56 : decode m_AC_addStep.2.1 56 = .ok (.getfield 18, 3) := by decide +kernel
theorem d_AC_addStep_59 : decode m_AC_addStep.2.1 59 = .ok (.ireturn, 1) := by decide +kernel
theorem d_CO_init_0 : decode m_CO_init.2.1 0 = .ok (.aload_n 0, 1) := by decide +kernel
theorem d_CO_init_1 : decode m_CO_init.2.1 1 = .ok (.invokespecial 1, 3) := by decide +kernel
theorem d_CO_init_4 : decode m_CO_init.2.1 4 = .ok (.return_, 1) := by decide +kernel
theorem d_CO_isStored_0 : decode m_CO_isStored.2.1 0 = .ok (.aload_n 0, 1) := by decide +kernel
theorem d_CO_isStored_1 : decode m_CO_isStored.2.1 1 = .ok (.getfield 7, 3) := by decide +kernel
theorem d_CO_isStored_4 : decode m_CO_isStored.2.1 4 = .ok (.iconst 1, 1) := by decide +kernel
theorem d_CO_isStored_5 : decode m_CO_isStored.2.1 5 = .ok (.if_icmp .eq 11, 3) := by decide +kernel
theorem d_CO_isStored_8 : decode m_CO_isStored.2.1 8 = .ok (.aload_n 0, 1) := by decide +kernel
theorem d_CO_isStored_9 : decode m_CO_isStored.2.1 9 = .ok (.getfield 7, 3) := by decide +kernel
theorem d_CO_isStored_12 : decode m_CO_isStored.2.1 12 = .ok (.iconst 2, 1) := by decide +kernel
theorem d_CO_isStored_13 : decode m_CO_isStored.2.1 13 = .ok (.if_icmp .ne 7, 3) := by decide +kernel
theorem d_CO_isStored_16 : decode m_CO_isStored.2.1 16 = .ok (.iconst 1, 1) := by decide +kernel
theorem d_CO_isStored_17 : decode m_CO_isStored.2.1 17 = .ok (.goto 4, 3) := by decide +kernel
theorem d_CO_isStored_20 : decode m_CO_isStored.2.1 20 = .ok (.iconst 0, 1) := by decide +kernel
theorem d_CO_isStored_21 : decode m_CO_isStored.2.1 21 = .ok (.ireturn, 1) := by decide +kernel
theorem d_CO_setFormula_0 : decode m_CO_setFormula.2.1 0 = .ok (.aload_n 0, 1) := by decide +kernel
theorem d_CO_setFormula_1 : decode m_CO_setFormula.2.1 1 = .ok (.iload_n 1, 1) := by decide +kernel
theorem d_CO_setFormula_2 : decode m_CO_setFormula.2.1 2 = .ok (.putfield 13, 3) := by decide +kernel
theorem d_CO_setFormula_5 : decode m_CO_setFormula.2.1 5 = .ok (.aload_n 0, 1) := by decide +kernel
theorem d_CO_setFormula_6 : decode m_CO_setFormula.2.1 6 = .ok (.iload_n 2, 1) := by decide +kernel
theorem d_CO_setFormula_7 : decode m_CO_setFormula.2.1 7 = .ok (.putfield 16, 3) := by decide +kernel
theorem d_CO_setFormula_10 : decode m_CO_setFormula.2.1 10 = .ok (.aload_n 0, 1) := by decide +kernel
theorem d_CO_setFormula_11 : decode m_CO_setFormula.2.1 11 = .ok (.iload_n 3, 1) := by decide +kernel
theorem d_CO_setFormula_12 : decode m_CO_setFormula.2.1 12 = .ok (.putfield 19, 3) := by decide +kernel
theorem d_CO_setFormula_15 : decode m_CO_setFormula.2.1 15 = .ok (.aload_n 0, 1) := by decide +kernel
theorem d_CO_setFormula_16 : decode m_CO_setFormula.2.1 16 = .ok (.iload 4, 2) := by decide +kernel
theorem d_CO_setFormula_18 : decode m_CO_setFormula.2.1 18 = .ok (.putfield 22, 3) := by decide +kernel
theorem d_CO_setFormula_21 : decode m_CO_setFormula.2.1 21 = .ok (.return_, 1) := by decide +kernel
theorem d_QU_init_0 : decode m_QU_init.2.1 0 = .ok (.aload_n 0, 1) := by decide +kernel
theorem d_QU_init_1 : decode m_QU_init.2.1 1 = .ok (.invokespecial 3, 3) := by decide +kernel
theorem d_QU_init_4 : decode m_QU_init.2.1 4 = .ok (.aload_n 0, 1) := by decide +kernel
theorem d_QU_init_5 : decode m_QU_init.2.1 5 = .ok (.iconst (-1), 1) := by decide +kernel
theorem d_QU_init_6 : decode m_QU_init.2.1 6 = .ok (.putfield 9, 3) := by decide +kernel
theorem d_QU_init_9 : decode m_QU_init.2.1 9 = .ok (.aload_n 0, 1) := by decide +kernel
theorem d_QU_init_10 : decode m_QU_init.2.1 10 = .ok (.iconst (-1), 1) := by decide +kernel
theorem d_QU_init_11 : decode m_QU_init.2.1 11 = .ok (.putfield 15, 3) := by decide +kernel
theorem d_QU_init_14 : decode m_QU_init.2.1 14 = .ok (.aload_n 0, 1) := by decide +kernel
theorem d_QU_init_15 : decode m_QU_init.2.1 15 = .ok (.iconst (-1), 1) := by decide +kernel
theorem d_QU_init_16 : decode m_QU_init.2.1 16 = .ok (.putfield 18, 3) := by decide +kernel
theorem d_QU_init_19 : decode m_QU_init.2.1 19 = .ok (.aload_n 0, 1) := by decide +kernel
theorem d_QU_init_20 : decode m_QU_init.2.1 20 = .ok (.iconst (-1), 1) := by decide +kernel
theorem d_QU_init_21 : decode m_QU_init.2.1 21 = .ok (.putfield 21, 3) := by decide +kernel
theorem d_QU_init_24 : decode m_QU_init.2.1 24 = .ok (.aload_n 0, 1) := by decide +kernel
theorem d_QU_init_25 : decode m_QU_init.2.1 25 = .ok (.iconst (-1), 1) := by decide +kernel
theorem d_QU_init_26 : decode m_QU_init.2.1 26 = .ok (.putfield 24, 3) := by decide +kernel
theorem d_QU_init_29 : decode m_QU_init.2.1 29 = .ok (.aload_n 0, 1) := by decide +kernel
theorem d_QU_init_30 : decode m_QU_init.2.1 30 = .ok (.bipush 54, 2) := by decide +kernel
theorem d_QU_init_32 : decode m_QU_init.2.1 32 = .ok (.newarray .int, 2) := by decide +kernel
theorem d_QU_init_34 : decode m_QU_init.2.1 34 = .ok (.putfield 27, 3) := by decide +kernel
theorem d_QU_init_37 : decode m_QU_init.2.1 37 = .ok (.aload_n 0, 1) := by decide +kernel
theorem d_QU_init_38 : decode m_QU_init.2.1 38 = .ok (.bipush 54, 2) := by decide +kernel
theorem d_QU_init_40 : decode m_QU_init.2.1 40 = .ok (.newarray .int, 2) := by decide +kernel
theorem d_QU_init_42 : decode m_QU_init.2.1 42 = .ok (.putfield 31, 3) := by decide +kernel
theorem d_QU_init_45 : decode m_QU_init.2.1 45 = .ok (.aload_n 0, 1) := by decide +kernel
theorem d_QU_init_46 : decode m_QU_init.2.1 46 = .ok (.bipush 6, 2) := by decide +kernel
theorem d_QU_init_48 : decode m_QU_init.2.1 48 = .ok (.newarray .int, 2) := by decide +kernel
theorem d_QU_init_50 : decode m_QU_init.2.1 50 = .ok (.putfield 34, 3) := by decide +kernel
theorem d_QU_init_53 : decode m_QU_init.2.1 53 = .ok (.aload_n 0, 1) := by decide +kernel
theorem d_QU_init_54 : decode m_QU_init.2.1 54 = .ok (.bipush 6, 2) := by decide +kernel
theorem d_QU_init_56 : decode m_QU_init.2.1 56 = .ok (.newarray .int, 2) := by decide +kernel
theorem d_QU_init_58 : decode m_QU_init.2.1 58 = .ok (.putfield 37, 3) := by decide +kernel
theorem d_QU_init_61 : decode m_QU_init.2.1 61 = .ok (.aload_n 0, 1) := by decide +kernel
theorem d_QU_init_62 : decode m_QU_init.2.1 62 = .ok (.bipush 6, 2) := by decide +kernel
theorem d_QU_init_64 : decode m_QU_init.2.1 64 = .ok (.newarray .int, 2) := by decide +kernel
theorem d_QU_init_66 : decode m_QU_init.2.1 66 = .ok (.putfield 40, 3) := by decide +kernel
theorem d_QU_init_69 : decode m_QU_init.2.1 69 = .ok (.aload_n 0, 1) := by decide +kernel
theorem d_QU_init_70 : decode m_QU_init.2.1 70 = .ok (.bipush 6, 2) := by decide +kernel
theorem d_QU_init_72 : decode m_QU_init.2.1 72 = .ok (.newarray .int, 2) := by decide +kernel
theorem d_QU_init_74 : decode m_QU_init.2.1 74 = .ok (.putfield 43, 3) := by decide +kernel
theorem d_QU_init_77 : decode m_QU_init.2.1 77 = .ok (.aload_n 0, 1) := by decide +kernel
theorem d_QU_init_78 : decode m_QU_init.2.1 78 = .ok (.getfield 27, 3) := by decide +kernel
theorem d_QU_init_81 : decode m_QU_init.2.1 81 = .ok (.iconst (-1), 1) := by decide +kernel
theorem d_QU_init_82 : decode m_QU_init.2.1 82 = .ok (.invokestatic 46, 3) := by decide +kernel
theorem d_QU_init_85 : decode m_QU_init.2.1 85 = .ok (.return_, 1) := by decide +kernel
theorem d_QU_originOf_0 : decode m_QU_originOf.2.1 0 = .ok (.iload_n 1, 1) := by decide +kernel
theorem d_QU_originOf_1 : decode m_QU_originOf.2.1 1 = .ok (.ifCond .lt 9, 3) := by decide +kernel
theorem d_QU_originOf_4 : decode m_QU_originOf.2.1 4 = .ok (.iload_n 1, 1) := by decide +kernel
theorem d_QU_originOf_5 : decode m_QU_originOf.2.1 5 = .ok (.bipush 54, 2) := by decide +kernel
theorem d_QU_originOf_7 : decode m_QU_originOf.2.1 7 = .ok (.if_icmp .lt 7, 3) := by decide +kernel
theorem d_QU_originOf_10 : decode m_QU_originOf.2.1 10 = .ok (.iconst (-1), 1) := by decide +kernel
theorem d_QU_originOf_11 : decode m_QU_originOf.2.1 11 = .ok (.goto 9, 3) := by decide +kernel
theorem d_QU_originOf_14 : decode m_QU_originOf.2.1 14 = .ok (.aload_n 0, 1) := by decide +kernel
theorem d_QU_originOf_15 : decode m_QU_originOf.2.1 15 = .ok (.getfield 27, 3) := by decide +kernel
theorem d_QU_originOf_18 : decode m_QU_originOf.2.1 18 = .ok (.iload_n 1, 1) := by decide +kernel
theorem d_QU_originOf_19 : decode m_QU_originOf.2.1 19 = .ok (.iaload, 1) := by decide +kernel
theorem d_QU_originOf_20 : decode m_QU_originOf.2.1 20 = .ok (.ireturn, 1) := by decide +kernel
theorem d_QU_addTableColumns_0 : decode m_QU_addTableColumns.2.1 0 = .ok (.iconst 0, 1) := by decide +kernel
theorem d_QU_addTableColumns_1 : decode m_QU_addTableColumns.2.1 1 = .ok (.istore_n 3, 1) := by decide +kernel
theorem d_QU_addTableColumns_2 : decode m_QU_addTableColumns.2.1 2 = .ok (.iload_n 3, 1) := by decide +kernel
theorem d_QU_addTableColumns_3 : decode m_QU_addTableColumns.2.1 3 = .ok (.iload_n 2, 1) := by decide +kernel
theorem d_QU_addTableColumns_4 : decode m_QU_addTableColumns.2.1 4 = .ok (.if_icmp .ge 56, 3) := by decide +kernel
theorem d_QU_addTableColumns_7 : decode m_QU_addTableColumns.2.1 7 = .ok (.aload_n 0, 1) := by decide +kernel
theorem d_QU_addTableColumns_8 : decode m_QU_addTableColumns.2.1 8 = .ok (.getfield 52, 3) := by decide +kernel
theorem d_QU_addTableColumns_11 : decode m_QU_addTableColumns.2.1 11 = .ok (.bipush 54, 2) := by decide +kernel
theorem d_QU_addTableColumns_13 : decode m_QU_addTableColumns.2.1 13 = .ok (.if_icmp .ge 47, 3) := by decide +kernel
theorem d_QU_addTableColumns_16 : decode m_QU_addTableColumns.2.1 16 = .ok (.aload_n 0, 1) := by decide +kernel
theorem d_QU_addTableColumns_17 : decode m_QU_addTableColumns.2.1 17 = .ok (.getfield 27, 3) := by decide +kernel
theorem d_QU_addTableColumns_20 : decode m_QU_addTableColumns.2.1 20 = .ok (.aload_n 0, 1) := by decide +kernel
theorem d_QU_addTableColumns_21 : decode m_QU_addTableColumns.2.1 21 = .ok (.getfield 52, 3) := by decide +kernel
theorem d_QU_addTableColumns_24 : decode m_QU_addTableColumns.2.1 24 = .ok (.bipush 10, 2) := by decide +kernel
theorem d_QU_addTableColumns_26 : decode m_QU_addTableColumns.2.1 26 = .ok (.iload_n 1, 1) := by decide +kernel
theorem d_QU_addTableColumns_27 : decode m_QU_addTableColumns.2.1 27 = .ok (.imul, 1) := by decide +kernel
theorem d_QU_addTableColumns_28 : decode m_QU_addTableColumns.2.1 28 = .ok (.iload_n 3, 1) := by decide +kernel
theorem d_QU_addTableColumns_29 : decode m_QU_addTableColumns.2.1 29 = .ok (.iadd, 1) := by decide +kernel
theorem d_QU_addTableColumns_30 : decode m_QU_addTableColumns.2.1 30 = .ok (.iastore, 1) := by decide +kernel
theorem d_QU_addTableColumns_31 : decode m_QU_addTableColumns.2.1 31 = .ok (.aload_n 0, 1) := by decide +kernel
theorem d_QU_addTableColumns_32 : decode m_QU_addTableColumns.2.1 32 = .ok (.getfield 31, 3) := by decide +kernel
theorem d_QU_addTableColumns_35 : decode m_QU_addTableColumns.2.1 35 = .ok (.aload_n 0, 1) := by decide +kernel
theorem d_QU_addTableColumns_36 : decode m_QU_addTableColumns.2.1 36 = .ok (.getfield 52, 3) := by decide +kernel
theorem d_QU_addTableColumns_39 : decode m_QU_addTableColumns.2.1 39 = .ok (.aload_n 0, 1) := by decide +kernel
theorem d_QU_addTableColumns_40 : decode m_QU_addTableColumns.2.1 40 = .ok (.getfield 55, 3) := by decide +kernel
theorem d_QU_addTableColumns_43 : decode m_QU_addTableColumns.2.1 43 = .ok (.iastore, 1) := by decide +kernel
theorem d_QU_addTableColumns_44 : decode m_QU_addTableColumns.2.1 44 = .ok (.aload_n 0, 1) := by decide +kernel
theorem d_QU_addTableColumns_45 : decode m_QU_addTableColumns.2.1 45 = .ok (.dup, 1) := by decide +kernel
theorem d_QU_addTableColumns_46 : decode m_QU_addTableColumns.2.1 46 = .ok (.getfield 52, 3) := by decide +kernel
theorem d_QU_addTableColumns_49 : decode m_QU_addTableColumns.2.1 49 = .ok (.iconst 1, 1) := by decide +kernel
theorem d_QU_addTableColumns_50 : decode m_QU_addTableColumns.2.1 50 = .ok (.iadd, 1) := by decide +kernel
theorem d_QU_addTableColumns_51 : decode m_QU_addTableColumns.2.1 51 = .ok (.putfield 52, 3) := by decide +kernel
theorem d_QU_addTableColumns_54 : decode m_QU_addTableColumns.2.1 54 = .ok (.iinc 3 1, 3) := by decide +kernel
theorem d_QU_addTableColumns_57 : decode m_QU_addTableColumns.2.1 57 = .ok (.goto (-55), 3) := by decide +kernel
theorem d_QU_addTableColumns_60 : decode m_QU_addTableColumns.2.1 60 = .ok (.aload_n 0, 1) := by decide +kernel
theorem d_QU_addTableColumns_61 : decode m_QU_addTableColumns.2.1 61 = .ok (.dup, 1) := by decide +kernel
theorem d_QU_addTableColumns_62 : decode m_QU_addTableColumns.2.1 62 = .ok (.getfield 55, 3) := by decide +kernel
theorem d_QU_addTableColumns_65 : decode m_QU_addTableColumns.2.1 65 = .ok (.iconst 1, 1) := by decide +kernel
theorem d_QU_addTableColumns_66 : decode m_QU_addTableColumns.2.1 66 = .ok (.iadd, 1) := by decide +kernel
theorem d_QU_addTableColumns_67 : decode m_QU_addTableColumns.2.1 67 = .ok (.putfield 55, 3) := by decide +kernel
theorem d_QU_addTableColumns_70 : decode m_QU_addTableColumns.2.1 70 = .ok (.return_, 1) := by decide +kernel
theorem d_QU_addColumnsOf_0 : decode m_QU_addColumnsOf.2.1 0 = .ok (.aload_n 0, 1) := by decide +kernel
theorem d_QU_addColumnsOf_1 : decode m_QU_addColumnsOf.2.1 1 = .ok (.aload_n 1, 1) := by decide +kernel
theorem d_QU_addColumnsOf_2 : decode m_QU_addColumnsOf.2.1 2 = .ok (.getfield 52, 3) := by decide +kernel
theorem d_QU_addColumnsOf_5 : decode m_QU_addColumnsOf.2.1 5 = .ok (.bipush 54, 2) := by decide +kernel
theorem d_QU_addColumnsOf_7 : decode m_QU_addColumnsOf.2.1 7 = .ok (.invokestatic 58, 3) := by decide +kernel
theorem d_QU_addColumnsOf_10 : decode m_QU_addColumnsOf.2.1 10 = .ok (.putfield 52, 3) := by decide +kernel
theorem d_QU_addColumnsOf_13 : decode m_QU_addColumnsOf.2.1 13 = .ok (.aload_n 0, 1) := by decide +kernel
theorem d_QU_addColumnsOf_14 : decode m_QU_addColumnsOf.2.1 14 = .ok (.aload_n 1, 1) := by decide +kernel
theorem d_QU_addColumnsOf_15 : decode m_QU_addColumnsOf.2.1 15 = .ok (.getfield 55, 3) := by decide +kernel
theorem d_QU_addColumnsOf_18 : decode m_QU_addColumnsOf.2.1 18 = .ok (.putfield 55, 3) := by decide +kernel
theorem d_QU_addColumnsOf_21 : decode m_QU_addColumnsOf.2.1 21 = .ok (.iconst 0, 1) := by decide +kernel
theorem d_QU_addColumnsOf_22 : decode m_QU_addColumnsOf.2.1 22 = .ok (.istore_n 2, 1) := by decide +kernel
theorem d_QU_addColumnsOf_23 : decode m_QU_addColumnsOf.2.1 23 = .ok (.iload_n 2, 1) := by decide +kernel
theorem d_QU_addColumnsOf_24 : decode m_QU_addColumnsOf.2.1 24 = .ok (.aload_n 0, 1) := by decide +kernel
theorem d_QU_addColumnsOf_25 : decode m_QU_addColumnsOf.2.1 25 = .ok (.getfield 52, 3) := by decide +kernel
theorem d_QU_addColumnsOf_28 : decode m_QU_addColumnsOf.2.1 28 = .ok (.if_icmp .ge 33, 3) := by decide +kernel
theorem d_QU_addColumnsOf_31 : decode m_QU_addColumnsOf.2.1 31 = .ok (.aload_n 0, 1) := by decide +kernel
theorem d_QU_addColumnsOf_32 : decode m_QU_addColumnsOf.2.1 32 = .ok (.getfield 27, 3) := by decide +kernel
theorem d_QU_addColumnsOf_35 : decode m_QU_addColumnsOf.2.1 35 = .ok (.iload_n 2, 1) := by decide +kernel
theorem d_QU_addColumnsOf_36 : decode m_QU_addColumnsOf.2.1 36 = .ok (.aload_n 1, 1) := by decide +kernel
theorem d_QU_addColumnsOf_37 : decode m_QU_addColumnsOf.2.1 37 = .ok (.getfield 27, 3) := by decide +kernel
theorem d_QU_addColumnsOf_40 : decode m_QU_addColumnsOf.2.1 40 = .ok (.iload_n 2, 1) := by decide +kernel
theorem d_QU_addColumnsOf_41 : decode m_QU_addColumnsOf.2.1 41 = .ok (.iaload, 1) := by decide +kernel
theorem d_QU_addColumnsOf_42 : decode m_QU_addColumnsOf.2.1 42 = .ok (.iastore, 1) := by decide +kernel
theorem d_QU_addColumnsOf_43 : decode m_QU_addColumnsOf.2.1 43 = .ok (.aload_n 0, 1) := by decide +kernel
theorem d_QU_addColumnsOf_44 : decode m_QU_addColumnsOf.2.1 44 = .ok (.getfield 31, 3) := by decide +kernel
theorem d_QU_addColumnsOf_47 : decode m_QU_addColumnsOf.2.1 47 = .ok (.iload_n 2, 1) := by decide +kernel
theorem d_QU_addColumnsOf_48 : decode m_QU_addColumnsOf.2.1 48 = .ok (.aload_n 1, 1) := by decide +kernel
theorem d_QU_addColumnsOf_49 : decode m_QU_addColumnsOf.2.1 49 = .ok (.getfield 31, 3) := by decide +kernel
theorem d_QU_addColumnsOf_52 : decode m_QU_addColumnsOf.2.1 52 = .ok (.iload_n 2, 1) := by decide +kernel
theorem d_QU_addColumnsOf_53 : decode m_QU_addColumnsOf.2.1 53 = .ok (.iaload, 1) := by decide +kernel
theorem d_QU_addColumnsOf_54 : decode m_QU_addColumnsOf.2.1 54 = .ok (.iastore, 1) := by decide +kernel
theorem d_QU_addColumnsOf_55 : decode m_QU_addColumnsOf.2.1 55 = .ok (.iinc 2 1, 3) := by decide +kernel
theorem d_QU_addColumnsOf_58 : decode m_QU_addColumnsOf.2.1 58 = .ok (.goto (-35), 3) := by decide +kernel
theorem d_QU_addColumnsOf_61 : decode m_QU_addColumnsOf.2.1 61 = .ok (.return_, 1) := by decide +kernel
theorem d_QU_addCondition_0 : decode m_QU_addCondition.2.1 0 = .ok (.aload_n 0, 1) := by decide +kernel
theorem d_QU_addCondition_1 : decode m_QU_addCondition.2.1 1 = .ok (.getfield 64, 3) := by decide +kernel
theorem d_QU_addCondition_4 : decode m_QU_addCondition.2.1 4 = .ok (.bipush 6, 2) := by decide +kernel
theorem d_QU_addCondition_6 : decode m_QU_addCondition.2.1 6 = .ok (.if_icmp .ge 54, 3) := by decide +kernel
theorem d_QU_addCondition_9 : decode m_QU_addCondition.2.1 9 = .ok (.aload_n 0, 1) := by decide +kernel
theorem d_QU_addCondition_10 : decode m_QU_addCondition.2.1 10 = .ok (.getfield 34, 3) := by decide +kernel
theorem d_QU_addCondition_13 : decode m_QU_addCondition.2.1 13 = .ok (.aload_n 0, 1) := by decide +kernel
theorem d_QU_addCondition_14 : decode m_QU_addCondition.2.1 14 = .ok (.getfield 64, 3) := by decide +kernel
theorem d_QU_addCondition_17 : decode m_QU_addCondition.2.1 17 = .ok (.iload_n 1, 1) := by decide +kernel
theorem d_QU_addCondition_18 : decode m_QU_addCondition.2.1 18 = .ok (.iastore, 1) := by decide +kernel
theorem d_QU_addCondition_19 : decode m_QU_addCondition.2.1 19 = .ok (.aload_n 0, 1) := by decide +kernel
theorem d_QU_addCondition_20 : decode m_QU_addCondition.2.1 20 = .ok (.getfield 37, 3) := by decide +kernel
theorem d_QU_addCondition_23 : decode m_QU_addCondition.2.1 23 = .ok (.aload_n 0, 1) := by decide +kernel
theorem d_QU_addCondition_24 : decode m_QU_addCondition.2.1 24 = .ok (.getfield 64, 3) := by decide +kernel
theorem d_QU_addCondition_27 : decode m_QU_addCondition.2.1 27 = .ok (.iload_n 2, 1) := by decide +kernel
theorem d_QU_addCondition_28 : decode m_QU_addCondition.2.1 28 = .ok (.iastore, 1) := by decide +kernel
theorem d_QU_addCondition_29 : decode m_QU_addCondition.2.1 29 = .ok (.aload_n 0, 1) := by decide +kernel
theorem d_QU_addCondition_30 : decode m_QU_addCondition.2.1 30 = .ok (.getfield 40, 3) := by decide +kernel
theorem d_QU_addCondition_33 : decode m_QU_addCondition.2.1 33 = .ok (.aload_n 0, 1) := by decide +kernel
theorem d_QU_addCondition_34 : decode m_QU_addCondition.2.1 34 = .ok (.getfield 64, 3) := by decide +kernel
theorem d_QU_addCondition_37 : decode m_QU_addCondition.2.1 37 = .ok (.iload_n 3, 1) := by decide +kernel
theorem d_QU_addCondition_38 : decode m_QU_addCondition.2.1 38 = .ok (.iastore, 1) := by decide +kernel
theorem d_QU_addCondition_39 : decode m_QU_addCondition.2.1 39 = .ok (.aload_n 0, 1) := by decide +kernel
theorem d_QU_addCondition_40 : decode m_QU_addCondition.2.1 40 = .ok (.getfield 43, 3) := by decide +kernel
theorem d_QU_addCondition_43 : decode m_QU_addCondition.2.1 43 = .ok (.aload_n 0, 1) := by decide +kernel
theorem d_QU_addCondition_44 : decode m_QU_addCondition.2.1 44 = .ok (.getfield 64, 3) := by decide +kernel
theorem d_QU_addCondition_47 : decode m_QU_addCondition.2.1 47 = .ok (.iload 4, 2) := by decide +kernel
theorem d_QU_addCondition_49 : decode m_QU_addCondition.2.1 49 = .ok (.iastore, 1) := by decide +kernel
theorem d_QU_addCondition_50 : decode m_QU_addCondition.2.1 50 = .ok (.aload_n 0, 1) := by decide +kernel
theorem d_QU_addCondition_51 : decode m_QU_addCondition.2.1 51 = .ok (.dup, 1) := by decide +kernel
theorem d_QU_addCondition_52 : decode m_QU_addCondition.2.1 52 = .ok (.getfield 64, 3) := by decide +kernel
theorem d_QU_addCondition_55 : decode m_QU_addCondition.2.1 55 = .ok (.iconst 1, 1) := by decide +kernel
theorem d_QU_addCondition_56 : decode m_QU_addCondition.2.1 56 = .ok (.iadd, 1) := by decide +kernel
theorem d_QU_addCondition_57 : decode m_QU_addCondition.2.1 57 = .ok (.putfield 64, 3) := by decide +kernel
theorem d_QU_addCondition_60 : decode m_QU_addCondition.2.1 60 = .ok (.aload_n 0, 1) := by decide +kernel
theorem d_QU_addCondition_61 : decode m_QU_addCondition.2.1 61 = .ok (.getfield 64, 3) := by decide +kernel
theorem d_QU_addCondition_64 : decode m_QU_addCondition.2.1 64 = .ok (.ireturn, 1) := by decide +kernel
theorem d_QU_hasConditionOn_0 : decode m_QU_hasConditionOn.2.1 0 = .ok (.iconst 0, 1) := by decide +kernel
theorem d_QU_hasConditionOn_1 : decode m_QU_hasConditionOn.2.1 1 = .ok (.istore_n 2, 1) := by decide +kernel
theorem d_QU_hasConditionOn_2 : decode m_QU_hasConditionOn.2.1 2 = .ok (.iload_n 2, 1) := by decide +kernel
theorem d_QU_hasConditionOn_3 : decode m_QU_hasConditionOn.2.1 3 = .ok (.aload_n 0, 1) := by decide +kernel
theorem d_QU_hasConditionOn_4 : decode m_QU_hasConditionOn.2.1 4 = .ok (.getfield 64, 3) := by decide +kernel
theorem d_QU_hasConditionOn_7 : decode m_QU_hasConditionOn.2.1 7 = .ok (.if_icmp .ge 31, 3) := by decide +kernel
theorem d_QU_hasConditionOn_10 : decode m_QU_hasConditionOn.2.1 10 = .ok (.iload_n 2, 1) := by decide +kernel
theorem d_QU_hasConditionOn_11 : decode m_QU_hasConditionOn.2.1 11 = .ok (.bipush 6, 2) := by decide +kernel
theorem d_QU_hasConditionOn_13 : decode m_QU_hasConditionOn.2.1 13 = .ok (.if_icmp .ge 25, 3) := by decide +kernel
theorem d_QU_hasConditionOn_16 : decode m_QU_hasConditionOn.2.1 16 = .ok (.aload_n 0, 1) := by decide +kernel
theorem d_QU_hasConditionOn_17 : decode m_QU_hasConditionOn.2.1 17 = .ok (.aload_n 0, 1) := by decide +kernel
theorem d_QU_hasConditionOn_18 : decode m_QU_hasConditionOn.2.1 18 = .ok (.getfield 37, 3) := by decide +kernel
theorem d_QU_hasConditionOn_21 : decode m_QU_hasConditionOn.2.1 21 = .ok (.iload_n 2, 1) := by decide +kernel
theorem d_QU_hasConditionOn_22 : decode m_QU_hasConditionOn.2.1 22 = .ok (.iaload, 1) := by decide +kernel
theorem d_QU_hasConditionOn_23 : decode m_QU_hasConditionOn.2.1 23 = .ok (.invokevirtual 67, 3) := by decide +kernel
theorem d_QU_hasConditionOn_26 : decode m_QU_hasConditionOn.2.1 26 = .ok (.iload_n 1, 1) := by decide +kernel
theorem d_QU_hasConditionOn_27 : decode m_QU_hasConditionOn.2.1 27 = .ok (.if_icmp .ne 5, 3) := by decide +kernel
theorem d_QU_hasConditionOn_30 : decode m_QU_hasConditionOn.2.1 30 = .ok (.iconst 1, 1) := by decide +kernel
theorem d_QU_hasConditionOn_31 : decode m_QU_hasConditionOn.2.1 31 = .ok (.ireturn, 1) := by decide +kernel
theorem d_QU_hasConditionOn_32 : decode m_QU_hasConditionOn.2.1 32 = .ok (.iinc 2 1, 3) := by decide +kernel
theorem d_QU_hasConditionOn_35 : decode m_QU_hasConditionOn.2.1 35 = .ok (.goto (-33), 3) := by decide +kernel
theorem d_QU_hasConditionOn_38 : decode m_QU_hasConditionOn.2.1 38 = .ok (.iconst 0, 1) := by decide +kernel
theorem d_QU_hasConditionOn_39 : decode m_QU_hasConditionOn.2.1 39 = .ok (.ireturn, 1) := by decide +kernel
theorem d_QU_meets_0 : decode m_QU_meets.2.1 0 = .ok (.iload_n 0, 1) := by decide +kernel
theorem d_QU_meets_1 : decode m_QU_meets.2.1 1 = .ok (.tableswitch 66 0 2 #[27, 38, 49], 27) := by decide +kernel
theorem d_QU_meets_28 : decode m_QU_meets.2.1 28 = .ok (.iload_n 1, 1) := by decide +kernel
theorem d_QU_meets_29 : decode m_QU_meets.2.1 29 = .ok (.iload_n 2, 1) := by decide +kernel
theorem d_QU_meets_30 : decode m_QU_meets.2.1 30 = .ok (.if_icmp .ne 7, 3) := by decide +kernel
theorem d_QU_meets_33 : decode m_QU_meets.2.1 33 = .ok (.iconst 1, 1) := by decide +kernel
theorem d_QU_meets_34 : decode m_QU_meets.2.1 34 = .ok (.goto 4, 3) := by decide +kernel
theorem d_QU_meets_37 : decode m_QU_meets.2.1 37 = .ok (.iconst 0, 1) := by decide +kernel
theorem d_QU_meets_38 : decode m_QU_meets.2.1 38 = .ok (.ireturn, 1) := by decide +kernel
theorem d_QU_meets_39 : decode m_QU_meets.2.1 39 = .ok (.iload_n 1, 1) := by decide +kernel
theorem d_QU_meets_40 : decode m_QU_meets.2.1 40 = .ok (.iload_n 2, 1) := by decide +kernel
theorem d_QU_meets_41 : decode m_QU_meets.2.1 41 = .ok (.if_icmp .lt 7, 3) := by decide +kernel
theorem d_QU_meets_44 : decode m_QU_meets.2.1 44 = .ok (.iconst 1, 1) := by decide +kernel
theorem d_QU_meets_45 : decode m_QU_meets.2.1 45 = .ok (.goto 4, 3) := by decide +kernel
theorem d_QU_meets_48 : decode m_QU_meets.2.1 48 = .ok (.iconst 0, 1) := by decide +kernel
theorem d_QU_meets_49 : decode m_QU_meets.2.1 49 = .ok (.ireturn, 1) := by decide +kernel
theorem d_QU_meets_50 : decode m_QU_meets.2.1 50 = .ok (.iload_n 1, 1) := by decide +kernel
theorem d_QU_meets_51 : decode m_QU_meets.2.1 51 = .ok (.ldc 71, 2) := by decide +kernel
theorem d_QU_meets_53 : decode m_QU_meets.2.1 53 = .ok (.if_icmp .eq 12, 3) := by decide +kernel
theorem d_QU_meets_56 : decode m_QU_meets.2.1 56 = .ok (.iload_n 1, 1) := by decide +kernel
theorem d_QU_meets_57 : decode m_QU_meets.2.1 57 = .ok (.iload_n 2, 1) := by decide +kernel
theorem d_QU_meets_58 : decode m_QU_meets.2.1 58 = .ok (.if_icmp .gt 7, 3) := by decide +kernel
theorem d_QU_meets_61 : decode m_QU_meets.2.1 61 = .ok (.iconst 1, 1) := by decide +kernel
theorem d_QU_meets_62 : decode m_QU_meets.2.1 62 = .ok (.goto 4, 3) := by decide +kernel
theorem d_QU_meets_65 : decode m_QU_meets.2.1 65 = .ok (.iconst 0, 1) := by decide +kernel
theorem d_QU_meets_66 : decode m_QU_meets.2.1 66 = .ok (.ireturn, 1) := by decide +kernel
theorem d_QU_meets_67 : decode m_QU_meets.2.1 67 = .ok (.iload_n 1, 1) := by decide +kernel
theorem d_QU_meets_68 : decode m_QU_meets.2.1 68 = .ok (.ldc 71, 2) := by decide +kernel
theorem d_QU_meets_70 : decode m_QU_meets.2.1 70 = .ok (.if_icmp .ne 7, 3) := by decide +kernel
theorem d_QU_meets_73 : decode m_QU_meets.2.1 73 = .ok (.iconst 1, 1) := by decide +kernel
theorem d_QU_meets_74 : decode m_QU_meets.2.1 74 = .ok (.goto 4, 3) := by decide +kernel
theorem d_QU_meets_77 : decode m_QU_meets.2.1 77 = .ok (.iconst 0, 1) := by decide +kernel
theorem d_QU_meets_78 : decode m_QU_meets.2.1 78 = .ok (.ireturn, 1) := by decide +kernel
theorem d_RE_init_0 : decode m_RE_init.2.1 0 = .ok (.aload_n 0, 1) := by decide +kernel
theorem d_RE_init_1 : decode m_RE_init.2.1 1 = .ok (.invokespecial 1, 3) := by decide +kernel
theorem d_RE_init_4 : decode m_RE_init.2.1 4 = .ok (.aload_n 0, 1) := by decide +kernel
theorem d_RE_init_5 : decode m_RE_init.2.1 5 = .ok (.iconst (-1), 1) := by decide +kernel
theorem d_RE_init_6 : decode m_RE_init.2.1 6 = .ok (.putfield 7, 3) := by decide +kernel
theorem d_RE_init_9 : decode m_RE_init.2.1 9 = .ok (.aload_n 0, 1) := by decide +kernel
theorem d_RE_init_10 : decode m_RE_init.2.1 10 = .ok (.iconst (-1), 1) := by decide +kernel
theorem d_RE_init_11 : decode m_RE_init.2.1 11 = .ok (.putfield 13, 3) := by decide +kernel
theorem d_RE_init_14 : decode m_RE_init.2.1 14 = .ok (.aload_n 0, 1) := by decide +kernel
theorem d_RE_init_15 : decode m_RE_init.2.1 15 = .ok (.iconst (-1), 1) := by decide +kernel
theorem d_RE_init_16 : decode m_RE_init.2.1 16 = .ok (.putfield 16, 3) := by decide +kernel
theorem d_RE_init_19 : decode m_RE_init.2.1 19 = .ok (.return_, 1) := by decide +kernel
theorem d_RE_clear_0 : decode m_RE_clear.2.1 0 = .ok (.aload_n 0, 1) := by decide +kernel
theorem d_RE_clear_1 : decode m_RE_clear.2.1 1 = .ok (.iconst 0, 1) := by decide +kernel
theorem d_RE_clear_2 : decode m_RE_clear.2.1 2 = .ok (.iconst (-1), 1) := by decide +kernel
theorem d_RE_clear_3 : decode m_RE_clear.2.1 3 = .ok (.iconst (-1), 1) := by decide +kernel
theorem d_RE_clear_4 : decode m_RE_clear.2.1 4 = .ok (.iconst (-1), 1) := by decide +kernel
theorem d_RE_clear_5 : decode m_RE_clear.2.1 5 = .ok (.invokevirtual 19, 3) := by decide +kernel
theorem d_RE_clear_8 : decode m_RE_clear.2.1 8 = .ok (.return_, 1) := by decide +kernel
theorem d_RE_set_0 : decode m_RE_set.2.1 0 = .ok (.aload_n 0, 1) := by decide +kernel
theorem d_RE_set_1 : decode m_RE_set.2.1 1 = .ok (.iconst 0, 1) := by decide +kernel
theorem d_RE_set_2 : decode m_RE_set.2.1 2 = .ok (.putfield 23, 3) := by decide +kernel
theorem d_RE_set_5 : decode m_RE_set.2.1 5 = .ok (.aload_n 0, 1) := by decide +kernel
theorem d_RE_set_6 : decode m_RE_set.2.1 6 = .ok (.iload_n 1, 1) := by decide +kernel
theorem d_RE_set_7 : decode m_RE_set.2.1 7 = .ok (.iload_n 2, 1) := by decide +kernel
theorem d_RE_set_8 : decode m_RE_set.2.1 8 = .ok (.iload_n 3, 1) := by decide +kernel
theorem d_RE_set_9 : decode m_RE_set.2.1 9 = .ok (.iload 4, 2) := by decide +kernel
theorem d_RE_set_11 : decode m_RE_set.2.1 11 = .ok (.invokevirtual 26, 3) := by decide +kernel
theorem d_RE_set_14 : decode m_RE_set.2.1 14 = .ok (.return_, 1) := by decide +kernel
theorem d_RE_setFirst_0 : decode m_RE_setFirst.2.1 0 = .ok (.aload_n 0, 1) := by decide +kernel
theorem d_RE_setFirst_1 : decode m_RE_setFirst.2.1 1 = .ok (.getfield 23, 3) := by decide +kernel
theorem d_RE_setFirst_4 : decode m_RE_setFirst.2.1 4 = .ok (.ifCond .ne 24, 3) := by decide +kernel
theorem d_RE_setFirst_7 : decode m_RE_setFirst.2.1 7 = .ok (.aload_n 0, 1) := by decide +kernel
theorem d_RE_setFirst_8 : decode m_RE_setFirst.2.1 8 = .ok (.iload_n 1, 1) := by decide +kernel
theorem d_RE_setFirst_9 : decode m_RE_setFirst.2.1 9 = .ok (.putfield 23, 3) := by decide +kernel
theorem d_RE_setFirst_12 : decode m_RE_setFirst.2.1 12 = .ok (.aload_n 0, 1) := by decide +kernel
theorem d_RE_setFirst_13 : decode m_RE_setFirst.2.1 13 = .ok (.iload_n 2, 1) := by decide +kernel
theorem d_RE_setFirst_14 : decode m_RE_setFirst.2.1 14 = .ok (.putfield 7, 3) := by decide +kernel
theorem d_RE_setFirst_17 : decode m_RE_setFirst.2.1 17 = .ok (.aload_n 0, 1) := by decide +kernel
theorem d_RE_setFirst_18 : decode m_RE_setFirst.2.1 18 = .ok (.iload_n 3, 1) := by decide +kernel
theorem d_RE_setFirst_19 : decode m_RE_setFirst.2.1 19 = .ok (.putfield 13, 3) := by decide +kernel
theorem d_RE_setFirst_22 : decode m_RE_setFirst.2.1 22 = .ok (.aload_n 0, 1) := by decide +kernel
theorem d_RE_setFirst_23 : decode m_RE_setFirst.2.1 23 = .ok (.iload 4, 2) := by decide +kernel
theorem d_RE_setFirst_25 : decode m_RE_setFirst.2.1 25 = .ok (.putfield 16, 3) := by decide +kernel
theorem d_RE_setFirst_28 : decode m_RE_setFirst.2.1 28 = .ok (.return_, 1) := by decide +kernel
theorem d_RE_copyFrom_0 : decode m_RE_copyFrom.2.1 0 = .ok (.aload_n 0, 1) := by decide +kernel
theorem d_RE_copyFrom_1 : decode m_RE_copyFrom.2.1 1 = .ok (.aload_n 1, 1) := by decide +kernel
theorem d_RE_copyFrom_2 : decode m_RE_copyFrom.2.1 2 = .ok (.getfield 23, 3) := by decide +kernel
theorem d_RE_copyFrom_5 : decode m_RE_copyFrom.2.1 5 = .ok (.aload_n 1, 1) := by decide +kernel
theorem d_RE_copyFrom_6 : decode m_RE_copyFrom.2.1 6 = .ok (.getfield 7, 3) := by decide +kernel
theorem d_RE_copyFrom_9 : decode m_RE_copyFrom.2.1 9 = .ok (.aload_n 1, 1) := by decide +kernel
theorem d_RE_copyFrom_10 : decode m_RE_copyFrom.2.1 10 = .ok (.getfield 13, 3) := by decide +kernel
theorem d_RE_copyFrom_13 : decode m_RE_copyFrom.2.1 13 = .ok (.aload_n 1, 1) := by decide +kernel
theorem d_RE_copyFrom_14 : decode m_RE_copyFrom.2.1 14 = .ok (.getfield 16, 3) := by decide +kernel
theorem d_RE_copyFrom_17 : decode m_RE_copyFrom.2.1 17 = .ok (.invokevirtual 19, 3) := by decide +kernel
theorem d_RE_copyFrom_20 : decode m_RE_copyFrom.2.1 20 = .ok (.return_, 1) := by decide +kernel
theorem d_RO_init_0 : decode m_RO_init.2.1 0 = .ok (.aload_n 0, 1) := by decide +kernel
theorem d_RO_init_1 : decode m_RO_init.2.1 1 = .ok (.invokespecial 3, 3) := by decide +kernel
theorem d_RO_init_4 : decode m_RO_init.2.1 4 = .ok (.aload_n 0, 1) := by decide +kernel
theorem d_RO_init_5 : decode m_RO_init.2.1 5 = .ok (.iconst 4, 1) := by decide +kernel
theorem d_RO_init_6 : decode m_RO_init.2.1 6 = .ok (.newarray .int, 2) := by decide +kernel
theorem d_RO_init_8 : decode m_RO_init.2.1 8 = .ok (.putfield 9, 3) := by decide +kernel
theorem d_RO_init_11 : decode m_RO_init.2.1 11 = .ok (.aload_n 0, 1) := by decide +kernel
theorem d_RO_init_12 : decode m_RO_init.2.1 12 = .ok (.bipush 120, 2) := by decide +kernel
theorem d_RO_init_14 : decode m_RO_init.2.1 14 = .ok (.newarray .int, 2) := by decide +kernel
theorem d_RO_init_16 : decode m_RO_init.2.1 16 = .ok (.putfield 15, 3) := by decide +kernel
theorem d_RO_init_19 : decode m_RO_init.2.1 19 = .ok (.aload_n 0, 1) := by decide +kernel
theorem d_RO_init_20 : decode m_RO_init.2.1 20 = .ok (.sipush 720, 3) := by decide +kernel
theorem d_RO_init_23 : decode m_RO_init.2.1 23 = .ok (.newarray .int, 2) := by decide +kernel
theorem d_RO_init_25 : decode m_RO_init.2.1 25 = .ok (.putfield 18, 3) := by decide +kernel
theorem d_RO_init_28 : decode m_RO_init.2.1 28 = .ok (.aload_n 0, 1) := by decide +kernel
theorem d_RO_init_29 : decode m_RO_init.2.1 29 = .ok (.getfield 18, 3) := by decide +kernel
theorem d_RO_init_32 : decode m_RO_init.2.1 32 = .ok (.ldc 21, 2) := by decide +kernel
theorem d_RO_init_34 : decode m_RO_init.2.1 34 = .ok (.invokestatic 22, 3) := by decide +kernel
theorem d_RO_init_37 : decode m_RO_init.2.1 37 = .ok (.return_, 1) := by decide +kernel
theorem d_RO_copyFrom_0 : decode m_RO_copyFrom.2.1 0 = .ok (.aload_n 1, 1) := by decide +kernel
theorem d_RO_copyFrom_1 : decode m_RO_copyFrom.2.1 1 = .ok (.getfield 9, 3) := by decide +kernel
theorem d_RO_copyFrom_4 : decode m_RO_copyFrom.2.1 4 = .ok (.iconst 0, 1) := by decide +kernel
theorem d_RO_copyFrom_5 : decode m_RO_copyFrom.2.1 5 = .ok (.aload_n 0, 1) := by decide +kernel
theorem d_RO_copyFrom_6 : decode m_RO_copyFrom.2.1 6 = .ok (.getfield 9, 3) := by decide +kernel
theorem d_RO_copyFrom_9 : decode m_RO_copyFrom.2.1 9 = .ok (.iconst 0, 1) := by decide +kernel
theorem d_RO_copyFrom_10 : decode m_RO_copyFrom.2.1 10 = .ok (.iconst 4, 1) := by decide +kernel
theorem d_RO_copyFrom_11 : decode m_RO_copyFrom.2.1 11 = .ok (.invokestatic 28, 3) := by decide +kernel
theorem d_RO_copyFrom_14 : decode m_RO_copyFrom.2.1 14 = .ok (.aload_n 1, 1) := by decide +kernel
theorem d_RO_copyFrom_15 : decode m_RO_copyFrom.2.1 15 = .ok (.getfield 15, 3) := by decide +kernel
theorem d_RO_copyFrom_18 : decode m_RO_copyFrom.2.1 18 = .ok (.iconst 0, 1) := by decide +kernel
theorem d_RO_copyFrom_19 : decode m_RO_copyFrom.2.1 19 = .ok (.aload_n 0, 1) := by decide +kernel
theorem d_RO_copyFrom_20 : decode m_RO_copyFrom.2.1 20 = .ok (.getfield 15, 3) := by decide +kernel
theorem d_RO_copyFrom_23 : decode m_RO_copyFrom.2.1 23 = .ok (.iconst 0, 1) := by decide +kernel
theorem d_RO_copyFrom_24 : decode m_RO_copyFrom.2.1 24 = .ok (.bipush 120, 2) := by decide +kernel
theorem d_RO_copyFrom_26 : decode m_RO_copyFrom.2.1 26 = .ok (.invokestatic 28, 3) := by decide +kernel
theorem d_RO_copyFrom_29 : decode m_RO_copyFrom.2.1 29 = .ok (.aload_n 1, 1) := by decide +kernel
theorem d_RO_copyFrom_30 : decode m_RO_copyFrom.2.1 30 = .ok (.getfield 18, 3) := by decide +kernel
theorem d_RO_copyFrom_33 : decode m_RO_copyFrom.2.1 33 = .ok (.iconst 0, 1) := by decide +kernel
theorem d_RO_copyFrom_34 : decode m_RO_copyFrom.2.1 34 = .ok (.aload_n 0, 1) := by decide +kernel
theorem d_RO_copyFrom_35 : decode m_RO_copyFrom.2.1 35 = .ok (.getfield 18, 3) := by decide +kernel
theorem d_RO_copyFrom_38 : decode m_RO_copyFrom.2.1 38 = .ok (.iconst 0, 1) := by decide +kernel
theorem d_RO_copyFrom_39 : decode m_RO_copyFrom.2.1 39 = .ok (.sipush 720, 3) := by decide +kernel
theorem d_RO_copyFrom_42 : decode m_RO_copyFrom.2.1 42 = .ok (.invokestatic 28, 3) := by decide +kernel
theorem d_RO_copyFrom_45 : decode m_RO_copyFrom.2.1 45 = .ok (.return_, 1) := by decide +kernel
theorem d_RO_has_0 : decode m_RO_has.2.1 0 = .ok (.iload_n 1, 1) := by decide +kernel
theorem d_RO_has_1 : decode m_RO_has.2.1 1 = .ok (.ifCond .lt 36, 3) := by decide +kernel
theorem d_RO_has_4 : decode m_RO_has.2.1 4 = .ok (.iload_n 1, 1) := by decide +kernel
theorem d_RO_has_5 : decode m_RO_has.2.1 5 = .ok (.iconst 4, 1) := by decide +kernel
theorem d_RO_has_6 : decode m_RO_has.2.1 6 = .ok (.if_icmp .ge 31, 3) := by decide +kernel
theorem d_RO_has_9 : decode m_RO_has.2.1 9 = .ok (.iload_n 2, 1) := by decide +kernel
theorem d_RO_has_10 : decode m_RO_has.2.1 10 = .ok (.ifCond .lt 27, 3) := by decide +kernel
theorem d_RO_has_13 : decode m_RO_has.2.1 13 = .ok (.iload_n 2, 1) := by decide +kernel
theorem d_RO_has_14 : decode m_RO_has.2.1 14 = .ok (.bipush 30, 2) := by decide +kernel
theorem d_RO_has_16 : decode m_RO_has.2.1 16 = .ok (.if_icmp .ge 21, 3) := by decide +kernel
theorem d_RO_has_19 : decode m_RO_has.2.1 19 = .ok (.aload_n 0, 1) := by decide +kernel
theorem d_RO_has_20 : decode m_RO_has.2.1 20 = .ok (.getfield 15, 3) := by decide +kernel
theorem d_RO_has_23 : decode m_RO_has.2.1 23 = .ok (.iload_n 1, 1) := by decide +kernel
theorem d_RO_has_24 : decode m_RO_has.2.1 24 = .ok (.bipush 30, 2) := by decide +kernel
theorem d_RO_has_26 : decode m_RO_has.2.1 26 = .ok (.imul, 1) := by decide +kernel
theorem d_RO_has_27 : decode m_RO_has.2.1 27 = .ok (.iload_n 2, 1) := by decide +kernel
theorem d_RO_has_28 : decode m_RO_has.2.1 28 = .ok (.iadd, 1) := by decide +kernel
theorem d_RO_has_29 : decode m_RO_has.2.1 29 = .ok (.iaload, 1) := by decide +kernel
theorem d_RO_has_30 : decode m_RO_has.2.1 30 = .ok (.ifCond .eq 7, 3) := by decide +kernel
theorem d_RO_has_33 : decode m_RO_has.2.1 33 = .ok (.iconst 1, 1) := by decide +kernel
theorem d_RO_has_34 : decode m_RO_has.2.1 34 = .ok (.goto 4, 3) := by decide +kernel
theorem d_RO_has_37 : decode m_RO_has.2.1 37 = .ok (.iconst 0, 1) := by decide +kernel
theorem d_RO_has_38 : decode m_RO_has.2.1 38 = .ok (.ireturn, 1) := by decide +kernel
theorem d_RO_serialOf_0 : decode m_RO_serialOf.2.1 0 = .ok (.iload_n 1, 1) := by decide +kernel
theorem d_RO_serialOf_1 : decode m_RO_serialOf.2.1 1 = .ok (.ifCond .lt 18, 3) := by decide +kernel
theorem d_RO_serialOf_4 : decode m_RO_serialOf.2.1 4 = .ok (.iload_n 1, 1) := by decide +kernel
theorem d_RO_serialOf_5 : decode m_RO_serialOf.2.1 5 = .ok (.iconst 4, 1) := by decide +kernel
theorem d_RO_serialOf_6 : decode m_RO_serialOf.2.1 6 = .ok (.if_icmp .ge 13, 3) := by decide +kernel
theorem d_RO_serialOf_9 : decode m_RO_serialOf.2.1 9 = .ok (.iload_n 2, 1) := by decide +kernel
theorem d_RO_serialOf_10 : decode m_RO_serialOf.2.1 10 = .ok (.ifCond .lt 9, 3) := by decide +kernel
theorem d_RO_serialOf_13 : decode m_RO_serialOf.2.1 13 = .ok (.iload_n 2, 1) := by decide +kernel
theorem d_RO_serialOf_14 : decode m_RO_serialOf.2.1 14 = .ok (.bipush 30, 2) := by decide +kernel
theorem d_RO_serialOf_16 : decode m_RO_serialOf.2.1 16 = .ok (.if_icmp .lt 5, 3) := by decide +kernel
theorem d_RO_serialOf_19 : decode m_RO_serialOf.2.1 19 = .ok (.iconst 0, 1) := by decide +kernel
theorem d_RO_serialOf_20 : decode m_RO_serialOf.2.1 20 = .ok (.ireturn, 1) := by decide +kernel
theorem d_RO_serialOf_21 : decode m_RO_serialOf.2.1 21 = .ok (.aload_n 0, 1) := by decide +kernel
theorem d_RO_serialOf_22 : decode m_RO_serialOf.2.1 22 = .ok (.getfield 15, 3) := by decide +kernel
theorem d_RO_serialOf_25 : decode m_RO_serialOf.2.1 25 = .ok (.iload_n 1, 1) := by decide +kernel
theorem d_RO_serialOf_26 : decode m_RO_serialOf.2.1 26 = .ok (.bipush 30, 2) := by decide +kernel
theorem d_RO_serialOf_28 : decode m_RO_serialOf.2.1 28 = .ok (.imul, 1) := by decide +kernel
theorem d_RO_serialOf_29 : decode m_RO_serialOf.2.1 29 = .ok (.iload_n 2, 1) := by decide +kernel
theorem d_RO_serialOf_30 : decode m_RO_serialOf.2.1 30 = .ok (.iadd, 1) := by decide +kernel
theorem d_RO_serialOf_31 : decode m_RO_serialOf.2.1 31 = .ok (.iaload, 1) := by decide +kernel
theorem d_RO_serialOf_32 : decode m_RO_serialOf.2.1 32 = .ok (.ireturn, 1) := by decide +kernel
theorem d_RO_setSerial_0 : decode m_RO_setSerial.2.1 0 = .ok (.iload_n 1, 1) := by decide +kernel
theorem d_RO_setSerial_1 : decode m_RO_setSerial.2.1 1 = .ok (.ifCond .lt 30, 3) := by decide +kernel
theorem d_RO_setSerial_4 : decode m_RO_setSerial.2.1 4 = .ok (.iload_n 1, 1) := by decide +kernel
theorem d_RO_setSerial_5 : decode m_RO_setSerial.2.1 5 = .ok (.iconst 4, 1) := by decide +kernel
theorem d_RO_setSerial_6 : decode m_RO_setSerial.2.1 6 = .ok (.if_icmp .ge 25, 3) := by decide +kernel
theorem d_RO_setSerial_9 : decode m_RO_setSerial.2.1 9 = .ok (.iload_n 2, 1) := by decide +kernel
theorem d_RO_setSerial_10 : decode m_RO_setSerial.2.1 10 = .ok (.ifCond .lt 21, 3) := by decide +kernel
theorem d_RO_setSerial_13 : decode m_RO_setSerial.2.1 13 = .ok (.iload_n 2, 1) := by decide +kernel
theorem d_RO_setSerial_14 : decode m_RO_setSerial.2.1 14 = .ok (.bipush 30, 2) := by decide +kernel
theorem d_RO_setSerial_16 : decode m_RO_setSerial.2.1 16 = .ok (.if_icmp .ge 15, 3) := by decide +kernel
theorem d_RO_setSerial_19 : decode m_RO_setSerial.2.1 19 = .ok (.aload_n 0, 1) := by decide +kernel
theorem d_RO_setSerial_20 : decode m_RO_setSerial.2.1 20 = .ok (.getfield 15, 3) := by decide +kernel
theorem d_RO_setSerial_23 : decode m_RO_setSerial.2.1 23 = .ok (.iload_n 1, 1) := by decide +kernel
theorem d_RO_setSerial_24 : decode m_RO_setSerial.2.1 24 = .ok (.bipush 30, 2) := by decide +kernel
theorem d_RO_setSerial_26 : decode m_RO_setSerial.2.1 26 = .ok (.imul, 1) := by decide +kernel
theorem d_RO_setSerial_27 : decode m_RO_setSerial.2.1 27 = .ok (.iload_n 2, 1) := by decide +kernel
theorem d_RO_setSerial_28 : decode m_RO_setSerial.2.1 28 = .ok (.iadd, 1) := by decide +kernel
theorem d_RO_setSerial_29 : decode m_RO_setSerial.2.1 29 = .ok (.iload_n 3, 1) := by decide +kernel
theorem d_RO_setSerial_30 : decode m_RO_setSerial.2.1 30 = .ok (.iastore, 1) := by decide +kernel
theorem d_RO_setSerial_31 : decode m_RO_setSerial.2.1 31 = .ok (.return_, 1) := by decide +kernel
theorem d_RO_get_0 : decode m_RO_get.2.1 0 = .ok (.iload_n 1, 1) := by decide +kernel
theorem d_RO_get_1 : decode m_RO_get.2.1 1 = .ok (.ifCond .lt 28, 3) := by decide +kernel
theorem d_RO_get_4 : decode m_RO_get.2.1 4 = .ok (.iload_n 1, 1) := by decide +kernel
theorem d_RO_get_5 : decode m_RO_get.2.1 5 = .ok (.iconst 4, 1) := by decide +kernel
theorem d_RO_get_6 : decode m_RO_get.2.1 6 = .ok (.if_icmp .ge 23, 3) := by decide +kernel
theorem d_RO_get_9 : decode m_RO_get.2.1 9 = .ok (.iload_n 2, 1) := by decide +kernel
theorem d_RO_get_10 : decode m_RO_get.2.1 10 = .ok (.ifCond .lt 19, 3) := by decide +kernel
theorem d_RO_get_13 : decode m_RO_get.2.1 13 = .ok (.iload_n 2, 1) := by decide +kernel
theorem d_RO_get_14 : decode m_RO_get.2.1 14 = .ok (.bipush 30, 2) := by decide +kernel
theorem d_RO_get_16 : decode m_RO_get.2.1 16 = .ok (.if_icmp .ge 13, 3) := by decide +kernel
theorem d_RO_get_19 : decode m_RO_get.2.1 19 = .ok (.iload_n 3, 1) := by decide +kernel
theorem d_RO_get_20 : decode m_RO_get.2.1 20 = .ok (.ifCond .lt 9, 3) := by decide +kernel
theorem d_RO_get_23 : decode m_RO_get.2.1 23 = .ok (.iload_n 3, 1) := by decide +kernel
theorem d_RO_get_24 : decode m_RO_get.2.1 24 = .ok (.bipush 6, 2) := by decide +kernel
theorem d_RO_get_26 : decode m_RO_get.2.1 26 = .ok (.if_icmp .lt 6, 3) := by decide +kernel
theorem d_RO_get_29 : decode m_RO_get.2.1 29 = .ok (.ldc 21, 2) := by decide +kernel
theorem d_RO_get_31 : decode m_RO_get.2.1 31 = .ok (.ireturn, 1) := by decide +kernel
theorem d_RO_get_32 : decode m_RO_get.2.1 32 = .ok (.aload_n 0, 1) := by decide +kernel
theorem d_RO_get_33 : decode m_RO_get.2.1 33 = .ok (.getfield 18, 3) := by decide +kernel
theorem d_RO_get_36 : decode m_RO_get.2.1 36 = .ok (.iload_n 1, 1) := by decide +kernel
theorem d_RO_get_37 : decode m_RO_get.2.1 37 = .ok (.bipush 30, 2) := by decide +kernel
theorem d_RO_get_39 : decode m_RO_get.2.1 39 = .ok (.imul, 1) := by decide +kernel
theorem d_RO_get_40 : decode m_RO_get.2.1 40 = .ok (.iload_n 2, 1) := by decide +kernel
theorem d_RO_get_41 : decode m_RO_get.2.1 41 = .ok (.iadd, 1) := by decide +kernel
theorem d_RO_get_42 : decode m_RO_get.2.1 42 = .ok (.bipush 6, 2) := by decide +kernel
theorem d_RO_get_44 : decode m_RO_get.2.1 44 = .ok (.imul, 1) := by decide +kernel
theorem d_RO_get_45 : decode m_RO_get.2.1 45 = .ok (.iload_n 3, 1) := by decide +kernel
theorem d_RO_get_46 : decode m_RO_get.2.1 46 = .ok (.iadd, 1) := by decide +kernel
theorem d_RO_get_47 : decode m_RO_get.2.1 47 = .ok (.iaload, 1) := by decide +kernel
theorem d_RO_get_48 : decode m_RO_get.2.1 48 = .ok (.ireturn, 1) := by decide +kernel
theorem d_RO_set_0 : decode m_RO_set.2.1 0 = .ok (.iload_n 1, 1) := by decide +kernel
theorem d_RO_set_1 : decode m_RO_set.2.1 1 = .ok (.ifCond .lt 46, 3) := by decide +kernel
theorem d_RO_set_4 : decode m_RO_set.2.1 4 = .ok (.iload_n 1, 1) := by decide +kernel
theorem d_RO_set_5 : decode m_RO_set.2.1 5 = .ok (.iconst 4, 1) := by decide +kernel
theorem d_RO_set_6 : decode m_RO_set.2.1 6 = .ok (.if_icmp .ge 41, 3) := by decide +kernel
theorem d_RO_set_9 : decode m_RO_set.2.1 9 = .ok (.iload_n 2, 1) := by decide +kernel
theorem d_RO_set_10 : decode m_RO_set.2.1 10 = .ok (.ifCond .lt 37, 3) := by decide +kernel
theorem d_RO_set_13 : decode m_RO_set.2.1 13 = .ok (.iload_n 2, 1) := by decide +kernel
theorem d_RO_set_14 : decode m_RO_set.2.1 14 = .ok (.bipush 30, 2) := by decide +kernel
theorem d_RO_set_16 : decode m_RO_set.2.1 16 = .ok (.if_icmp .ge 31, 3) := by decide +kernel
theorem d_RO_set_19 : decode m_RO_set.2.1 19 = .ok (.iload_n 3, 1) := by decide +kernel
theorem d_RO_set_20 : decode m_RO_set.2.1 20 = .ok (.ifCond .lt 27, 3) := by decide +kernel
theorem d_RO_set_23 : decode m_RO_set.2.1 23 = .ok (.iload_n 3, 1) := by decide +kernel
theorem d_RO_set_24 : decode m_RO_set.2.1 24 = .ok (.bipush 6, 2) := by decide +kernel
theorem d_RO_set_26 : decode m_RO_set.2.1 26 = .ok (.if_icmp .ge 21, 3) := by decide +kernel
theorem d_RO_set_29 : decode m_RO_set.2.1 29 = .ok (.aload_n 0, 1) := by decide +kernel
theorem d_RO_set_30 : decode m_RO_set.2.1 30 = .ok (.getfield 18, 3) := by decide +kernel
theorem d_RO_set_33 : decode m_RO_set.2.1 33 = .ok (.iload_n 1, 1) := by decide +kernel
theorem d_RO_set_34 : decode m_RO_set.2.1 34 = .ok (.bipush 30, 2) := by decide +kernel
theorem d_RO_set_36 : decode m_RO_set.2.1 36 = .ok (.imul, 1) := by decide +kernel
theorem d_RO_set_37 : decode m_RO_set.2.1 37 = .ok (.iload_n 2, 1) := by decide +kernel
theorem d_RO_set_38 : decode m_RO_set.2.1 38 = .ok (.iadd, 1) := by decide +kernel
theorem d_RO_set_39 : decode m_RO_set.2.1 39 = .ok (.bipush 6, 2) := by decide +kernel
theorem d_RO_set_41 : decode m_RO_set.2.1 41 = .ok (.imul, 1) := by decide +kernel
theorem d_RO_set_42 : decode m_RO_set.2.1 42 = .ok (.iload_n 3, 1) := by decide +kernel
theorem d_RO_set_43 : decode m_RO_set.2.1 43 = .ok (.iadd, 1) := by decide +kernel
theorem d_RO_set_44 : decode m_RO_set.2.1 44 = .ok (.iload 4, 2) := by decide +kernel
theorem d_RO_set_46 : decode m_RO_set.2.1 46 = .ok (.iastore, 1) := by decide +kernel
theorem d_RO_set_47 : decode m_RO_set.2.1 47 = .ok (.return_, 1) := by decide +kernel
theorem d_RO_madeIn_0 : decode m_RO_madeIn.2.1 0 = .ok (.iload_n 1, 1) := by decide +kernel
theorem d_RO_madeIn_1 : decode m_RO_madeIn.2.1 1 = .ok (.ifCond .lt 8, 3) := by decide +kernel
theorem d_RO_madeIn_4 : decode m_RO_madeIn.2.1 4 = .ok (.iload_n 1, 1) := by decide +kernel
theorem d_RO_madeIn_5 : decode m_RO_madeIn.2.1 5 = .ok (.iconst 4, 1) := by decide +kernel
theorem d_RO_madeIn_6 : decode m_RO_madeIn.2.1 6 = .ok (.if_icmp .lt 7, 3) := by decide +kernel
theorem d_RO_madeIn_9 : decode m_RO_madeIn.2.1 9 = .ok (.iconst 0, 1) := by decide +kernel
theorem d_RO_madeIn_10 : decode m_RO_madeIn.2.1 10 = .ok (.goto 9, 3) := by decide +kernel
theorem d_RO_madeIn_13 : decode m_RO_madeIn.2.1 13 = .ok (.aload_n 0, 1) := by decide +kernel
theorem d_RO_madeIn_14 : decode m_RO_madeIn.2.1 14 = .ok (.getfield 9, 3) := by decide +kernel
theorem d_RO_madeIn_17 : decode m_RO_madeIn.2.1 17 = .ok (.iload_n 1, 1) := by decide +kernel
theorem d_RO_madeIn_18 : decode m_RO_madeIn.2.1 18 = .ok (.iaload, 1) := by decide +kernel
theorem d_RO_madeIn_19 : decode m_RO_madeIn.2.1 19 = .ok (.ireturn, 1) := by decide +kernel
theorem d_RO_isFull_0 : decode m_RO_isFull.2.1 0 = .ok (.aload_n 0, 1) := by decide +kernel
theorem d_RO_isFull_1 : decode m_RO_isFull.2.1 1 = .ok (.iload_n 1, 1) := by decide +kernel
theorem d_RO_isFull_2 : decode m_RO_isFull.2.1 2 = .ok (.invokevirtual 34, 3) := by decide +kernel
theorem d_RO_isFull_5 : decode m_RO_isFull.2.1 5 = .ok (.bipush 30, 2) := by decide +kernel
theorem d_RO_isFull_7 : decode m_RO_isFull.2.1 7 = .ok (.if_icmp .lt 7, 3) := by decide +kernel
theorem d_RO_isFull_10 : decode m_RO_isFull.2.1 10 = .ok (.iconst 1, 1) := by decide +kernel
theorem d_RO_isFull_11 : decode m_RO_isFull.2.1 11 = .ok (.goto 4, 3) := by decide +kernel
theorem d_RO_isFull_14 : decode m_RO_isFull.2.1 14 = .ok (.iconst 0, 1) := by decide +kernel
theorem d_RO_isFull_15 : decode m_RO_isFull.2.1 15 = .ok (.ireturn, 1) := by decide +kernel
theorem d_RO_make_0 : decode m_RO_make.2.1 0 = .ok (.aload_n 0, 1) := by decide +kernel
theorem d_RO_make_1 : decode m_RO_make.2.1 1 = .ok (.iload_n 1, 1) := by decide +kernel
theorem d_RO_make_2 : decode m_RO_make.2.1 2 = .ok (.invokevirtual 34, 3) := by decide +kernel
theorem d_RO_make_5 : decode m_RO_make.2.1 5 = .ok (.istore_n 3, 1) := by decide +kernel
theorem d_RO_make_6 : decode m_RO_make.2.1 6 = .ok (.iload_n 1, 1) := by decide +kernel
theorem d_RO_make_7 : decode m_RO_make.2.1 7 = .ok (.ifCond .lt 35, 3) := by decide +kernel
theorem d_RO_make_10 : decode m_RO_make.2.1 10 = .ok (.iload_n 1, 1) := by decide +kernel
theorem d_RO_make_11 : decode m_RO_make.2.1 11 = .ok (.iconst 4, 1) := by decide +kernel
theorem d_RO_make_12 : decode m_RO_make.2.1 12 = .ok (.if_icmp .ge 30, 3) := by decide +kernel
theorem d_RO_make_15 : decode m_RO_make.2.1 15 = .ok (.iload_n 3, 1) := by decide +kernel
theorem d_RO_make_16 : decode m_RO_make.2.1 16 = .ok (.bipush 30, 2) := by decide +kernel
theorem d_RO_make_18 : decode m_RO_make.2.1 18 = .ok (.if_icmp .ge 24, 3) := by decide +kernel
theorem d_RO_make_21 : decode m_RO_make.2.1 21 = .ok (.aload_n 0, 1) := by decide +kernel
theorem d_RO_make_22 : decode m_RO_make.2.1 22 = .ok (.getfield 9, 3) := by decide +kernel
theorem d_RO_make_25 : decode m_RO_make.2.1 25 = .ok (.iload_n 1, 1) := by decide +kernel
theorem d_RO_make_26 : decode m_RO_make.2.1 26 = .ok (.iload_n 3, 1) := by decide +kernel
theorem d_RO_make_27 : decode m_RO_make.2.1 27 = .ok (.iconst 1, 1) := by decide +kernel
theorem d_RO_make_28 : decode m_RO_make.2.1 28 = .ok (.iadd, 1) := by decide +kernel
theorem d_RO_make_29 : decode m_RO_make.2.1 29 = .ok (.iastore, 1) := by decide +kernel
theorem d_RO_make_30 : decode m_RO_make.2.1 30 = .ok (.aload_n 0, 1) := by decide +kernel
theorem d_RO_make_31 : decode m_RO_make.2.1 31 = .ok (.getfield 15, 3) := by decide +kernel
theorem d_RO_make_34 : decode m_RO_make.2.1 34 = .ok (.iload_n 1, 1) := by decide +kernel
theorem d_RO_make_35 : decode m_RO_make.2.1 35 = .ok (.bipush 30, 2) := by decide +kernel
theorem d_RO_make_37 : decode m_RO_make.2.1 37 = .ok (.imul, 1) := by decide +kernel
theorem d_RO_make_38 : decode m_RO_make.2.1 38 = .ok (.iload_n 3, 1) := by decide +kernel
theorem d_RO_make_39 : decode m_RO_make.2.1 39 = .ok (.iadd, 1) := by decide +kernel
theorem d_RO_make_40 : decode m_RO_make.2.1 40 = .ok (.iload_n 2, 1) := by decide +kernel
theorem d_RO_make_41 : decode m_RO_make.2.1 41 = .ok (.iastore, 1) := by decide +kernel
theorem d_RO_make_42 : decode m_RO_make.2.1 42 = .ok (.iload_n 3, 1) := by decide +kernel
theorem d_RO_make_43 : decode m_RO_make.2.1 43 = .ok (.ireturn, 1) := by decide +kernel
theorem d_RO_repeats_0 : decode m_RO_repeats.2.1 0 = .ok (.iload_n 1, 1) := by decide +kernel
theorem d_RO_repeats_1 : decode m_RO_repeats.2.1 1 = .ok (.ifCond .lt 28, 3) := by decide +kernel
theorem d_RO_repeats_4 : decode m_RO_repeats.2.1 4 = .ok (.iload_n 1, 1) := by decide +kernel
theorem d_RO_repeats_5 : decode m_RO_repeats.2.1 5 = .ok (.iconst 4, 1) := by decide +kernel
theorem d_RO_repeats_6 : decode m_RO_repeats.2.1 6 = .ok (.if_icmp .ge 23, 3) := by decide +kernel
theorem d_RO_repeats_9 : decode m_RO_repeats.2.1 9 = .ok (.iload_n 2, 1) := by decide +kernel
theorem d_RO_repeats_10 : decode m_RO_repeats.2.1 10 = .ok (.ifCond .lt 19, 3) := by decide +kernel
theorem d_RO_repeats_13 : decode m_RO_repeats.2.1 13 = .ok (.iload_n 2, 1) := by decide +kernel
theorem d_RO_repeats_14 : decode m_RO_repeats.2.1 14 = .ok (.bipush 30, 2) := by decide +kernel
theorem d_RO_repeats_16 : decode m_RO_repeats.2.1 16 = .ok (.if_icmp .ge 13, 3) := by decide +kernel
theorem d_RO_repeats_19 : decode m_RO_repeats.2.1 19 = .ok (.iload_n 3, 1) := by decide +kernel
theorem d_RO_repeats_20 : decode m_RO_repeats.2.1 20 = .ok (.ifCond .lt 9, 3) := by decide +kernel
theorem d_RO_repeats_23 : decode m_RO_repeats.2.1 23 = .ok (.iload_n 3, 1) := by decide +kernel
theorem d_RO_repeats_24 : decode m_RO_repeats.2.1 24 = .ok (.bipush 6, 2) := by decide +kernel
theorem d_RO_repeats_26 : decode m_RO_repeats.2.1 26 = .ok (.if_icmp .lt 5, 3) := by decide +kernel
theorem d_RO_repeats_29 : decode m_RO_repeats.2.1 29 = .ok (.iconst 0, 1) := by decide +kernel
theorem d_RO_repeats_30 : decode m_RO_repeats.2.1 30 = .ok (.ireturn, 1) := by decide +kernel
theorem d_RO_repeats_31 : decode m_RO_repeats.2.1 31 = .ok (.iload_n 1, 1) := by decide +kernel
theorem d_RO_repeats_32 : decode m_RO_repeats.2.1 32 = .ok (.bipush 30, 2) := by decide +kernel
theorem d_RO_repeats_34 : decode m_RO_repeats.2.1 34 = .ok (.imul, 1) := by decide +kernel
theorem d_RO_repeats_35 : decode m_RO_repeats.2.1 35 = .ok (.istore 4, 2) := by decide +kernel
theorem d_RO_repeats_37 : decode m_RO_repeats.2.1 37 = .ok (.aload_n 0, 1) := by decide +kernel
theorem d_RO_repeats_38 : decode m_RO_repeats.2.1 38 = .ok (.getfield 18, 3) := by decide +kernel
theorem d_RO_repeats_41 : decode m_RO_repeats.2.1 41 = .ok (.iload 4, 2) := by decide +kernel
theorem d_RO_repeats_43 : decode m_RO_repeats.2.1 43 = .ok (.iload_n 2, 1) := by decide +kernel
theorem d_RO_repeats_44 : decode m_RO_repeats.2.1 44 = .ok (.iadd, 1) := by decide +kernel
theorem d_RO_repeats_45 : decode m_RO_repeats.2.1 45 = .ok (.bipush 6, 2) := by decide +kernel
theorem d_RO_repeats_47 : decode m_RO_repeats.2.1 47 = .ok (.imul, 1) := by decide +kernel
theorem d_RO_repeats_48 : decode m_RO_repeats.2.1 48 = .ok (.iload_n 3, 1) := by decide +kernel
theorem d_RO_repeats_49 : decode m_RO_repeats.2.1 49 = .ok (.iadd, 1) := by decide +kernel
theorem d_RO_repeats_50 : decode m_RO_repeats.2.1 50 = .ok (.iaload, 1) := by decide +kernel
theorem d_RO_repeats_51 : decode m_RO_repeats.2.1 51 = .ok (.istore 5, 2) := by decide +kernel
theorem d_RO_repeats_53 : decode m_RO_repeats.2.1 53 = .ok (.iload 4, 2) := by decide +kernel
theorem d_RO_repeats_55 : decode m_RO_repeats.2.1 55 = .ok (.istore 6, 2) := by decide +kernel
theorem d_RO_repeats_57 : decode m_RO_repeats.2.1 57 = .ok (.iload 6, 2) := by decide +kernel
theorem d_RO_repeats_59 : decode m_RO_repeats.2.1 59 = .ok (.iload 4, 2) := by decide +kernel
theorem d_RO_repeats_61 : decode m_RO_repeats.2.1 61 = .ok (.iload_n 2, 1) := by decide +kernel
theorem d_RO_repeats_62 : decode m_RO_repeats.2.1 62 = .ok (.iadd, 1) := by decide +kernel
theorem d_RO_repeats_63 : decode m_RO_repeats.2.1 63 = .ok (.if_icmp .ge 38, 3) := by decide +kernel
theorem d_RO_repeats_66 : decode m_RO_repeats.2.1 66 = .ok (.aload_n 0, 1) := by decide +kernel
theorem d_RO_repeats_67 : decode m_RO_repeats.2.1 67 = .ok (.getfield 15, 3) := by decide +kernel
theorem d_RO_repeats_70 : decode m_RO_repeats.2.1 70 = .ok (.iload 6, 2) := by decide +kernel
theorem d_RO_repeats_72 : decode m_RO_repeats.2.1 72 = .ok (.iaload, 1) := by decide +kernel
theorem d_RO_repeats_73 : decode m_RO_repeats.2.1 73 = .ok (.ifCond .eq 22, 3) := by decide +kernel
theorem d_RO_repeats_76 : decode m_RO_repeats.2.1 76 = .ok (.aload_n 0, 1) := by decide +kernel
theorem d_RO_repeats_77 : decode m_RO_repeats.2.1 77 = .ok (.getfield 18, 3) := by decide +kernel
theorem d_RO_repeats_80 : decode m_RO_repeats.2.1 80 = .ok (.iload 6, 2) := by decide +kernel
theorem d_RO_repeats_82 : decode m_RO_repeats.2.1 82 = .ok (.bipush 6, 2) := by decide +kernel
theorem d_RO_repeats_84 : decode m_RO_repeats.2.1 84 = .ok (.imul, 1) := by decide +kernel
theorem d_RO_repeats_85 : decode m_RO_repeats.2.1 85 = .ok (.iload_n 3, 1) := by decide +kernel
theorem d_RO_repeats_86 : decode m_RO_repeats.2.1 86 = .ok (.iadd, 1) := by decide +kernel
theorem d_RO_repeats_87 : decode m_RO_repeats.2.1 87 = .ok (.iaload, 1) := by decide +kernel
theorem d_RO_repeats_88 : decode m_RO_repeats.2.1 88 = .ok (.iload 5, 2) := by decide +kernel
theorem d_RO_repeats_90 : decode m_RO_repeats.2.1 90 = .ok (.if_icmp .ne 5, 3) := by decide +kernel
theorem d_RO_repeats_93 : decode m_RO_repeats.2.1 93 = .ok (.iconst 1, 1) := by decide +kernel
theorem d_RO_repeats_94 : decode m_RO_repeats.2.1 94 = .ok (.ireturn, 1) := by decide +kernel
theorem d_RO_repeats_95 : decode m_RO_repeats.2.1 95 = .ok (.iinc 6 1, 3) := by decide +kernel
theorem d_RO_repeats_98 : decode m_RO_repeats.2.1 98 = .ok (.goto (-41), 3) := by decide +kernel
theorem d_RO_repeats_101 : decode m_RO_repeats.2.1 101 = .ok (.iconst 0, 1) := by decide +kernel
theorem d_RO_repeats_102 : decode m_RO_repeats.2.1 102 = .ok (.ireturn, 1) := by decide +kernel
theorem d_RU_init_0 : decode m_RU_init.2.1 0 = .ok (.aload_n 0, 1) := by decide +kernel
theorem d_RU_init_1 : decode m_RU_init.2.1 1 = .ok (.invokespecial 3, 3) := by decide +kernel
theorem d_RU_init_4 : decode m_RU_init.2.1 4 = .ok (.return_, 1) := by decide +kernel
theorem d_RU_isFor_0 : decode m_RU_isFor.2.1 0 = .ok (.aload_n 0, 1) := by decide +kernel
theorem d_RU_isFor_1 : decode m_RU_isFor.2.1 1 = .ok (.getfield 9, 3) := by decide +kernel
theorem d_RU_isFor_4 : decode m_RU_isFor.2.1 4 = .ok (.ifCond .ne 31, 3) := by decide +kernel
theorem d_RU_isFor_7 : decode m_RU_isFor.2.1 7 = .ok (.aload_n 0, 1) := by decide +kernel
theorem d_RU_isFor_8 : decode m_RU_isFor.2.1 8 = .ok (.getfield 15, 3) := by decide +kernel
theorem d_RU_isFor_11 : decode m_RU_isFor.2.1 11 = .ok (.iload_n 1, 1) := by decide +kernel
theorem d_RU_isFor_12 : decode m_RU_isFor.2.1 12 = .ok (.if_icmp .ne 23, 3) := by decide +kernel
theorem d_RU_isFor_15 : decode m_RU_isFor.2.1 15 = .ok (.aload_n 0, 1) := by decide +kernel
theorem d_RU_isFor_16 : decode m_RU_isFor.2.1 16 = .ok (.getfield 19, 3) := by decide +kernel
theorem d_RU_isFor_19 : decode m_RU_isFor.2.1 19 = .ok (.iload_n 2, 1) := by decide +kernel
theorem d_RU_isFor_20 : decode m_RU_isFor.2.1 20 = .ok (.if_icmp .eq 11, 3) := by decide +kernel
theorem d_RU_isFor_23 : decode m_RU_isFor.2.1 23 = .ok (.aload_n 0, 1) := by decide +kernel
theorem d_RU_isFor_24 : decode m_RU_isFor.2.1 24 = .ok (.getfield 22, 3) := by decide +kernel
theorem d_RU_isFor_27 : decode m_RU_isFor.2.1 27 = .ok (.iload_n 2, 1) := by decide +kernel
theorem d_RU_isFor_28 : decode m_RU_isFor.2.1 28 = .ok (.if_icmp .ne 7, 3) := by decide +kernel
theorem d_RU_isFor_31 : decode m_RU_isFor.2.1 31 = .ok (.iconst 1, 1) := by decide +kernel
theorem d_RU_isFor_32 : decode m_RU_isFor.2.1 32 = .ok (.goto 4, 3) := by decide +kernel
theorem d_RU_isFor_35 : decode m_RU_isFor.2.1 35 = .ok (.iconst 0, 1) := by decide +kernel
theorem d_RU_isFor_36 : decode m_RU_isFor.2.1 36 = .ok (.ireturn, 1) := by decide +kernel
theorem d_RU_holds_0 : decode m_RU_holds.2.1 0 = .ok (.aload_n 0, 1) := by decide +kernel
theorem d_RU_holds_1 : decode m_RU_holds.2.1 1 = .ok (.getfield 25, 3) := by decide +kernel
theorem d_RU_holds_4 : decode m_RU_holds.2.1 4 = .ok (.iconst 3, 1) := by decide +kernel
theorem d_RU_holds_5 : decode m_RU_holds.2.1 5 = .ok (.if_icmp .ne 34, 3) := by decide +kernel
theorem d_RU_holds_8 : decode m_RU_holds.2.1 8 = .ok (.iload_n 1, 1) := by decide +kernel
theorem d_RU_holds_9 : decode m_RU_holds.2.1 9 = .ok (.ldc 28, 2) := by decide +kernel
theorem d_RU_holds_11 : decode m_RU_holds.2.1 11 = .ok (.if_icmp .ne 7, 3) := by decide +kernel
theorem d_RU_holds_14 : decode m_RU_holds.2.1 14 = .ok (.iconst 1, 1) := by decide +kernel
theorem d_RU_holds_15 : decode m_RU_holds.2.1 15 = .ok (.goto 4, 3) := by decide +kernel
theorem d_RU_holds_18 : decode m_RU_holds.2.1 18 = .ok (.iconst 0, 1) := by decide +kernel
theorem d_RU_holds_19 : decode m_RU_holds.2.1 19 = .ok (.iload_n 2, 1) := by decide +kernel
theorem d_RU_holds_20 : decode m_RU_holds.2.1 20 = .ok (.ldc 28, 2) := by decide +kernel
theorem d_RU_holds_22 : decode m_RU_holds.2.1 22 = .ok (.if_icmp .ne 7, 3) := by decide +kernel
theorem d_RU_holds_25 : decode m_RU_holds.2.1 25 = .ok (.iconst 1, 1) := by decide +kernel
theorem d_RU_holds_26 : decode m_RU_holds.2.1 26 = .ok (.goto 4, 3) := by decide +kernel
theorem d_RU_holds_29 : decode m_RU_holds.2.1 29 = .ok (.iconst 0, 1) := by decide +kernel
theorem d_RU_holds_30 : decode m_RU_holds.2.1 30 = .ok (.if_icmp .ne 7, 3) := by decide +kernel
theorem d_RU_holds_33 : decode m_RU_holds.2.1 33 = .ok (.iconst 1, 1) := by decide +kernel
theorem d_RU_holds_34 : decode m_RU_holds.2.1 34 = .ok (.goto 4, 3) := by decide +kernel
theorem d_RU_holds_37 : decode m_RU_holds.2.1 37 = .ok (.iconst 0, 1) := by decide +kernel
theorem d_RU_holds_38 : decode m_RU_holds.2.1 38 = .ok (.ireturn, 1) := by decide +kernel
theorem d_RU_holds_39 : decode m_RU_holds.2.1 39 = .ok (.iload_n 1, 1) := by decide +kernel
theorem d_RU_holds_40 : decode m_RU_holds.2.1 40 = .ok (.ldc 28, 2) := by decide +kernel
theorem d_RU_holds_42 : decode m_RU_holds.2.1 42 = .ok (.if_icmp .eq 9, 3) := by decide +kernel
theorem d_RU_holds_45 : decode m_RU_holds.2.1 45 = .ok (.iload_n 2, 1) := by decide +kernel
theorem d_RU_holds_46 : decode m_RU_holds.2.1 46 = .ok (.ldc 28, 2) := by decide +kernel
theorem d_RU_holds_48 : decode m_RU_holds.2.1 48 = .ok (.if_icmp .ne 5, 3) := by decide +kernel
theorem d_RU_holds_51 : decode m_RU_holds.2.1 51 = .ok (.iconst 1, 1) := by decide +kernel
theorem d_RU_holds_52 : decode m_RU_holds.2.1 52 = .ok (.ireturn, 1) := by decide +kernel
theorem d_RU_holds_53 : decode m_RU_holds.2.1 53 = .ok (.aload_n 0, 1) := by decide +kernel
theorem d_RU_holds_54 : decode m_RU_holds.2.1 54 = .ok (.getfield 25, 3) := by decide +kernel
theorem d_RU_holds_57 : decode m_RU_holds.2.1 57 = .ok (.ifCond .ne 19, 3) := by decide +kernel
theorem d_RU_holds_60 : decode m_RU_holds.2.1 60 = .ok (.iload_n 1, 1) := by decide +kernel
theorem d_RU_holds_61 : decode m_RU_holds.2.1 61 = .ok (.iload_n 2, 1) := by decide +kernel
theorem d_RU_holds_62 : decode m_RU_holds.2.1 62 = .ok (.aload_n 0, 1) := by decide +kernel
theorem d_RU_holds_63 : decode m_RU_holds.2.1 63 = .ok (.getfield 29, 3) := by decide +kernel
theorem d_RU_holds_66 : decode m_RU_holds.2.1 66 = .ok (.iadd, 1) := by decide +kernel
theorem d_RU_holds_67 : decode m_RU_holds.2.1 67 = .ok (.if_icmp .gt 7, 3) := by decide +kernel
theorem d_RU_holds_70 : decode m_RU_holds.2.1 70 = .ok (.iconst 1, 1) := by decide +kernel
theorem d_RU_holds_71 : decode m_RU_holds.2.1 71 = .ok (.goto 4, 3) := by decide +kernel
theorem d_RU_holds_74 : decode m_RU_holds.2.1 74 = .ok (.iconst 0, 1) := by decide +kernel
theorem d_RU_holds_75 : decode m_RU_holds.2.1 75 = .ok (.ireturn, 1) := by decide +kernel
theorem d_RU_holds_76 : decode m_RU_holds.2.1 76 = .ok (.iload_n 1, 1) := by decide +kernel
theorem d_RU_holds_77 : decode m_RU_holds.2.1 77 = .ok (.iload_n 2, 1) := by decide +kernel
theorem d_RU_holds_78 : decode m_RU_holds.2.1 78 = .ok (.aload_n 0, 1) := by decide +kernel
theorem d_RU_holds_79 : decode m_RU_holds.2.1 79 = .ok (.getfield 29, 3) := by decide +kernel
theorem d_RU_holds_82 : decode m_RU_holds.2.1 82 = .ok (.iadd, 1) := by decide +kernel
theorem d_RU_holds_83 : decode m_RU_holds.2.1 83 = .ok (.if_icmp .ne 7, 3) := by decide +kernel
theorem d_RU_holds_86 : decode m_RU_holds.2.1 86 = .ok (.iconst 1, 1) := by decide +kernel
theorem d_RU_holds_87 : decode m_RU_holds.2.1 87 = .ok (.goto 4, 3) := by decide +kernel
theorem d_RU_holds_90 : decode m_RU_holds.2.1 90 = .ok (.iconst 0, 1) := by decide +kernel
theorem d_RU_holds_91 : decode m_RU_holds.2.1 91 = .ok (.aload_n 0, 1) := by decide +kernel
theorem d_RU_holds_92 : decode m_RU_holds.2.1 92 = .ok (.getfield 25, 3) := by decide +kernel
theorem d_RU_holds_95 : decode m_RU_holds.2.1 95 = .ok (.iconst 1, 1) := by decide +kernel
theorem d_RU_holds_96 : decode m_RU_holds.2.1 96 = .ok (.if_icmp .ne 7, 3) := by decide +kernel
theorem d_RU_holds_99 : decode m_RU_holds.2.1 99 = .ok (.iconst 1, 1) := by decide +kernel
theorem d_RU_holds_100 : decode m_RU_holds.2.1 100 = .ok (.goto 4, 3) := by decide +kernel
theorem d_RU_holds_103 : decode m_RU_holds.2.1 103 = .ok (.iconst 0, 1) := by decide +kernel
theorem d_RU_holds_104 : decode m_RU_holds.2.1 104 = .ok (.if_icmp .ne 7, 3) := by decide +kernel
theorem d_RU_holds_107 : decode m_RU_holds.2.1 107 = .ok (.iconst 1, 1) := by decide +kernel
theorem d_RU_holds_108 : decode m_RU_holds.2.1 108 = .ok (.goto 4, 3) := by decide +kernel
theorem d_RU_holds_111 : decode m_RU_holds.2.1 111 = .ok (.iconst 0, 1) := by decide +kernel
theorem d_RU_holds_112 : decode m_RU_holds.2.1 112 = .ok (.ireturn, 1) := by decide +kernel
theorem d_ST_init_0 : decode m_ST_init.2.1 0 = .ok (.aload_n 0, 1) := by decide +kernel
theorem d_ST_init_1 : decode m_ST_init.2.1 1 = .ok (.invokespecial 3, 3) := by decide +kernel
theorem d_ST_init_4 : decode m_ST_init.2.1 4 = .ok (.aload_n 0, 1) := by decide +kernel
theorem d_ST_init_5 : decode m_ST_init.2.1 5 = .ok (.bipush 6, 2) := by decide +kernel
theorem d_ST_init_7 : decode m_ST_init.2.1 7 = .ok (.newarray .int, 2) := by decide +kernel
theorem d_ST_init_9 : decode m_ST_init.2.1 9 = .ok (.putfield 9, 3) := by decide +kernel
theorem d_ST_init_12 : decode m_ST_init.2.1 12 = .ok (.return_, 1) := by decide +kernel

theorem d_CB_init_0 : decode m_CB_init.2.1 0 = .ok (.aload_n 0, 1) := by decide +kernel
theorem d_CB_init_1 : decode m_CB_init.2.1 1 = .ok (.invokespecial 3, 3) := by decide +kernel
theorem d_CB_init_4 : decode m_CB_init.2.1 4 = .ok (.aload_n 0, 1) := by decide +kernel
theorem d_CB_init_5 : decode m_CB_init.2.1 5 = .ok (.new 9, 3) := by decide +kernel
theorem d_CB_init_8 : decode m_CB_init.2.1 8 = .ok (.dup, 1) := by decide +kernel
theorem d_CB_init_9 : decode m_CB_init.2.1 9 = .ok (.invokespecial 11, 3) := by decide +kernel
theorem d_CB_init_12 : decode m_CB_init.2.1 12 = .ok (.putfield 12, 3) := by decide +kernel
theorem d_CB_init_15 : decode m_CB_init.2.1 15 = .ok (.aload_n 0, 1) := by decide +kernel
theorem d_CB_init_16 : decode m_CB_init.2.1 16 = .ok (.new 16, 3) := by decide +kernel
theorem d_CB_init_19 : decode m_CB_init.2.1 19 = .ok (.dup, 1) := by decide +kernel
theorem d_CB_init_20 : decode m_CB_init.2.1 20 = .ok (.aload_n 0, 1) := by decide +kernel
theorem d_CB_init_21 : decode m_CB_init.2.1 21 = .ok (.getfield 12, 3) := by decide +kernel
theorem d_CB_init_24 : decode m_CB_init.2.1 24 = .ok (.invokespecial 18, 3) := by decide +kernel
theorem d_CB_init_27 : decode m_CB_init.2.1 27 = .ok (.putfield 21, 3) := by decide +kernel
theorem d_CB_init_30 : decode m_CB_init.2.1 30 = .ok (.aload_n 0, 1) := by decide +kernel
theorem d_CB_init_31 : decode m_CB_init.2.1 31 = .ok (.new 25, 3) := by decide +kernel
theorem d_CB_init_34 : decode m_CB_init.2.1 34 = .ok (.dup, 1) := by decide +kernel
theorem d_CB_init_35 : decode m_CB_init.2.1 35 = .ok (.invokespecial 27, 3) := by decide +kernel
theorem d_CB_init_38 : decode m_CB_init.2.1 38 = .ok (.putfield 28, 3) := by decide +kernel
theorem d_CB_init_41 : decode m_CB_init.2.1 41 = .ok (.aload_n 0, 1) := by decide +kernel
theorem d_CB_init_42 : decode m_CB_init.2.1 42 = .ok (.bipush 6, 2) := by decide +kernel
theorem d_CB_init_44 : decode m_CB_init.2.1 44 = .ok (.newarray .int, 2) := by decide +kernel
theorem d_CB_init_46 : decode m_CB_init.2.1 46 = .ok (.putfield 32, 3) := by decide +kernel
theorem d_CB_init_49 : decode m_CB_init.2.1 49 = .ok (.aload_n 0, 1) := by decide +kernel
theorem d_CB_init_50 : decode m_CB_init.2.1 50 = .ok (.getfield 32, 3) := by decide +kernel
theorem d_CB_init_53 : decode m_CB_init.2.1 53 = .ok (.ldc 36, 2) := by decide +kernel
theorem d_CB_init_55 : decode m_CB_init.2.1 55 = .ok (.invokestatic 37, 3) := by decide +kernel
theorem d_CB_init_58 : decode m_CB_init.2.1 58 = .ok (.aload_n 0, 1) := by decide +kernel
theorem d_CB_init_59 : decode m_CB_init.2.1 59 = .ok (.iconst 4, 1) := by decide +kernel
theorem d_CB_init_60 : decode m_CB_init.2.1 60 = .ok (.anewarray 43, 3) := by decide +kernel
theorem d_CB_init_63 : decode m_CB_init.2.1 63 = .ok (.putfield 45, 3) := by decide +kernel
theorem d_CB_init_66 : decode m_CB_init.2.1 66 = .ok (.iconst 0, 1) := by decide +kernel
theorem d_CB_init_67 : decode m_CB_init.2.1 67 = .ok (.istore_n 1, 1) := by decide +kernel
theorem d_CB_init_68 : decode m_CB_init.2.1 68 = .ok (.iload_n 1, 1) := by decide +kernel
theorem d_CB_init_69 : decode m_CB_init.2.1 69 = .ok (.iconst 4, 1) := by decide +kernel
theorem d_CB_init_70 : decode m_CB_init.2.1 70 = .ok (.if_icmp .ge 22, 3) := by decide +kernel
theorem d_CB_init_73 : decode m_CB_init.2.1 73 = .ok (.aload_n 0, 1) := by decide +kernel
theorem d_CB_init_74 : decode m_CB_init.2.1 74 = .ok (.getfield 45, 3) := by decide +kernel
theorem d_CB_init_77 : decode m_CB_init.2.1 77 = .ok (.iload_n 1, 1) := by decide +kernel
theorem d_CB_init_78 : decode m_CB_init.2.1 78 = .ok (.new 43, 3) := by decide +kernel
theorem d_CB_init_81 : decode m_CB_init.2.1 81 = .ok (.dup, 1) := by decide +kernel
theorem d_CB_init_82 : decode m_CB_init.2.1 82 = .ok (.invokespecial 49, 3) := by decide +kernel
theorem d_CB_init_85 : decode m_CB_init.2.1 85 = .ok (.aastore, 1) := by decide +kernel
theorem d_CB_init_86 : decode m_CB_init.2.1 86 = .ok (.iinc 1 1, 3) := by decide +kernel
theorem d_CB_init_89 : decode m_CB_init.2.1 89 = .ok (.goto (-21), 3) := by decide +kernel
theorem d_CB_init_92 : decode m_CB_init.2.1 92 = .ok (.aload_n 0, 1) := by decide +kernel
theorem d_CB_init_93 : decode m_CB_init.2.1 93 = .ok (.bipush 6, 2) := by decide +kernel
theorem d_CB_init_95 : decode m_CB_init.2.1 95 = .ok (.anewarray 50, 3) := by decide +kernel
theorem d_CB_init_98 : decode m_CB_init.2.1 98 = .ok (.putfield 52, 3) := by decide +kernel
theorem d_CB_init_101 : decode m_CB_init.2.1 101 = .ok (.iconst 0, 1) := by decide +kernel
theorem d_CB_init_102 : decode m_CB_init.2.1 102 = .ok (.istore_n 1, 1) := by decide +kernel
theorem d_CB_init_103 : decode m_CB_init.2.1 103 = .ok (.iload_n 1, 1) := by decide +kernel
theorem d_CB_init_104 : decode m_CB_init.2.1 104 = .ok (.aload_n 0, 1) := by decide +kernel
theorem d_CB_init_105 : decode m_CB_init.2.1 105 = .ok (.getfield 52, 3) := by decide +kernel
theorem d_CB_init_108 : decode m_CB_init.2.1 108 = .ok (.arraylength, 1) := by decide +kernel
theorem d_CB_init_109 : decode m_CB_init.2.1 109 = .ok (.if_icmp .ge 22, 3) := by decide +kernel
theorem d_CB_init_112 : decode m_CB_init.2.1 112 = .ok (.aload_n 0, 1) := by decide +kernel
theorem d_CB_init_113 : decode m_CB_init.2.1 113 = .ok (.getfield 52, 3) := by decide +kernel
theorem d_CB_init_116 : decode m_CB_init.2.1 116 = .ok (.iload_n 1, 1) := by decide +kernel
theorem d_CB_init_117 : decode m_CB_init.2.1 117 = .ok (.new 50, 3) := by decide +kernel
theorem d_CB_init_120 : decode m_CB_init.2.1 120 = .ok (.dup, 1) := by decide +kernel
theorem d_CB_init_121 : decode m_CB_init.2.1 121 = .ok (.invokespecial 56, 3) := by decide +kernel
theorem d_CB_init_124 : decode m_CB_init.2.1 124 = .ok (.aastore, 1) := by decide +kernel
theorem d_CB_init_125 : decode m_CB_init.2.1 125 = .ok (.iinc 1 1, 3) := by decide +kernel
theorem d_CB_init_128 : decode m_CB_init.2.1 128 = .ok (.goto (-25), 3) := by decide +kernel
theorem d_CB_init_131 : decode m_CB_init.2.1 131 = .ok (.aload_n 0, 1) := by decide +kernel
theorem d_CB_init_132 : decode m_CB_init.2.1 132 = .ok (.iconst (-1), 1) := by decide +kernel
theorem d_CB_init_133 : decode m_CB_init.2.1 133 = .ok (.putfield 57, 3) := by decide +kernel
theorem d_CB_init_136 : decode m_CB_init.2.1 136 = .ok (.return_, 1) := by decide +kernel
theorem d_CB_addTable_0 : decode m_CB_addTable.2.1 0 = .ok (.aload_n 0, 1) := by decide +kernel
theorem d_CB_addTable_1 : decode m_CB_addTable.2.1 1 = .ok (.getfield 12, 3) := by decide +kernel
theorem d_CB_addTable_4 : decode m_CB_addTable.2.1 4 = .ok (.getfield 61, 3) := by decide +kernel
theorem d_CB_addTable_7 : decode m_CB_addTable.2.1 7 = .ok (.iconst 4, 1) := by decide +kernel
theorem d_CB_addTable_8 : decode m_CB_addTable.2.1 8 = .ok (.if_icmp .lt 11, 3) := by decide +kernel
theorem d_CB_addTable_11 : decode m_CB_addTable.2.1 11 = .ok (.new 64, 3) := by decide +kernel
theorem d_CB_addTable_14 : decode m_CB_addTable.2.1 14 = .ok (.dup, 1) := by decide +kernel
theorem d_CB_addTable_15 : decode m_CB_addTable.2.1 15 = .ok (.invokespecial 66, 3) := by decide +kernel
theorem d_CB_addTable_18 : decode m_CB_addTable.2.1 18 = .ok (.athrow, 1) := by decide +kernel
theorem d_CB_addTable_19 : decode m_CB_addTable.2.1 19 = .ok (.aload_n 0, 1) := by decide +kernel
theorem d_CB_addTable_20 : decode m_CB_addTable.2.1 20 = .ok (.invokevirtual 67, 3) := by decide +kernel
theorem d_CB_addTable_23 : decode m_CB_addTable.2.1 23 = .ok (.aload_n 0, 1) := by decide +kernel
theorem d_CB_addTable_24 : decode m_CB_addTable.2.1 24 = .ok (.getfield 12, 3) := by decide +kernel
theorem d_CB_addTable_27 : decode m_CB_addTable.2.1 27 = .ok (.dup, 1) := by decide +kernel
theorem d_CB_addTable_28 : decode m_CB_addTable.2.1 28 = .ok (.getfield 61, 3) := by decide +kernel
theorem d_CB_addTable_31 : decode m_CB_addTable.2.1 31 = .ok (.dup_x1, 1) := by decide +kernel
theorem d_CB_addTable_32 : decode m_CB_addTable.2.1 32 = .ok (.iconst 1, 1) := by decide +kernel
theorem d_CB_addTable_33 : decode m_CB_addTable.2.1 33 = .ok (.iadd, 1) := by decide +kernel
theorem d_CB_addTable_34 : decode m_CB_addTable.2.1 34 = .ok (.putfield 61, 3) := by decide +kernel
theorem d_CB_addTable_37 : decode m_CB_addTable.2.1 37 = .ok (.ireturn, 1) := by decide +kernel
theorem d_CB_addNumber_0 : decode m_CB_addNumber.2.1 0 = .ok (.aload_n 0, 1) := by decide +kernel
theorem d_CB_addNumber_1 : decode m_CB_addNumber.2.1 1 = .ok (.iload_n 1, 1) := by decide +kernel
theorem d_CB_addNumber_2 : decode m_CB_addNumber.2.1 2 = .ok (.invokevirtual 70, 3) := by decide +kernel
theorem d_CB_addNumber_5 : decode m_CB_addNumber.2.1 5 = .ok (.aload_n 0, 1) := by decide +kernel
theorem d_CB_addNumber_6 : decode m_CB_addNumber.2.1 6 = .ok (.iload_n 2, 1) := by decide +kernel
theorem d_CB_addNumber_7 : decode m_CB_addNumber.2.1 7 = .ok (.iload_n 3, 1) := by decide +kernel
theorem d_CB_addNumber_8 : decode m_CB_addNumber.2.1 8 = .ok (.invokevirtual 74, 3) := by decide +kernel
theorem d_CB_addNumber_11 : decode m_CB_addNumber.2.1 11 = .ok (.aload_n 0, 1) := by decide +kernel
theorem d_CB_addNumber_12 : decode m_CB_addNumber.2.1 12 = .ok (.iload_n 1, 1) := by decide +kernel
theorem d_CB_addNumber_13 : decode m_CB_addNumber.2.1 13 = .ok (.invokevirtual 78, 3) := by decide +kernel
theorem d_CB_addNumber_16 : decode m_CB_addNumber.2.1 16 = .ok (.aload_n 0, 1) := by decide +kernel
theorem d_CB_addNumber_17 : decode m_CB_addNumber.2.1 17 = .ok (.invokevirtual 67, 3) := by decide +kernel
theorem d_CB_addNumber_20 : decode m_CB_addNumber.2.1 20 = .ok (.aload_n 0, 1) := by decide +kernel
theorem d_CB_addNumber_21 : decode m_CB_addNumber.2.1 21 = .ok (.getfield 12, 3) := by decide +kernel
theorem d_CB_addNumber_24 : decode m_CB_addNumber.2.1 24 = .ok (.iload_n 1, 1) := by decide +kernel
theorem d_CB_addNumber_25 : decode m_CB_addNumber.2.1 25 = .ok (.iload_n 2, 1) := by decide +kernel
theorem d_CB_addNumber_26 : decode m_CB_addNumber.2.1 26 = .ok (.iload_n 3, 1) := by decide +kernel
theorem d_CB_addNumber_27 : decode m_CB_addNumber.2.1 27 = .ok (.invokevirtual 81, 3) := by decide +kernel
theorem d_CB_addNumber_30 : decode m_CB_addNumber.2.1 30 = .ok (.ireturn, 1) := by decide +kernel
theorem d_CB_addLink_0 : decode m_CB_addLink.2.1 0 = .ok (.aload_n 0, 1) := by decide +kernel
theorem d_CB_addLink_1 : decode m_CB_addLink.2.1 1 = .ok (.iload_n 1, 1) := by decide +kernel
theorem d_CB_addLink_2 : decode m_CB_addLink.2.1 2 = .ok (.invokevirtual 70, 3) := by decide +kernel
theorem d_CB_addLink_5 : decode m_CB_addLink.2.1 5 = .ok (.aload_n 0, 1) := by decide +kernel
theorem d_CB_addLink_6 : decode m_CB_addLink.2.1 6 = .ok (.iload_n 2, 1) := by decide +kernel
theorem d_CB_addLink_7 : decode m_CB_addLink.2.1 7 = .ok (.invokevirtual 70, 3) := by decide +kernel
theorem d_CB_addLink_10 : decode m_CB_addLink.2.1 10 = .ok (.aload_n 0, 1) := by decide +kernel
theorem d_CB_addLink_11 : decode m_CB_addLink.2.1 11 = .ok (.iload_n 3, 1) := by decide +kernel
theorem d_CB_addLink_12 : decode m_CB_addLink.2.1 12 = .ok (.invokevirtual 85, 3) := by decide +kernel
theorem d_CB_addLink_15 : decode m_CB_addLink.2.1 15 = .ok (.aload_n 0, 1) := by decide +kernel
theorem d_CB_addLink_16 : decode m_CB_addLink.2.1 16 = .ok (.iload_n 1, 1) := by decide +kernel
theorem d_CB_addLink_17 : decode m_CB_addLink.2.1 17 = .ok (.invokevirtual 78, 3) := by decide +kernel
theorem d_CB_addLink_20 : decode m_CB_addLink.2.1 20 = .ok (.aload_n 0, 1) := by decide +kernel
theorem d_CB_addLink_21 : decode m_CB_addLink.2.1 21 = .ok (.invokevirtual 67, 3) := by decide +kernel
theorem d_CB_addLink_24 : decode m_CB_addLink.2.1 24 = .ok (.aload_n 0, 1) := by decide +kernel
theorem d_CB_addLink_25 : decode m_CB_addLink.2.1 25 = .ok (.getfield 12, 3) := by decide +kernel
theorem d_CB_addLink_28 : decode m_CB_addLink.2.1 28 = .ok (.iload_n 1, 1) := by decide +kernel
theorem d_CB_addLink_29 : decode m_CB_addLink.2.1 29 = .ok (.iload_n 2, 1) := by decide +kernel
theorem d_CB_addLink_30 : decode m_CB_addLink.2.1 30 = .ok (.iload_n 3, 1) := by decide +kernel
theorem d_CB_addLink_31 : decode m_CB_addLink.2.1 31 = .ok (.invokevirtual 88, 3) := by decide +kernel
theorem d_CB_addLink_34 : decode m_CB_addLink.2.1 34 = .ok (.ireturn, 1) := by decide +kernel
theorem d_CB_addReckoned_0 : decode m_CB_addReckoned.2.1 0 = .ok (.aload_n 0, 1) := by decide +kernel
theorem d_CB_addReckoned_1 : decode m_CB_addReckoned.2.1 1 = .ok (.iload_n 1, 1) := by decide +kernel
theorem d_CB_addReckoned_2 : decode m_CB_addReckoned.2.1 2 = .ok (.invokevirtual 70, 3) := by decide +kernel
theorem d_CB_addReckoned_5 : decode m_CB_addReckoned.2.1 5 = .ok (.aload_n 0, 1) := by decide +kernel
theorem d_CB_addReckoned_6 : decode m_CB_addReckoned.2.1 6 = .ok (.iload_n 1, 1) := by decide +kernel
theorem d_CB_addReckoned_7 : decode m_CB_addReckoned.2.1 7 = .ok (.iload_n 2, 1) := by decide +kernel
theorem d_CB_addReckoned_8 : decode m_CB_addReckoned.2.1 8 = .ok (.iload_n 3, 1) := by decide +kernel
theorem d_CB_addReckoned_9 : decode m_CB_addReckoned.2.1 9 = .ok (.iload 4, 2) := by decide +kernel
theorem d_CB_addReckoned_11 : decode m_CB_addReckoned.2.1 11 = .ok (.iload 5, 2) := by decide +kernel
theorem d_CB_addReckoned_13 : decode m_CB_addReckoned.2.1 13 = .ok (.invokevirtual 91, 3) := by decide +kernel
theorem d_CB_addReckoned_16 : decode m_CB_addReckoned.2.1 16 = .ok (.aload_n 0, 1) := by decide +kernel
theorem d_CB_addReckoned_17 : decode m_CB_addReckoned.2.1 17 = .ok (.iload_n 1, 1) := by decide +kernel
theorem d_CB_addReckoned_18 : decode m_CB_addReckoned.2.1 18 = .ok (.invokevirtual 78, 3) := by decide +kernel
theorem d_CB_addReckoned_21 : decode m_CB_addReckoned.2.1 21 = .ok (.aload_n 0, 1) := by decide +kernel
theorem d_CB_addReckoned_22 : decode m_CB_addReckoned.2.1 22 = .ok (.invokevirtual 67, 3) := by decide +kernel
theorem d_CB_addReckoned_25 : decode m_CB_addReckoned.2.1 25 = .ok (.aload_n 0, 1) := by decide +kernel
theorem d_CB_addReckoned_26 : decode m_CB_addReckoned.2.1 26 = .ok (.getfield 12, 3) := by decide +kernel
theorem d_CB_addReckoned_29 : decode m_CB_addReckoned.2.1 29 = .ok (.iload_n 1, 1) := by decide +kernel
theorem d_CB_addReckoned_30 : decode m_CB_addReckoned.2.1 30 = .ok (.iload_n 2, 1) := by decide +kernel
theorem d_CB_addReckoned_31 : decode m_CB_addReckoned.2.1 31 = .ok (.iload_n 3, 1) := by decide +kernel
theorem d_CB_addReckoned_32 : decode m_CB_addReckoned.2.1 32 = .ok (.iload 4, 2) := by decide +kernel
theorem d_CB_addReckoned_34 : decode m_CB_addReckoned.2.1 34 = .ok (.iload 5, 2) := by decide +kernel
theorem d_CB_addReckoned_36 : decode m_CB_addReckoned.2.1 36 = .ok (.invokevirtual 95, 3) := by decide +kernel
theorem d_CB_addReckoned_39 : decode m_CB_addReckoned.2.1 39 = .ok (.ireturn, 1) := by decide +kernel
theorem d_CB_reckonAnew_0 : decode m_CB_reckonAnew.2.1 0 = .ok (.aload_n 0, 1) := by decide +kernel
theorem d_CB_reckonAnew_1 : decode m_CB_reckonAnew.2.1 1 = .ok (.iload_n 1, 1) := by decide +kernel
theorem d_CB_reckonAnew_2 : decode m_CB_reckonAnew.2.1 2 = .ok (.iload_n 2, 1) := by decide +kernel
theorem d_CB_reckonAnew_3 : decode m_CB_reckonAnew.2.1 3 = .ok (.invokevirtual 99, 3) := by decide +kernel
theorem d_CB_reckonAnew_6 : decode m_CB_reckonAnew.2.1 6 = .ok (.aload_n 0, 1) := by decide +kernel
theorem d_CB_reckonAnew_7 : decode m_CB_reckonAnew.2.1 7 = .ok (.iload_n 1, 1) := by decide +kernel
theorem d_CB_reckonAnew_8 : decode m_CB_reckonAnew.2.1 8 = .ok (.iload_n 3, 1) := by decide +kernel
theorem d_CB_reckonAnew_9 : decode m_CB_reckonAnew.2.1 9 = .ok (.iload 4, 2) := by decide +kernel
theorem d_CB_reckonAnew_11 : decode m_CB_reckonAnew.2.1 11 = .ok (.iload 5, 2) := by decide +kernel
theorem d_CB_reckonAnew_13 : decode m_CB_reckonAnew.2.1 13 = .ok (.iload 6, 2) := by decide +kernel
theorem d_CB_reckonAnew_15 : decode m_CB_reckonAnew.2.1 15 = .ok (.invokevirtual 91, 3) := by decide +kernel
theorem d_CB_reckonAnew_18 : decode m_CB_reckonAnew.2.1 18 = .ok (.aload_n 0, 1) := by decide +kernel
theorem d_CB_reckonAnew_19 : decode m_CB_reckonAnew.2.1 19 = .ok (.getfield 12, 3) := by decide +kernel
theorem d_CB_reckonAnew_22 : decode m_CB_reckonAnew.2.1 22 = .ok (.iload_n 1, 1) := by decide +kernel
theorem d_CB_reckonAnew_23 : decode m_CB_reckonAnew.2.1 23 = .ok (.iload_n 2, 1) := by decide +kernel
theorem d_CB_reckonAnew_24 : decode m_CB_reckonAnew.2.1 24 = .ok (.invokevirtual 102, 3) := by decide +kernel
theorem d_CB_reckonAnew_27 : decode m_CB_reckonAnew.2.1 27 = .ok (.getfield 106, 3) := by decide +kernel
theorem d_CB_reckonAnew_30 : decode m_CB_reckonAnew.2.1 30 = .ok (.iconst 3, 1) := by decide +kernel
theorem d_CB_reckonAnew_31 : decode m_CB_reckonAnew.2.1 31 = .ok (.if_icmp .eq 11, 3) := by decide +kernel
theorem d_CB_reckonAnew_34 : decode m_CB_reckonAnew.2.1 34 = .ok (.new 111, 3) := by decide +kernel
theorem d_CB_reckonAnew_37 : decode m_CB_reckonAnew.2.1 37 = .ok (.dup, 1) := by decide +kernel
theorem d_CB_reckonAnew_38 : decode m_CB_reckonAnew.2.1 38 = .ok (.invokespecial 113, 3) := by decide +kernel
theorem d_CB_reckonAnew_41 : decode m_CB_reckonAnew.2.1 41 = .ok (.athrow, 1) := by decide +kernel
theorem d_CB_reckonAnew_42 : decode m_CB_reckonAnew.2.1 42 = .ok (.aload_n 0, 1) := by decide +kernel
theorem d_CB_reckonAnew_43 : decode m_CB_reckonAnew.2.1 43 = .ok (.aload_n 0, 1) := by decide +kernel
theorem d_CB_reckonAnew_44 : decode m_CB_reckonAnew.2.1 44 = .ok (.getfield 12, 3) := by decide +kernel
theorem d_CB_reckonAnew_47 : decode m_CB_reckonAnew.2.1 47 = .ok (.iload_n 1, 1) := by decide +kernel
theorem d_CB_reckonAnew_48 : decode m_CB_reckonAnew.2.1 48 = .ok (.iload_n 2, 1) := by decide +kernel
theorem d_CB_reckonAnew_49 : decode m_CB_reckonAnew.2.1 49 = .ok (.iload_n 3, 1) := by decide +kernel
theorem d_CB_reckonAnew_50 : decode m_CB_reckonAnew.2.1 50 = .ok (.iload 4, 2) := by decide +kernel
theorem d_CB_reckonAnew_52 : decode m_CB_reckonAnew.2.1 52 = .ok (.iload 5, 2) := by decide +kernel
theorem d_CB_reckonAnew_54 : decode m_CB_reckonAnew.2.1 54 = .ok (.iload 6, 2) := by decide +kernel
theorem d_CB_reckonAnew_56 : decode m_CB_reckonAnew.2.1 56 = .ok (.invokevirtual 114, 3) := by decide +kernel
theorem d_CB_reckonAnew_59 : decode m_CB_reckonAnew.2.1 59 = .ok (.invokevirtual 118, 3) := by decide +kernel
theorem d_CB_reckonAnew_62 : decode m_CB_reckonAnew.2.1 62 = .ok (.ireturn, 1) := by decide +kernel
theorem d_CB_need_0 : decode m_CB_need.2.1 0 = .ok (.aload_n 0, 1) := by decide +kernel
theorem d_CB_need_1 : decode m_CB_need.2.1 1 = .ok (.iload_n 1, 1) := by decide +kernel
theorem d_CB_need_2 : decode m_CB_need.2.1 2 = .ok (.iload_n 2, 1) := by decide +kernel
theorem d_CB_need_3 : decode m_CB_need.2.1 3 = .ok (.invokevirtual 99, 3) := by decide +kernel
theorem d_CB_need_6 : decode m_CB_need.2.1 6 = .ok (.aload_n 0, 1) := by decide +kernel
theorem d_CB_need_7 : decode m_CB_need.2.1 7 = .ok (.iload_n 1, 1) := by decide +kernel
theorem d_CB_need_8 : decode m_CB_need.2.1 8 = .ok (.iload_n 2, 1) := by decide +kernel
theorem d_CB_need_9 : decode m_CB_need.2.1 9 = .ok (.invokevirtual 122, 3) := by decide +kernel
theorem d_CB_need_12 : decode m_CB_need.2.1 12 = .ok (.aload_n 0, 1) := by decide +kernel
theorem d_CB_need_13 : decode m_CB_need.2.1 13 = .ok (.aload_n 0, 1) := by decide +kernel
theorem d_CB_need_14 : decode m_CB_need.2.1 14 = .ok (.getfield 12, 3) := by decide +kernel
theorem d_CB_need_17 : decode m_CB_need.2.1 17 = .ok (.iload_n 1, 1) := by decide +kernel
theorem d_CB_need_18 : decode m_CB_need.2.1 18 = .ok (.iload_n 2, 1) := by decide +kernel
theorem d_CB_need_19 : decode m_CB_need.2.1 19 = .ok (.iload_n 3, 1) := by decide +kernel
theorem d_CB_need_20 : decode m_CB_need.2.1 20 = .ok (.invokevirtual 125, 3) := by decide +kernel
theorem d_CB_need_23 : decode m_CB_need.2.1 23 = .ok (.invokevirtual 118, 3) := by decide +kernel
theorem d_CB_need_26 : decode m_CB_need.2.1 26 = .ok (.ireturn, 1) := by decide +kernel
theorem d_CB_single_0 : decode m_CB_single.2.1 0 = .ok (.aload_n 0, 1) := by decide +kernel
theorem d_CB_single_1 : decode m_CB_single.2.1 1 = .ok (.iload_n 1, 1) := by decide +kernel
theorem d_CB_single_2 : decode m_CB_single.2.1 2 = .ok (.iload_n 2, 1) := by decide +kernel
theorem d_CB_single_3 : decode m_CB_single.2.1 3 = .ok (.invokevirtual 99, 3) := by decide +kernel
theorem d_CB_single_6 : decode m_CB_single.2.1 6 = .ok (.aload_n 0, 1) := by decide +kernel
theorem d_CB_single_7 : decode m_CB_single.2.1 7 = .ok (.iload_n 1, 1) := by decide +kernel
theorem d_CB_single_8 : decode m_CB_single.2.1 8 = .ok (.iload_n 2, 1) := by decide +kernel
theorem d_CB_single_9 : decode m_CB_single.2.1 9 = .ok (.invokevirtual 122, 3) := by decide +kernel
theorem d_CB_single_12 : decode m_CB_single.2.1 12 = .ok (.aload_n 0, 1) := by decide +kernel
theorem d_CB_single_13 : decode m_CB_single.2.1 13 = .ok (.aload_n 0, 1) := by decide +kernel
theorem d_CB_single_14 : decode m_CB_single.2.1 14 = .ok (.getfield 12, 3) := by decide +kernel
theorem d_CB_single_17 : decode m_CB_single.2.1 17 = .ok (.iload_n 1, 1) := by decide +kernel
theorem d_CB_single_18 : decode m_CB_single.2.1 18 = .ok (.iload_n 2, 1) := by decide +kernel
theorem d_CB_single_19 : decode m_CB_single.2.1 19 = .ok (.iload_n 3, 1) := by decide +kernel
theorem d_CB_single_20 : decode m_CB_single.2.1 20 = .ok (.invokevirtual 129, 3) := by decide +kernel
theorem d_CB_single_23 : decode m_CB_single.2.1 23 = .ok (.invokevirtual 118, 3) := by decide +kernel
theorem d_CB_single_26 : decode m_CB_single.2.1 26 = .ok (.ireturn, 1) := by decide +kernel
theorem d_CB_wouldLose_0 : decode m_CB_wouldLose.2.1 0 = .ok (.aload_n 0, 1) := by decide +kernel
theorem d_CB_wouldLose_1 : decode m_CB_wouldLose.2.1 1 = .ok (.iload_n 1, 1) := by decide +kernel
theorem d_CB_wouldLose_2 : decode m_CB_wouldLose.2.1 2 = .ok (.iload_n 2, 1) := by decide +kernel
theorem d_CB_wouldLose_3 : decode m_CB_wouldLose.2.1 3 = .ok (.invokevirtual 99, 3) := by decide +kernel
theorem d_CB_wouldLose_6 : decode m_CB_wouldLose.2.1 6 = .ok (.aload_n 0, 1) := by decide +kernel
theorem d_CB_wouldLose_7 : decode m_CB_wouldLose.2.1 7 = .ok (.iload_n 1, 1) := by decide +kernel
theorem d_CB_wouldLose_8 : decode m_CB_wouldLose.2.1 8 = .ok (.iload_n 2, 1) := by decide +kernel
theorem d_CB_wouldLose_9 : decode m_CB_wouldLose.2.1 9 = .ok (.invokevirtual 132, 3) := by decide +kernel
theorem d_CB_wouldLose_12 : decode m_CB_wouldLose.2.1 12 = .ok (.aload_n 0, 1) := by decide +kernel
theorem d_CB_wouldLose_13 : decode m_CB_wouldLose.2.1 13 = .ok (.iload_n 3, 1) := by decide +kernel
theorem d_CB_wouldLose_14 : decode m_CB_wouldLose.2.1 14 = .ok (.iload 4, 2) := by decide +kernel
theorem d_CB_wouldLose_16 : decode m_CB_wouldLose.2.1 16 = .ok (.invokevirtual 74, 3) := by decide +kernel
theorem d_CB_wouldLose_19 : decode m_CB_wouldLose.2.1 19 = .ok (.aload_n 0, 1) := by decide +kernel
theorem d_CB_wouldLose_20 : decode m_CB_wouldLose.2.1 20 = .ok (.getfield 12, 3) := by decide +kernel
theorem d_CB_wouldLose_23 : decode m_CB_wouldLose.2.1 23 = .ok (.iload_n 1, 1) := by decide +kernel
theorem d_CB_wouldLose_24 : decode m_CB_wouldLose.2.1 24 = .ok (.iload_n 2, 1) := by decide +kernel
theorem d_CB_wouldLose_25 : decode m_CB_wouldLose.2.1 25 = .ok (.iload_n 3, 1) := by decide +kernel
theorem d_CB_wouldLose_26 : decode m_CB_wouldLose.2.1 26 = .ok (.iload 4, 2) := by decide +kernel
theorem d_CB_wouldLose_28 : decode m_CB_wouldLose.2.1 28 = .ok (.invokevirtual 135, 3) := by decide +kernel
theorem d_CB_wouldLose_31 : decode m_CB_wouldLose.2.1 31 = .ok (.ireturn, 1) := by decide +kernel
theorem d_CB_narrow_0 : decode m_CB_narrow.2.1 0 = .ok (.aload_n 0, 1) := by decide +kernel
theorem d_CB_narrow_1 : decode m_CB_narrow.2.1 1 = .ok (.iload_n 1, 1) := by decide +kernel
theorem d_CB_narrow_2 : decode m_CB_narrow.2.1 2 = .ok (.iload_n 2, 1) := by decide +kernel
theorem d_CB_narrow_3 : decode m_CB_narrow.2.1 3 = .ok (.invokevirtual 99, 3) := by decide +kernel
theorem d_CB_narrow_6 : decode m_CB_narrow.2.1 6 = .ok (.aload_n 0, 1) := by decide +kernel
theorem d_CB_narrow_7 : decode m_CB_narrow.2.1 7 = .ok (.iload_n 1, 1) := by decide +kernel
theorem d_CB_narrow_8 : decode m_CB_narrow.2.1 8 = .ok (.iload_n 2, 1) := by decide +kernel
theorem d_CB_narrow_9 : decode m_CB_narrow.2.1 9 = .ok (.invokevirtual 132, 3) := by decide +kernel
theorem d_CB_narrow_12 : decode m_CB_narrow.2.1 12 = .ok (.aload_n 0, 1) := by decide +kernel
theorem d_CB_narrow_13 : decode m_CB_narrow.2.1 13 = .ok (.iload_n 3, 1) := by decide +kernel
theorem d_CB_narrow_14 : decode m_CB_narrow.2.1 14 = .ok (.iload 4, 2) := by decide +kernel
theorem d_CB_narrow_16 : decode m_CB_narrow.2.1 16 = .ok (.invokevirtual 74, 3) := by decide +kernel
theorem d_CB_narrow_19 : decode m_CB_narrow.2.1 19 = .ok (.aload_n 0, 1) := by decide +kernel
theorem d_CB_narrow_20 : decode m_CB_narrow.2.1 20 = .ok (.aload_n 0, 1) := by decide +kernel
theorem d_CB_narrow_21 : decode m_CB_narrow.2.1 21 = .ok (.getfield 12, 3) := by decide +kernel
theorem d_CB_narrow_24 : decode m_CB_narrow.2.1 24 = .ok (.iload_n 1, 1) := by decide +kernel
theorem d_CB_narrow_25 : decode m_CB_narrow.2.1 25 = .ok (.iload_n 2, 1) := by decide +kernel
theorem d_CB_narrow_26 : decode m_CB_narrow.2.1 26 = .ok (.iload_n 3, 1) := by decide +kernel
theorem d_CB_narrow_27 : decode m_CB_narrow.2.1 27 = .ok (.iload 4, 2) := by decide +kernel
theorem d_CB_narrow_29 : decode m_CB_narrow.2.1 29 = .ok (.invokevirtual 139, 3) := by decide +kernel
theorem d_CB_narrow_32 : decode m_CB_narrow.2.1 32 = .ok (.invokevirtual 118, 3) := by decide +kernel
theorem d_CB_narrow_35 : decode m_CB_narrow.2.1 35 = .ok (.ireturn, 1) := by decide +kernel
theorem d_CB_wouldLoseAll_0 : decode m_CB_wouldLoseAll.2.1 0 = .ok (.aload_n 0, 1) := by decide +kernel
theorem d_CB_wouldLoseAll_1 : decode m_CB_wouldLoseAll.2.1 1 = .ok (.iload_n 1, 1) := by decide +kernel
theorem d_CB_wouldLoseAll_2 : decode m_CB_wouldLoseAll.2.1 2 = .ok (.iload_n 2, 1) := by decide +kernel
theorem d_CB_wouldLoseAll_3 : decode m_CB_wouldLoseAll.2.1 3 = .ok (.invokevirtual 99, 3) := by decide +kernel
theorem d_CB_wouldLoseAll_6 : decode m_CB_wouldLoseAll.2.1 6 = .ok (.aload_n 0, 1) := by decide +kernel
theorem d_CB_wouldLoseAll_7 : decode m_CB_wouldLoseAll.2.1 7 = .ok (.getfield 12, 3) := by decide +kernel
theorem d_CB_wouldLoseAll_10 : decode m_CB_wouldLoseAll.2.1 10 = .ok (.iload_n 1, 1) := by decide +kernel
theorem d_CB_wouldLoseAll_11 : decode m_CB_wouldLoseAll.2.1 11 = .ok (.iload_n 2, 1) := by decide +kernel
theorem d_CB_wouldLoseAll_12 : decode m_CB_wouldLoseAll.2.1 12 = .ok (.invokevirtual 143, 3) := by decide +kernel
theorem d_CB_wouldLoseAll_15 : decode m_CB_wouldLoseAll.2.1 15 = .ok (.ireturn, 1) := by decide +kernel
theorem d_CB_drop_0 : decode m_CB_drop.2.1 0 = .ok (.aload_n 0, 1) := by decide +kernel
theorem d_CB_drop_1 : decode m_CB_drop.2.1 1 = .ok (.iload_n 1, 1) := by decide +kernel
theorem d_CB_drop_2 : decode m_CB_drop.2.1 2 = .ok (.iload_n 2, 1) := by decide +kernel
theorem d_CB_drop_3 : decode m_CB_drop.2.1 3 = .ok (.invokevirtual 99, 3) := by decide +kernel
theorem d_CB_drop_6 : decode m_CB_drop.2.1 6 = .ok (.aload_n 0, 1) := by decide +kernel
theorem d_CB_drop_7 : decode m_CB_drop.2.1 7 = .ok (.iload_n 1, 1) := by decide +kernel
theorem d_CB_drop_8 : decode m_CB_drop.2.1 8 = .ok (.iload_n 2, 1) := by decide +kernel
theorem d_CB_drop_9 : decode m_CB_drop.2.1 9 = .ok (.invokevirtual 147, 3) := by decide +kernel
theorem d_CB_drop_12 : decode m_CB_drop.2.1 12 = .ok (.aload_n 0, 1) := by decide +kernel
theorem d_CB_drop_13 : decode m_CB_drop.2.1 13 = .ok (.getfield 12, 3) := by decide +kernel
theorem d_CB_drop_16 : decode m_CB_drop.2.1 16 = .ok (.iload_n 1, 1) := by decide +kernel
theorem d_CB_drop_17 : decode m_CB_drop.2.1 17 = .ok (.iload_n 2, 1) := by decide +kernel
theorem d_CB_drop_18 : decode m_CB_drop.2.1 18 = .ok (.invokevirtual 150, 3) := by decide +kernel
theorem d_CB_drop_21 : decode m_CB_drop.2.1 21 = .ok (.ifCond .ne 15, 3) := by decide +kernel
theorem d_CB_drop_24 : decode m_CB_drop.2.1 24 = .ok (.aload_n 0, 1) := by decide +kernel
theorem d_CB_drop_25 : decode m_CB_drop.2.1 25 = .ok (.getfield 21, 3) := by decide +kernel
theorem d_CB_drop_28 : decode m_CB_drop.2.1 28 = .ok (.iload_n 1, 1) := by decide +kernel
theorem d_CB_drop_29 : decode m_CB_drop.2.1 29 = .ok (.iload_n 2, 1) := by decide +kernel
theorem d_CB_drop_30 : decode m_CB_drop.2.1 30 = .ok (.invokevirtual 154, 3) := by decide +kernel
theorem d_CB_drop_33 : decode m_CB_drop.2.1 33 = .ok (.ifCond .eq 19, 3) := by decide +kernel
theorem d_CB_drop_36 : decode m_CB_drop.2.1 36 = .ok (.aload_n 0, 1) := by decide +kernel
theorem d_CB_drop_37 : decode m_CB_drop.2.1 37 = .ok (.aload_n 0, 1) := by decide +kernel
theorem d_CB_drop_38 : decode m_CB_drop.2.1 38 = .ok (.getfield 12, 3) := by decide +kernel
theorem d_CB_drop_41 : decode m_CB_drop.2.1 41 = .ok (.bipush 8, 2) := by decide +kernel
theorem d_CB_drop_43 : decode m_CB_drop.2.1 43 = .ok (.iload_n 1, 1) := by decide +kernel
theorem d_CB_drop_44 : decode m_CB_drop.2.1 44 = .ok (.iload_n 2, 1) := by decide +kernel
theorem d_CB_drop_45 : decode m_CB_drop.2.1 45 = .ok (.invokevirtual 155, 3) := by decide +kernel
theorem d_CB_drop_48 : decode m_CB_drop.2.1 48 = .ok (.invokevirtual 118, 3) := by decide +kernel
theorem d_CB_drop_51 : decode m_CB_drop.2.1 51 = .ok (.ireturn, 1) := by decide +kernel
theorem d_CB_drop_52 : decode m_CB_drop.2.1 52 = .ok (.aload_n 0, 1) := by decide +kernel
theorem d_CB_drop_53 : decode m_CB_drop.2.1 53 = .ok (.getfield 12, 3) := by decide +kernel
theorem d_CB_drop_56 : decode m_CB_drop.2.1 56 = .ok (.iload_n 1, 1) := by decide +kernel
theorem d_CB_drop_57 : decode m_CB_drop.2.1 57 = .ok (.iload_n 2, 1) := by decide +kernel
theorem d_CB_drop_58 : decode m_CB_drop.2.1 58 = .ok (.invokevirtual 159, 3) := by decide +kernel
theorem d_CB_drop_61 : decode m_CB_drop.2.1 61 = .ok (.aload_n 0, 1) := by decide +kernel
theorem d_CB_drop_62 : decode m_CB_drop.2.1 62 = .ok (.iconst 1, 1) := by decide +kernel
theorem d_CB_drop_63 : decode m_CB_drop.2.1 63 = .ok (.invokevirtual 118, 3) := by decide +kernel
theorem d_CB_drop_66 : decode m_CB_drop.2.1 66 = .ok (.ireturn, 1) := by decide +kernel
theorem d_CB_setRemoval_0 : decode m_CB_setRemoval.2.1 0 = .ok (.aload_n 0, 1) := by decide +kernel
theorem d_CB_setRemoval_1 : decode m_CB_setRemoval.2.1 1 = .ok (.iload_n 1, 1) := by decide +kernel
theorem d_CB_setRemoval_2 : decode m_CB_setRemoval.2.1 2 = .ok (.iload_n 2, 1) := by decide +kernel
theorem d_CB_setRemoval_3 : decode m_CB_setRemoval.2.1 3 = .ok (.invokevirtual 99, 3) := by decide +kernel
theorem d_CB_setRemoval_6 : decode m_CB_setRemoval.2.1 6 = .ok (.aload_n 0, 1) := by decide +kernel
theorem d_CB_setRemoval_7 : decode m_CB_setRemoval.2.1 7 = .ok (.iload_n 1, 1) := by decide +kernel
theorem d_CB_setRemoval_8 : decode m_CB_setRemoval.2.1 8 = .ok (.iload_n 2, 1) := by decide +kernel
theorem d_CB_setRemoval_9 : decode m_CB_setRemoval.2.1 9 = .ok (.invokevirtual 162, 3) := by decide +kernel
theorem d_CB_setRemoval_12 : decode m_CB_setRemoval.2.1 12 = .ok (.aload_n 0, 1) := by decide +kernel
theorem d_CB_setRemoval_13 : decode m_CB_setRemoval.2.1 13 = .ok (.iload_n 3, 1) := by decide +kernel
theorem d_CB_setRemoval_14 : decode m_CB_setRemoval.2.1 14 = .ok (.invokevirtual 85, 3) := by decide +kernel
theorem d_CB_setRemoval_17 : decode m_CB_setRemoval.2.1 17 = .ok (.aload_n 0, 1) := by decide +kernel
theorem d_CB_setRemoval_18 : decode m_CB_setRemoval.2.1 18 = .ok (.invokevirtual 67, 3) := by decide +kernel
theorem d_CB_setRemoval_21 : decode m_CB_setRemoval.2.1 21 = .ok (.aload_n 0, 1) := by decide +kernel
theorem d_CB_setRemoval_22 : decode m_CB_setRemoval.2.1 22 = .ok (.getfield 12, 3) := by decide +kernel
theorem d_CB_setRemoval_25 : decode m_CB_setRemoval.2.1 25 = .ok (.iload_n 1, 1) := by decide +kernel
theorem d_CB_setRemoval_26 : decode m_CB_setRemoval.2.1 26 = .ok (.iload_n 2, 1) := by decide +kernel
theorem d_CB_setRemoval_27 : decode m_CB_setRemoval.2.1 27 = .ok (.invokevirtual 102, 3) := by decide +kernel
theorem d_CB_setRemoval_30 : decode m_CB_setRemoval.2.1 30 = .ok (.astore 4, 2) := by decide +kernel
theorem d_CB_setRemoval_32 : decode m_CB_setRemoval.2.1 32 = .ok (.aload 4, 2) := by decide +kernel
theorem d_CB_setRemoval_34 : decode m_CB_setRemoval.2.1 34 = .ok (.getfield 165, 3) := by decide +kernel
theorem d_CB_setRemoval_37 : decode m_CB_setRemoval.2.1 37 = .ok (.istore 5, 2) := by decide +kernel
theorem d_CB_setRemoval_39 : decode m_CB_setRemoval.2.1 39 = .ok (.aload 4, 2) := by decide +kernel
theorem d_CB_setRemoval_41 : decode m_CB_setRemoval.2.1 41 = .ok (.iload_n 3, 1) := by decide +kernel
theorem d_CB_setRemoval_42 : decode m_CB_setRemoval.2.1 42 = .ok (.putfield 165, 3) := by decide +kernel
theorem d_CB_setRemoval_45 : decode m_CB_setRemoval.2.1 45 = .ok (.iload 5, 2) := by decide +kernel
theorem d_CB_setRemoval_47 : decode m_CB_setRemoval.2.1 47 = .ok (.ireturn, 1) := by decide +kernel
theorem d_CB_addRule_0 : decode m_CB_addRule.2.1 0 = .ok (.aload_n 0, 1) := by decide +kernel
theorem d_CB_addRule_1 : decode m_CB_addRule.2.1 1 = .ok (.iload_n 1, 1) := by decide +kernel
theorem d_CB_addRule_2 : decode m_CB_addRule.2.1 2 = .ok (.iload_n 2, 1) := by decide +kernel
theorem d_CB_addRule_3 : decode m_CB_addRule.2.1 3 = .ok (.invokevirtual 99, 3) := by decide +kernel
theorem d_CB_addRule_6 : decode m_CB_addRule.2.1 6 = .ok (.aload_n 0, 1) := by decide +kernel
theorem d_CB_addRule_7 : decode m_CB_addRule.2.1 7 = .ok (.iload_n 1, 1) := by decide +kernel
theorem d_CB_addRule_8 : decode m_CB_addRule.2.1 8 = .ok (.iload 4, 2) := by decide +kernel
theorem d_CB_addRule_10 : decode m_CB_addRule.2.1 10 = .ok (.invokevirtual 99, 3) := by decide +kernel
theorem d_CB_addRule_13 : decode m_CB_addRule.2.1 13 = .ok (.iload_n 3, 1) := by decide +kernel
theorem d_CB_addRule_14 : decode m_CB_addRule.2.1 14 = .ok (.ifCond .lt 24, 3) := by decide +kernel
theorem d_CB_addRule_17 : decode m_CB_addRule.2.1 17 = .ok (.iload_n 3, 1) := by decide +kernel
theorem d_CB_addRule_18 : decode m_CB_addRule.2.1 18 = .ok (.iconst 3, 1) := by decide +kernel
theorem d_CB_addRule_19 : decode m_CB_addRule.2.1 19 = .ok (.if_icmp .gt 19, 3) := by decide +kernel
theorem d_CB_addRule_22 : decode m_CB_addRule.2.1 22 = .ok (.iload 5, 2) := by decide +kernel
theorem d_CB_addRule_24 : decode m_CB_addRule.2.1 24 = .ok (.sipush (-9999), 3) := by decide +kernel
theorem d_CB_addRule_27 : decode m_CB_addRule.2.1 27 = .ok (.if_icmp .lt 11, 3) := by decide +kernel
theorem d_CB_addRule_30 : decode m_CB_addRule.2.1 30 = .ok (.iload 5, 2) := by decide +kernel
theorem d_CB_addRule_32 : decode m_CB_addRule.2.1 32 = .ok (.sipush 9999, 3) := by decide +kernel
theorem d_CB_addRule_35 : decode m_CB_addRule.2.1 35 = .ok (.if_icmp .le 11, 3) := by decide +kernel
theorem d_CB_addRule_38 : decode m_CB_addRule.2.1 38 = .ok (.new 111, 3) := by decide +kernel
theorem d_CB_addRule_41 : decode m_CB_addRule.2.1 41 = .ok (.dup, 1) := by decide +kernel
theorem d_CB_addRule_42 : decode m_CB_addRule.2.1 42 = .ok (.invokespecial 113, 3) := by decide +kernel
theorem d_CB_addRule_45 : decode m_CB_addRule.2.1 45 = .ok (.athrow, 1) := by decide +kernel
theorem d_CB_addRule_46 : decode m_CB_addRule.2.1 46 = .ok (.aload_n 0, 1) := by decide +kernel
theorem d_CB_addRule_47 : decode m_CB_addRule.2.1 47 = .ok (.iload_n 1, 1) := by decide +kernel
theorem d_CB_addRule_48 : decode m_CB_addRule.2.1 48 = .ok (.iload_n 2, 1) := by decide +kernel
theorem d_CB_addRule_49 : decode m_CB_addRule.2.1 49 = .ok (.invokevirtual 147, 3) := by decide +kernel
theorem d_CB_addRule_52 : decode m_CB_addRule.2.1 52 = .ok (.aload_n 0, 1) := by decide +kernel
theorem d_CB_addRule_53 : decode m_CB_addRule.2.1 53 = .ok (.iload_n 1, 1) := by decide +kernel
theorem d_CB_addRule_54 : decode m_CB_addRule.2.1 54 = .ok (.iload 4, 2) := by decide +kernel
theorem d_CB_addRule_56 : decode m_CB_addRule.2.1 56 = .ok (.invokevirtual 147, 3) := by decide +kernel
theorem d_CB_addRule_59 : decode m_CB_addRule.2.1 59 = .ok (.aload_n 0, 1) := by decide +kernel
theorem d_CB_addRule_60 : decode m_CB_addRule.2.1 60 = .ok (.getfield 12, 3) := by decide +kernel
theorem d_CB_addRule_63 : decode m_CB_addRule.2.1 63 = .ok (.getfield 168, 3) := by decide +kernel
theorem d_CB_addRule_66 : decode m_CB_addRule.2.1 66 = .ok (.bipush 8, 2) := by decide +kernel
theorem d_CB_addRule_68 : decode m_CB_addRule.2.1 68 = .ok (.if_icmp .lt 11, 3) := by decide +kernel
theorem d_CB_addRule_71 : decode m_CB_addRule.2.1 71 = .ok (.new 64, 3) := by decide +kernel
theorem d_CB_addRule_74 : decode m_CB_addRule.2.1 74 = .ok (.dup, 1) := by decide +kernel
theorem d_CB_addRule_75 : decode m_CB_addRule.2.1 75 = .ok (.invokespecial 66, 3) := by decide +kernel
theorem d_CB_addRule_78 : decode m_CB_addRule.2.1 78 = .ok (.athrow, 1) := by decide +kernel
theorem d_CB_addRule_79 : decode m_CB_addRule.2.1 79 = .ok (.aload_n 0, 1) := by decide +kernel
theorem d_CB_addRule_80 : decode m_CB_addRule.2.1 80 = .ok (.getfield 12, 3) := by decide +kernel
theorem d_CB_addRule_83 : decode m_CB_addRule.2.1 83 = .ok (.iload_n 1, 1) := by decide +kernel
theorem d_CB_addRule_84 : decode m_CB_addRule.2.1 84 = .ok (.iload_n 2, 1) := by decide +kernel
theorem d_CB_addRule_85 : decode m_CB_addRule.2.1 85 = .ok (.iload_n 3, 1) := by decide +kernel
theorem d_CB_addRule_86 : decode m_CB_addRule.2.1 86 = .ok (.iload 4, 2) := by decide +kernel
theorem d_CB_addRule_88 : decode m_CB_addRule.2.1 88 = .ok (.iload 5, 2) := by decide +kernel
theorem d_CB_addRule_90 : decode m_CB_addRule.2.1 90 = .ok (.invokevirtual 171, 3) := by decide +kernel
theorem d_CB_addRule_93 : decode m_CB_addRule.2.1 93 = .ok (.istore 6, 2) := by decide +kernel
theorem d_CB_addRule_95 : decode m_CB_addRule.2.1 95 = .ok (.aload_n 0, 1) := by decide +kernel
theorem d_CB_addRule_96 : decode m_CB_addRule.2.1 96 = .ok (.iload 6, 2) := by decide +kernel
theorem d_CB_addRule_98 : decode m_CB_addRule.2.1 98 = .ok (.ifCond .lt 7, 3) := by decide +kernel
theorem d_CB_addRule_101 : decode m_CB_addRule.2.1 101 = .ok (.iconst 1, 1) := by decide +kernel
theorem d_CB_addRule_102 : decode m_CB_addRule.2.1 102 = .ok (.goto 4, 3) := by decide +kernel
theorem d_CB_addRule_105 : decode m_CB_addRule.2.1 105 = .ok (.iconst 0, 1) := by decide +kernel
theorem d_CB_addRule_106 : decode m_CB_addRule.2.1 106 = .ok (.invokevirtual 118, 3) := by decide +kernel
theorem d_CB_addRule_109 : decode m_CB_addRule.2.1 109 = .ok (.pop, 1) := by decide +kernel
theorem d_CB_addRule_110 : decode m_CB_addRule.2.1 110 = .ok (.iload 6, 2) := by decide +kernel
theorem d_CB_addRule_112 : decode m_CB_addRule.2.1 112 = .ok (.ireturn, 1) := by decide +kernel
theorem d_CB_order_0 : decode m_CB_order.2.1 0 = .ok (.iload_n 1, 1) := by decide +kernel
theorem d_CB_order_1 : decode m_CB_order.2.1 1 = .ok (.ifCond .lt 26, 3) := by decide +kernel
theorem d_CB_order_4 : decode m_CB_order.2.1 4 = .ok (.iload_n 1, 1) := by decide +kernel
theorem d_CB_order_5 : decode m_CB_order.2.1 5 = .ok (.aload_n 0, 1) := by decide +kernel
theorem d_CB_order_6 : decode m_CB_order.2.1 6 = .ok (.getfield 12, 3) := by decide +kernel
theorem d_CB_order_9 : decode m_CB_order.2.1 9 = .ok (.getfield 191, 3) := by decide +kernel
theorem d_CB_order_12 : decode m_CB_order.2.1 12 = .ok (.if_icmp .ge 15, 3) := by decide +kernel
theorem d_CB_order_15 : decode m_CB_order.2.1 15 = .ok (.iload_n 1, 1) := by decide +kernel
theorem d_CB_order_16 : decode m_CB_order.2.1 16 = .ok (.aload_n 0, 1) := by decide +kernel
theorem d_CB_order_17 : decode m_CB_order.2.1 17 = .ok (.getfield 12, 3) := by decide +kernel
theorem d_CB_order_20 : decode m_CB_order.2.1 20 = .ok (.getfield 194, 3) := by decide +kernel
theorem d_CB_order_23 : decode m_CB_order.2.1 23 = .ok (.arraylength, 1) := by decide +kernel
theorem d_CB_order_24 : decode m_CB_order.2.1 24 = .ok (.if_icmp .lt 11, 3) := by decide +kernel
theorem d_CB_order_27 : decode m_CB_order.2.1 27 = .ok (.new 178, 3) := by decide +kernel
theorem d_CB_order_30 : decode m_CB_order.2.1 30 = .ok (.dup, 1) := by decide +kernel
theorem d_CB_order_31 : decode m_CB_order.2.1 31 = .ok (.invokespecial 180, 3) := by decide +kernel
theorem d_CB_order_34 : decode m_CB_order.2.1 34 = .ok (.athrow, 1) := by decide +kernel
theorem d_CB_order_35 : decode m_CB_order.2.1 35 = .ok (.aload_n 0, 1) := by decide +kernel
theorem d_CB_order_36 : decode m_CB_order.2.1 36 = .ok (.getfield 12, 3) := by decide +kernel
theorem d_CB_order_39 : decode m_CB_order.2.1 39 = .ok (.getfield 194, 3) := by decide +kernel
theorem d_CB_order_42 : decode m_CB_order.2.1 42 = .ok (.iload_n 1, 1) := by decide +kernel
theorem d_CB_order_43 : decode m_CB_order.2.1 43 = .ok (.iaload, 1) := by decide +kernel
theorem d_CB_order_44 : decode m_CB_order.2.1 44 = .ok (.ireturn, 1) := by decide +kernel
theorem d_CB_reason_0 : decode m_CB_reason.2.1 0 = .ok (.aload_n 0, 1) := by decide +kernel
theorem d_CB_reason_1 : decode m_CB_reason.2.1 1 = .ok (.getfield 28, 3) := by decide +kernel
theorem d_CB_reason_4 : decode m_CB_reason.2.1 4 = .ok (.getfield 197, 3) := by decide +kernel
theorem d_CB_reason_7 : decode m_CB_reason.2.1 7 = .ok (.ireturn, 1) := by decide +kernel
theorem d_CB_whereTable_0 : decode m_CB_whereTable.2.1 0 = .ok (.aload_n 0, 1) := by decide +kernel
theorem d_CB_whereTable_1 : decode m_CB_whereTable.2.1 1 = .ok (.getfield 28, 3) := by decide +kernel
theorem d_CB_whereTable_4 : decode m_CB_whereTable.2.1 4 = .ok (.getfield 198, 3) := by decide +kernel
theorem d_CB_whereTable_7 : decode m_CB_whereTable.2.1 7 = .ok (.ireturn, 1) := by decide +kernel
theorem d_CB_whereRow_0 : decode m_CB_whereRow.2.1 0 = .ok (.aload_n 0, 1) := by decide +kernel
theorem d_CB_whereRow_1 : decode m_CB_whereRow.2.1 1 = .ok (.getfield 28, 3) := by decide +kernel
theorem d_CB_whereRow_4 : decode m_CB_whereRow.2.1 4 = .ok (.getfield 201, 3) := by decide +kernel
theorem d_CB_whereRow_7 : decode m_CB_whereRow.2.1 7 = .ok (.ireturn, 1) := by decide +kernel
theorem d_CB_whereColumn_0 : decode m_CB_whereColumn.2.1 0 = .ok (.aload_n 0, 1) := by decide +kernel
theorem d_CB_whereColumn_1 : decode m_CB_whereColumn.2.1 1 = .ok (.getfield 28, 3) := by decide +kernel
theorem d_CB_whereColumn_4 : decode m_CB_whereColumn.2.1 4 = .ok (.getfield 204, 3) := by decide +kernel
theorem d_CB_whereColumn_7 : decode m_CB_whereColumn.2.1 7 = .ok (.ireturn, 1) := by decide +kernel
theorem d_CB_broken_0 : decode m_CB_broken.2.1 0 = .ok (.aload_n 0, 1) := by decide +kernel
theorem d_CB_broken_1 : decode m_CB_broken.2.1 1 = .ok (.getfield 12, 3) := by decide +kernel
theorem d_CB_broken_4 : decode m_CB_broken.2.1 4 = .ok (.iconst 1, 1) := by decide +kernel
theorem d_CB_broken_5 : decode m_CB_broken.2.1 5 = .ok (.invokevirtual 206, 3) := by decide +kernel
theorem d_CB_broken_8 : decode m_CB_broken.2.1 8 = .ok (.ireturn, 1) := by decide +kernel
theorem d_CB_type_0 : decode m_CB_type.2.1 0 = .ok (.iload_n 1, 1) := by decide +kernel
theorem d_CB_type_1 : decode m_CB_type.2.1 1 = .ok (.ifCond .lt 12, 3) := by decide +kernel
theorem d_CB_type_4 : decode m_CB_type.2.1 4 = .ok (.iload_n 1, 1) := by decide +kernel
theorem d_CB_type_5 : decode m_CB_type.2.1 5 = .ok (.aload_n 0, 1) := by decide +kernel
theorem d_CB_type_6 : decode m_CB_type.2.1 6 = .ok (.getfield 32, 3) := by decide +kernel
theorem d_CB_type_9 : decode m_CB_type.2.1 9 = .ok (.arraylength, 1) := by decide +kernel
theorem d_CB_type_10 : decode m_CB_type.2.1 10 = .ok (.if_icmp .lt 11, 3) := by decide +kernel
theorem d_CB_type_13 : decode m_CB_type.2.1 13 = .ok (.new 111, 3) := by decide +kernel
theorem d_CB_type_16 : decode m_CB_type.2.1 16 = .ok (.dup, 1) := by decide +kernel
theorem d_CB_type_17 : decode m_CB_type.2.1 17 = .ok (.invokespecial 113, 3) := by decide +kernel
theorem d_CB_type_20 : decode m_CB_type.2.1 20 = .ok (.athrow, 1) := by decide +kernel
theorem d_CB_type_21 : decode m_CB_type.2.1 21 = .ok (.aload_n 0, 1) := by decide +kernel
theorem d_CB_type_22 : decode m_CB_type.2.1 22 = .ok (.iload_n 2, 1) := by decide +kernel
theorem d_CB_type_23 : decode m_CB_type.2.1 23 = .ok (.invokevirtual 210, 3) := by decide +kernel
theorem d_CB_type_26 : decode m_CB_type.2.1 26 = .ok (.aload_n 0, 1) := by decide +kernel
theorem d_CB_type_27 : decode m_CB_type.2.1 27 = .ok (.getfield 32, 3) := by decide +kernel
theorem d_CB_type_30 : decode m_CB_type.2.1 30 = .ok (.iload_n 1, 1) := by decide +kernel
theorem d_CB_type_31 : decode m_CB_type.2.1 31 = .ok (.iaload, 1) := by decide +kernel
theorem d_CB_type_32 : decode m_CB_type.2.1 32 = .ok (.istore_n 3, 1) := by decide +kernel
theorem d_CB_type_33 : decode m_CB_type.2.1 33 = .ok (.aload_n 0, 1) := by decide +kernel
theorem d_CB_type_34 : decode m_CB_type.2.1 34 = .ok (.getfield 32, 3) := by decide +kernel
theorem d_CB_type_37 : decode m_CB_type.2.1 37 = .ok (.iload_n 1, 1) := by decide +kernel
theorem d_CB_type_38 : decode m_CB_type.2.1 38 = .ok (.iload_n 2, 1) := by decide +kernel
theorem d_CB_type_39 : decode m_CB_type.2.1 39 = .ok (.iastore, 1) := by decide +kernel
theorem d_CB_type_40 : decode m_CB_type.2.1 40 = .ok (.iload_n 3, 1) := by decide +kernel
theorem d_CB_type_41 : decode m_CB_type.2.1 41 = .ok (.ireturn, 1) := by decide +kernel
theorem d_CB_enter_0 : decode m_CB_enter.2.1 0 = .ok (.aload_n 0, 1) := by decide +kernel
theorem d_CB_enter_1 : decode m_CB_enter.2.1 1 = .ok (.iload_n 1, 1) := by decide +kernel
theorem d_CB_enter_2 : decode m_CB_enter.2.1 2 = .ok (.invokevirtual 70, 3) := by decide +kernel
theorem d_CB_enter_5 : decode m_CB_enter.2.1 5 = .ok (.aload_n 0, 1) := by decide +kernel
theorem d_CB_enter_6 : decode m_CB_enter.2.1 6 = .ok (.getfield 12, 3) := by decide +kernel
theorem d_CB_enter_9 : decode m_CB_enter.2.1 9 = .ok (.getfield 213, 3) := by decide +kernel
theorem d_CB_enter_12 : decode m_CB_enter.2.1 12 = .ok (.iload_n 1, 1) := by decide +kernel
theorem d_CB_enter_13 : decode m_CB_enter.2.1 13 = .ok (.invokevirtual 217, 3) := by decide +kernel
theorem d_CB_enter_16 : decode m_CB_enter.2.1 16 = .ok (.ifCond .eq 11, 3) := by decide +kernel
theorem d_CB_enter_19 : decode m_CB_enter.2.1 19 = .ok (.new 64, 3) := by decide +kernel
theorem d_CB_enter_22 : decode m_CB_enter.2.1 22 = .ok (.dup, 1) := by decide +kernel
theorem d_CB_enter_23 : decode m_CB_enter.2.1 23 = .ok (.invokespecial 66, 3) := by decide +kernel
theorem d_CB_enter_26 : decode m_CB_enter.2.1 26 = .ok (.athrow, 1) := by decide +kernel
theorem d_CB_enter_27 : decode m_CB_enter.2.1 27 = .ok (.aload_n 0, 1) := by decide +kernel
theorem d_CB_enter_28 : decode m_CB_enter.2.1 28 = .ok (.aload_n 0, 1) := by decide +kernel
theorem d_CB_enter_29 : decode m_CB_enter.2.1 29 = .ok (.getfield 12, 3) := by decide +kernel
theorem d_CB_enter_32 : decode m_CB_enter.2.1 32 = .ok (.iload_n 1, 1) := by decide +kernel
theorem d_CB_enter_33 : decode m_CB_enter.2.1 33 = .ok (.aload_n 0, 1) := by decide +kernel
theorem d_CB_enter_34 : decode m_CB_enter.2.1 34 = .ok (.getfield 32, 3) := by decide +kernel
theorem d_CB_enter_37 : decode m_CB_enter.2.1 37 = .ok (.iconst (-1), 1) := by decide +kernel
theorem d_CB_enter_38 : decode m_CB_enter.2.1 38 = .ok (.ldc 36, 2) := by decide +kernel
theorem d_CB_enter_40 : decode m_CB_enter.2.1 40 = .ok (.invokevirtual 220, 3) := by decide +kernel
theorem d_CB_enter_43 : decode m_CB_enter.2.1 43 = .ok (.invokevirtual 224, 3) := by decide +kernel
theorem d_CB_enter_46 : decode m_CB_enter.2.1 46 = .ok (.ireturn, 1) := by decide +kernel
theorem d_CB_put_0 : decode m_CB_put.2.1 0 = .ok (.aload_n 0, 1) := by decide +kernel
theorem d_CB_put_1 : decode m_CB_put.2.1 1 = .ok (.iload_n 1, 1) := by decide +kernel
theorem d_CB_put_2 : decode m_CB_put.2.1 2 = .ok (.iload_n 2, 1) := by decide +kernel
theorem d_CB_put_3 : decode m_CB_put.2.1 3 = .ok (.invokevirtual 228, 3) := by decide +kernel
theorem d_CB_put_6 : decode m_CB_put.2.1 6 = .ok (.aload_n 0, 1) := by decide +kernel
theorem d_CB_put_7 : decode m_CB_put.2.1 7 = .ok (.iload_n 1, 1) := by decide +kernel
theorem d_CB_put_8 : decode m_CB_put.2.1 8 = .ok (.iload_n 3, 1) := by decide +kernel
theorem d_CB_put_9 : decode m_CB_put.2.1 9 = .ok (.invokevirtual 99, 3) := by decide +kernel
theorem d_CB_put_12 : decode m_CB_put.2.1 12 = .ok (.aload_n 0, 1) := by decide +kernel
theorem d_CB_put_13 : decode m_CB_put.2.1 13 = .ok (.iload_n 1, 1) := by decide +kernel
theorem d_CB_put_14 : decode m_CB_put.2.1 14 = .ok (.iload_n 3, 1) := by decide +kernel
theorem d_CB_put_15 : decode m_CB_put.2.1 15 = .ok (.invokevirtual 122, 3) := by decide +kernel
theorem d_CB_put_18 : decode m_CB_put.2.1 18 = .ok (.aload_n 0, 1) := by decide +kernel
theorem d_CB_put_19 : decode m_CB_put.2.1 19 = .ok (.iload 4, 2) := by decide +kernel
theorem d_CB_put_21 : decode m_CB_put.2.1 21 = .ok (.invokevirtual 210, 3) := by decide +kernel
theorem d_CB_put_24 : decode m_CB_put.2.1 24 = .ok (.aload_n 0, 1) := by decide +kernel
theorem d_CB_put_25 : decode m_CB_put.2.1 25 = .ok (.aload_n 0, 1) := by decide +kernel
theorem d_CB_put_26 : decode m_CB_put.2.1 26 = .ok (.getfield 12, 3) := by decide +kernel
theorem d_CB_put_29 : decode m_CB_put.2.1 29 = .ok (.bipush 10, 2) := by decide +kernel
theorem d_CB_put_31 : decode m_CB_put.2.1 31 = .ok (.iload_n 1, 1) := by decide +kernel
theorem d_CB_put_32 : decode m_CB_put.2.1 32 = .ok (.imul, 1) := by decide +kernel
theorem d_CB_put_33 : decode m_CB_put.2.1 33 = .ok (.iload_n 3, 1) := by decide +kernel
theorem d_CB_put_34 : decode m_CB_put.2.1 34 = .ok (.iadd, 1) := by decide +kernel
theorem d_CB_put_35 : decode m_CB_put.2.1 35 = .ok (.iload_n 2, 1) := by decide +kernel
theorem d_CB_put_36 : decode m_CB_put.2.1 36 = .ok (.iload 4, 2) := by decide +kernel
theorem d_CB_put_38 : decode m_CB_put.2.1 38 = .ok (.invokevirtual 231, 3) := by decide +kernel
theorem d_CB_put_41 : decode m_CB_put.2.1 41 = .ok (.invokevirtual 118, 3) := by decide +kernel
theorem d_CB_put_44 : decode m_CB_put.2.1 44 = .ok (.ireturn, 1) := by decide +kernel
theorem d_CB_remove_0 : decode m_CB_remove.2.1 0 = .ok (.aload_n 0, 1) := by decide +kernel
theorem d_CB_remove_1 : decode m_CB_remove.2.1 1 = .ok (.iload_n 1, 1) := by decide +kernel
theorem d_CB_remove_2 : decode m_CB_remove.2.1 2 = .ok (.iload_n 2, 1) := by decide +kernel
theorem d_CB_remove_3 : decode m_CB_remove.2.1 3 = .ok (.invokevirtual 228, 3) := by decide +kernel
theorem d_CB_remove_6 : decode m_CB_remove.2.1 6 = .ok (.aload_n 0, 1) := by decide +kernel
theorem d_CB_remove_7 : decode m_CB_remove.2.1 7 = .ok (.aload_n 0, 1) := by decide +kernel
theorem d_CB_remove_8 : decode m_CB_remove.2.1 8 = .ok (.getfield 12, 3) := by decide +kernel
theorem d_CB_remove_11 : decode m_CB_remove.2.1 11 = .ok (.iload_n 1, 1) := by decide +kernel
theorem d_CB_remove_12 : decode m_CB_remove.2.1 12 = .ok (.iload_n 2, 1) := by decide +kernel
theorem d_CB_remove_13 : decode m_CB_remove.2.1 13 = .ok (.invokevirtual 234, 3) := by decide +kernel
theorem d_CB_remove_16 : decode m_CB_remove.2.1 16 = .ok (.invokevirtual 118, 3) := by decide +kernel
theorem d_CB_remove_19 : decode m_CB_remove.2.1 19 = .ok (.ireturn, 1) := by decide +kernel
theorem d_CB_openForm_0 : decode m_CB_openForm.2.1 0 = .ok (.aload_n 0, 1) := by decide +kernel
theorem d_CB_openForm_1 : decode m_CB_openForm.2.1 1 = .ok (.iload_n 1, 1) := by decide +kernel
theorem d_CB_openForm_2 : decode m_CB_openForm.2.1 2 = .ok (.iload_n 2, 1) := by decide +kernel
theorem d_CB_openForm_3 : decode m_CB_openForm.2.1 3 = .ok (.invokevirtual 228, 3) := by decide +kernel
theorem d_CB_openForm_6 : decode m_CB_openForm.2.1 6 = .ok (.aload_n 0, 1) := by decide +kernel
theorem d_CB_openForm_7 : decode m_CB_openForm.2.1 7 = .ok (.iload_n 1, 1) := by decide +kernel
theorem d_CB_openForm_8 : decode m_CB_openForm.2.1 8 = .ok (.putfield 57, 3) := by decide +kernel
theorem d_CB_openForm_11 : decode m_CB_openForm.2.1 11 = .ok (.aload_n 0, 1) := by decide +kernel
theorem d_CB_openForm_12 : decode m_CB_openForm.2.1 12 = .ok (.iload_n 2, 1) := by decide +kernel
theorem d_CB_openForm_13 : decode m_CB_openForm.2.1 13 = .ok (.putfield 237, 3) := by decide +kernel
theorem d_CB_openForm_16 : decode m_CB_openForm.2.1 16 = .ok (.aload_n 0, 1) := by decide +kernel
theorem d_CB_openForm_17 : decode m_CB_openForm.2.1 17 = .ok (.aload_n 0, 1) := by decide +kernel
theorem d_CB_openForm_18 : decode m_CB_openForm.2.1 18 = .ok (.getfield 12, 3) := by decide +kernel
theorem d_CB_openForm_21 : decode m_CB_openForm.2.1 21 = .ok (.getfield 213, 3) := by decide +kernel
theorem d_CB_openForm_24 : decode m_CB_openForm.2.1 24 = .ok (.iload_n 1, 1) := by decide +kernel
theorem d_CB_openForm_25 : decode m_CB_openForm.2.1 25 = .ok (.iload_n 2, 1) := by decide +kernel
theorem d_CB_openForm_26 : decode m_CB_openForm.2.1 26 = .ok (.invokevirtual 240, 3) := by decide +kernel
theorem d_CB_openForm_29 : decode m_CB_openForm.2.1 29 = .ok (.putfield 243, 3) := by decide +kernel
theorem d_CB_openForm_32 : decode m_CB_openForm.2.1 32 = .ok (.return_, 1) := by decide +kernel
theorem d_CB_enterInside_0 : decode m_CB_enterInside.2.1 0 = .ok (.aload_n 0, 1) := by decide +kernel
theorem d_CB_enterInside_1 : decode m_CB_enterInside.2.1 1 = .ok (.iload_n 1, 1) := by decide +kernel
theorem d_CB_enterInside_2 : decode m_CB_enterInside.2.1 2 = .ok (.iload_n 2, 1) := by decide +kernel
theorem d_CB_enterInside_3 : decode m_CB_enterInside.2.1 3 = .ok (.invokevirtual 99, 3) := by decide +kernel
theorem d_CB_enterInside_6 : decode m_CB_enterInside.2.1 6 = .ok (.aload_n 0, 1) := by decide +kernel
theorem d_CB_enterInside_7 : decode m_CB_enterInside.2.1 7 = .ok (.invokevirtual 246, 3) := by decide +kernel
theorem d_CB_enterInside_10 : decode m_CB_enterInside.2.1 10 = .ok (.ifCond .eq 17, 3) := by decide +kernel
theorem d_CB_enterInside_13 : decode m_CB_enterInside.2.1 13 = .ok (.aload_n 0, 1) := by decide +kernel
theorem d_CB_enterInside_14 : decode m_CB_enterInside.2.1 14 = .ok (.getfield 12, 3) := by decide +kernel
theorem d_CB_enterInside_17 : decode m_CB_enterInside.2.1 17 = .ok (.getfield 213, 3) := by decide +kernel
theorem d_CB_enterInside_20 : decode m_CB_enterInside.2.1 20 = .ok (.iload_n 1, 1) := by decide +kernel
theorem d_CB_enterInside_21 : decode m_CB_enterInside.2.1 21 = .ok (.invokevirtual 217, 3) := by decide +kernel
theorem d_CB_enterInside_24 : decode m_CB_enterInside.2.1 24 = .ok (.ifCond .eq 11, 3) := by decide +kernel
theorem d_CB_enterInside_27 : decode m_CB_enterInside.2.1 27 = .ok (.new 64, 3) := by decide +kernel
theorem d_CB_enterInside_30 : decode m_CB_enterInside.2.1 30 = .ok (.dup, 1) := by decide +kernel
theorem d_CB_enterInside_31 : decode m_CB_enterInside.2.1 31 = .ok (.invokespecial 66, 3) := by decide +kernel
theorem d_CB_enterInside_34 : decode m_CB_enterInside.2.1 34 = .ok (.athrow, 1) := by decide +kernel
theorem d_CB_enterInside_35 : decode m_CB_enterInside.2.1 35 = .ok (.aload_n 0, 1) := by decide +kernel
theorem d_CB_enterInside_36 : decode m_CB_enterInside.2.1 36 = .ok (.iload_n 1, 1) := by decide +kernel
theorem d_CB_enterInside_37 : decode m_CB_enterInside.2.1 37 = .ok (.iload_n 2, 1) := by decide +kernel
theorem d_CB_enterInside_38 : decode m_CB_enterInside.2.1 38 = .ok (.aload_n 0, 1) := by decide +kernel
theorem d_CB_enterInside_39 : decode m_CB_enterInside.2.1 39 = .ok (.getfield 57, 3) := by decide +kernel
theorem d_CB_enterInside_42 : decode m_CB_enterInside.2.1 42 = .ok (.invokevirtual 250, 3) := by decide +kernel
theorem d_CB_enterInside_45 : decode m_CB_enterInside.2.1 45 = .ok (.aload_n 0, 1) := by decide +kernel
theorem d_CB_enterInside_46 : decode m_CB_enterInside.2.1 46 = .ok (.aload_n 0, 1) := by decide +kernel
theorem d_CB_enterInside_47 : decode m_CB_enterInside.2.1 47 = .ok (.getfield 12, 3) := by decide +kernel
theorem d_CB_enterInside_50 : decode m_CB_enterInside.2.1 50 = .ok (.iload_n 1, 1) := by decide +kernel
theorem d_CB_enterInside_51 : decode m_CB_enterInside.2.1 51 = .ok (.aload_n 0, 1) := by decide +kernel
theorem d_CB_enterInside_52 : decode m_CB_enterInside.2.1 52 = .ok (.getfield 32, 3) := by decide +kernel
theorem d_CB_enterInside_55 : decode m_CB_enterInside.2.1 55 = .ok (.iload_n 2, 1) := by decide +kernel
theorem d_CB_enterInside_56 : decode m_CB_enterInside.2.1 56 = .ok (.aload_n 0, 1) := by decide +kernel
theorem d_CB_enterInside_57 : decode m_CB_enterInside.2.1 57 = .ok (.getfield 237, 3) := by decide +kernel
theorem d_CB_enterInside_60 : decode m_CB_enterInside.2.1 60 = .ok (.invokevirtual 220, 3) := by decide +kernel
theorem d_CB_enterInside_63 : decode m_CB_enterInside.2.1 63 = .ok (.invokevirtual 224, 3) := by decide +kernel
theorem d_CB_enterInside_66 : decode m_CB_enterInside.2.1 66 = .ok (.ireturn, 1) := by decide +kernel
theorem d_CB_choice_0 : decode m_CB_choice.2.1 0 = .ok (.aload_n 0, 1) := by decide +kernel
theorem d_CB_choice_1 : decode m_CB_choice.2.1 1 = .ok (.iload_n 1, 1) := by decide +kernel
theorem d_CB_choice_2 : decode m_CB_choice.2.1 2 = .ok (.iload_n 2, 1) := by decide +kernel
theorem d_CB_choice_3 : decode m_CB_choice.2.1 3 = .ok (.invokevirtual 228, 3) := by decide +kernel
theorem d_CB_choice_6 : decode m_CB_choice.2.1 6 = .ok (.aload_n 0, 1) := by decide +kernel
theorem d_CB_choice_7 : decode m_CB_choice.2.1 7 = .ok (.iload_n 1, 1) := by decide +kernel
theorem d_CB_choice_8 : decode m_CB_choice.2.1 8 = .ok (.iload_n 3, 1) := by decide +kernel
theorem d_CB_choice_9 : decode m_CB_choice.2.1 9 = .ok (.invokevirtual 99, 3) := by decide +kernel
theorem d_CB_choice_12 : decode m_CB_choice.2.1 12 = .ok (.aload_n 0, 1) := by decide +kernel
theorem d_CB_choice_13 : decode m_CB_choice.2.1 13 = .ok (.iload_n 1, 1) := by decide +kernel
theorem d_CB_choice_14 : decode m_CB_choice.2.1 14 = .ok (.iload_n 3, 1) := by decide +kernel
theorem d_CB_choice_15 : decode m_CB_choice.2.1 15 = .ok (.invokevirtual 162, 3) := by decide +kernel
theorem d_CB_choice_18 : decode m_CB_choice.2.1 18 = .ok (.iload 4, 2) := by decide +kernel
theorem d_CB_choice_20 : decode m_CB_choice.2.1 20 = .ok (.ifCond .ge 11, 3) := by decide +kernel
theorem d_CB_choice_23 : decode m_CB_choice.2.1 23 = .ok (.new 111, 3) := by decide +kernel
theorem d_CB_choice_26 : decode m_CB_choice.2.1 26 = .ok (.dup, 1) := by decide +kernel
theorem d_CB_choice_27 : decode m_CB_choice.2.1 27 = .ok (.invokespecial 113, 3) := by decide +kernel
theorem d_CB_choice_30 : decode m_CB_choice.2.1 30 = .ok (.athrow, 1) := by decide +kernel
theorem d_CB_choice_31 : decode m_CB_choice.2.1 31 = .ok (.aload_n 0, 1) := by decide +kernel
theorem d_CB_choice_32 : decode m_CB_choice.2.1 32 = .ok (.getfield 12, 3) := by decide +kernel
theorem d_CB_choice_35 : decode m_CB_choice.2.1 35 = .ok (.iload_n 1, 1) := by decide +kernel
theorem d_CB_choice_36 : decode m_CB_choice.2.1 36 = .ok (.iload_n 3, 1) := by decide +kernel
theorem d_CB_choice_37 : decode m_CB_choice.2.1 37 = .ok (.invokevirtual 102, 3) := by decide +kernel
theorem d_CB_choice_40 : decode m_CB_choice.2.1 40 = .ok (.getfield 254, 3) := by decide +kernel
theorem d_CB_choice_43 : decode m_CB_choice.2.1 43 = .ok (.istore 5, 2) := by decide +kernel
theorem d_CB_choice_45 : decode m_CB_choice.2.1 45 = .ok (.iload 4, 2) := by decide +kernel
theorem d_CB_choice_47 : decode m_CB_choice.2.1 47 = .ok (.istore 6, 2) := by decide +kernel
theorem d_CB_choice_49 : decode m_CB_choice.2.1 49 = .ok (.iload 6, 2) := by decide +kernel
theorem d_CB_choice_51 : decode m_CB_choice.2.1 51 = .ok (.bipush 30, 2) := by decide +kernel
theorem d_CB_choice_53 : decode m_CB_choice.2.1 53 = .ok (.if_icmp .ge 48, 3) := by decide +kernel
theorem d_CB_choice_56 : decode m_CB_choice.2.1 56 = .ok (.aload_n 0, 1) := by decide +kernel
theorem d_CB_choice_57 : decode m_CB_choice.2.1 57 = .ok (.getfield 12, 3) := by decide +kernel
theorem d_CB_choice_60 : decode m_CB_choice.2.1 60 = .ok (.getfield 213, 3) := by decide +kernel
theorem d_CB_choice_63 : decode m_CB_choice.2.1 63 = .ok (.iload 5, 2) := by decide +kernel
theorem d_CB_choice_65 : decode m_CB_choice.2.1 65 = .ok (.iload 6, 2) := by decide +kernel
theorem d_CB_choice_67 : decode m_CB_choice.2.1 67 = .ok (.invokevirtual 257, 3) := by decide +kernel
theorem d_CB_choice_70 : decode m_CB_choice.2.1 70 = .ok (.ifCond .eq 25, 3) := by decide +kernel
theorem d_CB_choice_73 : decode m_CB_choice.2.1 73 = .ok (.aload_n 0, 1) := by decide +kernel
theorem d_CB_choice_74 : decode m_CB_choice.2.1 74 = .ok (.getfield 12, 3) := by decide +kernel
theorem d_CB_choice_77 : decode m_CB_choice.2.1 77 = .ok (.bipush 10, 2) := by decide +kernel
theorem d_CB_choice_79 : decode m_CB_choice.2.1 79 = .ok (.iload_n 1, 1) := by decide +kernel
theorem d_CB_choice_80 : decode m_CB_choice.2.1 80 = .ok (.imul, 1) := by decide +kernel
theorem d_CB_choice_81 : decode m_CB_choice.2.1 81 = .ok (.iload_n 3, 1) := by decide +kernel
theorem d_CB_choice_82 : decode m_CB_choice.2.1 82 = .ok (.iadd, 1) := by decide +kernel
theorem d_CB_choice_83 : decode m_CB_choice.2.1 83 = .ok (.iload_n 2, 1) := by decide +kernel
theorem d_CB_choice_84 : decode m_CB_choice.2.1 84 = .ok (.iload 6, 2) := by decide +kernel
theorem d_CB_choice_86 : decode m_CB_choice.2.1 86 = .ok (.invokevirtual 260, 3) := by decide +kernel
theorem d_CB_choice_89 : decode m_CB_choice.2.1 89 = .ok (.ifCond .eq 6, 3) := by decide +kernel
theorem d_CB_choice_92 : decode m_CB_choice.2.1 92 = .ok (.iload 6, 2) := by decide +kernel
theorem d_CB_choice_94 : decode m_CB_choice.2.1 94 = .ok (.ireturn, 1) := by decide +kernel
theorem d_CB_choice_95 : decode m_CB_choice.2.1 95 = .ok (.iinc 6 1, 3) := by decide +kernel
theorem d_CB_choice_98 : decode m_CB_choice.2.1 98 = .ok (.goto (-49), 3) := by decide +kernel
theorem d_CB_choice_101 : decode m_CB_choice.2.1 101 = .ok (.iconst (-1), 1) := by decide +kernel
theorem d_CB_choice_102 : decode m_CB_choice.2.1 102 = .ok (.ireturn, 1) := by decide +kernel
theorem d_CB_cell_0 : decode m_CB_cell.2.1 0 = .ok (.aload_n 0, 1) := by decide +kernel
theorem d_CB_cell_1 : decode m_CB_cell.2.1 1 = .ok (.iload_n 1, 1) := by decide +kernel
theorem d_CB_cell_2 : decode m_CB_cell.2.1 2 = .ok (.iload_n 2, 1) := by decide +kernel
theorem d_CB_cell_3 : decode m_CB_cell.2.1 3 = .ok (.invokevirtual 228, 3) := by decide +kernel
theorem d_CB_cell_6 : decode m_CB_cell.2.1 6 = .ok (.aload_n 0, 1) := by decide +kernel
theorem d_CB_cell_7 : decode m_CB_cell.2.1 7 = .ok (.iload_n 1, 1) := by decide +kernel
theorem d_CB_cell_8 : decode m_CB_cell.2.1 8 = .ok (.iload_n 3, 1) := by decide +kernel
theorem d_CB_cell_9 : decode m_CB_cell.2.1 9 = .ok (.invokevirtual 99, 3) := by decide +kernel
theorem d_CB_cell_12 : decode m_CB_cell.2.1 12 = .ok (.aload_n 0, 1) := by decide +kernel
theorem d_CB_cell_13 : decode m_CB_cell.2.1 13 = .ok (.getfield 12, 3) := by decide +kernel
theorem d_CB_cell_16 : decode m_CB_cell.2.1 16 = .ok (.getfield 213, 3) := by decide +kernel
theorem d_CB_cell_19 : decode m_CB_cell.2.1 19 = .ok (.iload_n 1, 1) := by decide +kernel
theorem d_CB_cell_20 : decode m_CB_cell.2.1 20 = .ok (.iload_n 2, 1) := by decide +kernel
theorem d_CB_cell_21 : decode m_CB_cell.2.1 21 = .ok (.iload_n 3, 1) := by decide +kernel
theorem d_CB_cell_22 : decode m_CB_cell.2.1 22 = .ok (.invokevirtual 263, 3) := by decide +kernel
theorem d_CB_cell_25 : decode m_CB_cell.2.1 25 = .ok (.ireturn, 1) := by decide +kernel
theorem d_CB_isThere_0 : decode m_CB_isThere.2.1 0 = .ok (.aload_n 0, 1) := by decide +kernel
theorem d_CB_isThere_1 : decode m_CB_isThere.2.1 1 = .ok (.iload_n 1, 1) := by decide +kernel
theorem d_CB_isThere_2 : decode m_CB_isThere.2.1 2 = .ok (.invokevirtual 70, 3) := by decide +kernel
theorem d_CB_isThere_5 : decode m_CB_isThere.2.1 5 = .ok (.aload_n 0, 1) := by decide +kernel
theorem d_CB_isThere_6 : decode m_CB_isThere.2.1 6 = .ok (.getfield 12, 3) := by decide +kernel
theorem d_CB_isThere_9 : decode m_CB_isThere.2.1 9 = .ok (.getfield 213, 3) := by decide +kernel
theorem d_CB_isThere_12 : decode m_CB_isThere.2.1 12 = .ok (.iload_n 1, 1) := by decide +kernel
theorem d_CB_isThere_13 : decode m_CB_isThere.2.1 13 = .ok (.iload_n 2, 1) := by decide +kernel
theorem d_CB_isThere_14 : decode m_CB_isThere.2.1 14 = .ok (.invokevirtual 257, 3) := by decide +kernel
theorem d_CB_isThere_17 : decode m_CB_isThere.2.1 17 = .ok (.ireturn, 1) := by decide +kernel
theorem d_CB_rows_0 : decode m_CB_rows.2.1 0 = .ok (.aload_n 0, 1) := by decide +kernel
theorem d_CB_rows_1 : decode m_CB_rows.2.1 1 = .ok (.iload_n 1, 1) := by decide +kernel
theorem d_CB_rows_2 : decode m_CB_rows.2.1 2 = .ok (.invokevirtual 70, 3) := by decide +kernel
theorem d_CB_rows_5 : decode m_CB_rows.2.1 5 = .ok (.aload_n 0, 1) := by decide +kernel
theorem d_CB_rows_6 : decode m_CB_rows.2.1 6 = .ok (.getfield 12, 3) := by decide +kernel
theorem d_CB_rows_9 : decode m_CB_rows.2.1 9 = .ok (.getfield 213, 3) := by decide +kernel
theorem d_CB_rows_12 : decode m_CB_rows.2.1 12 = .ok (.iload_n 1, 1) := by decide +kernel
theorem d_CB_rows_13 : decode m_CB_rows.2.1 13 = .ok (.invokevirtual 266, 3) := by decide +kernel
theorem d_CB_rows_16 : decode m_CB_rows.2.1 16 = .ok (.ireturn, 1) := by decide +kernel
theorem d_CB_ask_0 : decode m_CB_ask.2.1 0 = .ok (.aload_n 0, 1) := by decide +kernel
theorem d_CB_ask_1 : decode m_CB_ask.2.1 1 = .ok (.iload_n 1, 1) := by decide +kernel
theorem d_CB_ask_2 : decode m_CB_ask.2.1 2 = .ok (.invokevirtual 269, 3) := by decide +kernel
theorem d_CB_ask_5 : decode m_CB_ask.2.1 5 = .ok (.iload_n 2, 1) := by decide +kernel
theorem d_CB_ask_6 : decode m_CB_ask.2.1 6 = .ok (.iconst (-1), 1) := by decide +kernel
theorem d_CB_ask_7 : decode m_CB_ask.2.1 7 = .ok (.if_icmp .eq 9, 3) := by decide +kernel
theorem d_CB_ask_10 : decode m_CB_ask.2.1 10 = .ok (.aload_n 0, 1) := by decide +kernel
theorem d_CB_ask_11 : decode m_CB_ask.2.1 11 = .ok (.iload_n 1, 1) := by decide +kernel
theorem d_CB_ask_12 : decode m_CB_ask.2.1 12 = .ok (.iload_n 2, 1) := by decide +kernel
theorem d_CB_ask_13 : decode m_CB_ask.2.1 13 = .ok (.invokevirtual 272, 3) := by decide +kernel
theorem d_CB_ask_16 : decode m_CB_ask.2.1 16 = .ok (.aload_n 0, 1) := by decide +kernel
theorem d_CB_ask_17 : decode m_CB_ask.2.1 17 = .ok (.iload_n 1, 1) := by decide +kernel
theorem d_CB_ask_18 : decode m_CB_ask.2.1 18 = .ok (.invokevirtual 275, 3) := by decide +kernel
theorem d_CB_ask_21 : decode m_CB_ask.2.1 21 = .ok (.iload_n 2, 1) := by decide +kernel
theorem d_CB_ask_22 : decode m_CB_ask.2.1 22 = .ok (.iconst (-1), 1) := by decide +kernel
theorem d_CB_ask_23 : decode m_CB_ask.2.1 23 = .ok (.if_icmp .eq 16, 3) := by decide +kernel
theorem d_CB_ask_26 : decode m_CB_ask.2.1 26 = .ok (.aload_n 0, 1) := by decide +kernel
theorem d_CB_ask_27 : decode m_CB_ask.2.1 27 = .ok (.aload_n 0, 1) := by decide +kernel
theorem d_CB_ask_28 : decode m_CB_ask.2.1 28 = .ok (.getfield 21, 3) := by decide +kernel
theorem d_CB_ask_31 : decode m_CB_ask.2.1 31 = .ok (.iload_n 1, 1) := by decide +kernel
theorem d_CB_ask_32 : decode m_CB_ask.2.1 32 = .ok (.iload_n 2, 1) := by decide +kernel
theorem d_CB_ask_33 : decode m_CB_ask.2.1 33 = .ok (.invokevirtual 278, 3) := by decide +kernel
theorem d_CB_ask_36 : decode m_CB_ask.2.1 36 = .ok (.invokevirtual 281, 3) := by decide +kernel
theorem d_CB_ask_39 : decode m_CB_ask.2.1 39 = .ok (.aload_n 0, 1) := by decide +kernel
theorem d_CB_ask_40 : decode m_CB_ask.2.1 40 = .ok (.invokevirtual 284, 3) := by decide +kernel
theorem d_CB_ask_43 : decode m_CB_ask.2.1 43 = .ok (.aload_n 0, 1) := by decide +kernel
theorem d_CB_ask_44 : decode m_CB_ask.2.1 44 = .ok (.getfield 21, 3) := by decide +kernel
theorem d_CB_ask_47 : decode m_CB_ask.2.1 47 = .ok (.iload_n 1, 1) := by decide +kernel
theorem d_CB_ask_48 : decode m_CB_ask.2.1 48 = .ok (.iload_n 2, 1) := by decide +kernel
theorem d_CB_ask_49 : decode m_CB_ask.2.1 49 = .ok (.invokevirtual 287, 3) := by decide +kernel
theorem d_CB_ask_52 : decode m_CB_ask.2.1 52 = .ok (.ireturn, 1) := by decide +kernel
theorem d_CB_condition_0 : decode m_CB_condition.2.1 0 = .ok (.aload_n 0, 1) := by decide +kernel
theorem d_CB_condition_1 : decode m_CB_condition.2.1 1 = .ok (.iload_n 1, 1) := by decide +kernel
theorem d_CB_condition_2 : decode m_CB_condition.2.1 2 = .ok (.iload_n 3, 1) := by decide +kernel
theorem d_CB_condition_3 : decode m_CB_condition.2.1 3 = .ok (.invokevirtual 290, 3) := by decide +kernel
theorem d_CB_condition_6 : decode m_CB_condition.2.1 6 = .ok (.aload_n 0, 1) := by decide +kernel
theorem d_CB_condition_7 : decode m_CB_condition.2.1 7 = .ok (.iload_n 1, 1) := by decide +kernel
theorem d_CB_condition_8 : decode m_CB_condition.2.1 8 = .ok (.invokevirtual 293, 3) := by decide +kernel
theorem d_CB_condition_11 : decode m_CB_condition.2.1 11 = .ok (.iload_n 2, 1) := by decide +kernel
theorem d_CB_condition_12 : decode m_CB_condition.2.1 12 = .ok (.ifCond .lt 35, 3) := by decide +kernel
theorem d_CB_condition_15 : decode m_CB_condition.2.1 15 = .ok (.iload_n 2, 1) := by decide +kernel
theorem d_CB_condition_16 : decode m_CB_condition.2.1 16 = .ok (.iconst 3, 1) := by decide +kernel
theorem d_CB_condition_17 : decode m_CB_condition.2.1 17 = .ok (.if_icmp .ge 30, 3) := by decide +kernel
theorem d_CB_condition_20 : decode m_CB_condition.2.1 20 = .ok (.iload 4, 2) := by decide +kernel
theorem d_CB_condition_22 : decode m_CB_condition.2.1 22 = .ok (.ifCond .lt 25, 3) := by decide +kernel
theorem d_CB_condition_25 : decode m_CB_condition.2.1 25 = .ok (.iload 4, 2) := by decide +kernel
theorem d_CB_condition_27 : decode m_CB_condition.2.1 27 = .ok (.iconst 3, 1) := by decide +kernel
theorem d_CB_condition_28 : decode m_CB_condition.2.1 28 = .ok (.if_icmp .gt 19, 3) := by decide +kernel
theorem d_CB_condition_31 : decode m_CB_condition.2.1 31 = .ok (.iload 5, 2) := by decide +kernel
theorem d_CB_condition_33 : decode m_CB_condition.2.1 33 = .ok (.ldc_w 296, 3) := by decide +kernel
theorem d_CB_condition_36 : decode m_CB_condition.2.1 36 = .ok (.if_icmp .lt 11, 3) := by decide +kernel
theorem d_CB_condition_39 : decode m_CB_condition.2.1 39 = .ok (.iload 5, 2) := by decide +kernel
theorem d_CB_condition_41 : decode m_CB_condition.2.1 41 = .ok (.ldc_w 297, 3) := by decide +kernel
theorem d_CB_condition_44 : decode m_CB_condition.2.1 44 = .ok (.if_icmp .le 11, 3) := by decide +kernel
theorem d_CB_condition_47 : decode m_CB_condition.2.1 47 = .ok (.new 111, 3) := by decide +kernel
theorem d_CB_condition_50 : decode m_CB_condition.2.1 50 = .ok (.dup, 1) := by decide +kernel
theorem d_CB_condition_51 : decode m_CB_condition.2.1 51 = .ok (.invokespecial 113, 3) := by decide +kernel
theorem d_CB_condition_54 : decode m_CB_condition.2.1 54 = .ok (.athrow, 1) := by decide +kernel
theorem d_CB_condition_55 : decode m_CB_condition.2.1 55 = .ok (.aload_n 0, 1) := by decide +kernel
theorem d_CB_condition_56 : decode m_CB_condition.2.1 56 = .ok (.getfield 21, 3) := by decide +kernel
theorem d_CB_condition_59 : decode m_CB_condition.2.1 59 = .ok (.iload_n 1, 1) := by decide +kernel
theorem d_CB_condition_60 : decode m_CB_condition.2.1 60 = .ok (.invokevirtual 298, 3) := by decide +kernel
theorem d_CB_condition_63 : decode m_CB_condition.2.1 63 = .ok (.astore 6, 2) := by decide +kernel
theorem d_CB_condition_65 : decode m_CB_condition.2.1 65 = .ok (.aload 6, 2) := by decide +kernel
theorem d_CB_condition_67 : decode m_CB_condition.2.1 67 = .ok (.getfield 302, 3) := by decide +kernel
theorem d_CB_condition_70 : decode m_CB_condition.2.1 70 = .ok (.bipush 6, 2) := by decide +kernel
theorem d_CB_condition_72 : decode m_CB_condition.2.1 72 = .ok (.if_icmp .lt 11, 3) := by decide +kernel
theorem d_CB_condition_75 : decode m_CB_condition.2.1 75 = .ok (.new 64, 3) := by decide +kernel
theorem d_CB_condition_78 : decode m_CB_condition.2.1 78 = .ok (.dup, 1) := by decide +kernel
theorem d_CB_condition_79 : decode m_CB_condition.2.1 79 = .ok (.invokespecial 66, 3) := by decide +kernel
theorem d_CB_condition_82 : decode m_CB_condition.2.1 82 = .ok (.athrow, 1) := by decide +kernel
theorem d_CB_condition_83 : decode m_CB_condition.2.1 83 = .ok (.aload 6, 2) := by decide +kernel
theorem d_CB_condition_85 : decode m_CB_condition.2.1 85 = .ok (.iload_n 2, 1) := by decide +kernel
theorem d_CB_condition_86 : decode m_CB_condition.2.1 86 = .ok (.iload_n 3, 1) := by decide +kernel
theorem d_CB_condition_87 : decode m_CB_condition.2.1 87 = .ok (.iload 4, 2) := by decide +kernel
theorem d_CB_condition_89 : decode m_CB_condition.2.1 89 = .ok (.iload 5, 2) := by decide +kernel
theorem d_CB_condition_91 : decode m_CB_condition.2.1 91 = .ok (.invokevirtual 307, 3) := by decide +kernel
theorem d_CB_condition_94 : decode m_CB_condition.2.1 94 = .ok (.ireturn, 1) := by decide +kernel
theorem d_CB_askGroups_0 : decode m_CB_askGroups.2.1 0 = .ok (.aload_n 0, 1) := by decide +kernel
theorem d_CB_askGroups_1 : decode m_CB_askGroups.2.1 1 = .ok (.iload_n 1, 1) := by decide +kernel
theorem d_CB_askGroups_2 : decode m_CB_askGroups.2.1 2 = .ok (.invokevirtual 269, 3) := by decide +kernel
theorem d_CB_askGroups_5 : decode m_CB_askGroups.2.1 5 = .ok (.aload_n 0, 1) := by decide +kernel
theorem d_CB_askGroups_6 : decode m_CB_askGroups.2.1 6 = .ok (.iload_n 1, 1) := by decide +kernel
theorem d_CB_askGroups_7 : decode m_CB_askGroups.2.1 7 = .ok (.iload_n 2, 1) := by decide +kernel
theorem d_CB_askGroups_8 : decode m_CB_askGroups.2.1 8 = .ok (.invokevirtual 272, 3) := by decide +kernel
theorem d_CB_askGroups_11 : decode m_CB_askGroups.2.1 11 = .ok (.aload_n 0, 1) := by decide +kernel
theorem d_CB_askGroups_12 : decode m_CB_askGroups.2.1 12 = .ok (.iload_n 1, 1) := by decide +kernel
theorem d_CB_askGroups_13 : decode m_CB_askGroups.2.1 13 = .ok (.iload_n 3, 1) := by decide +kernel
theorem d_CB_askGroups_14 : decode m_CB_askGroups.2.1 14 = .ok (.invokevirtual 272, 3) := by decide +kernel
theorem d_CB_askGroups_17 : decode m_CB_askGroups.2.1 17 = .ok (.aload_n 0, 1) := by decide +kernel
theorem d_CB_askGroups_18 : decode m_CB_askGroups.2.1 18 = .ok (.iload_n 1, 1) := by decide +kernel
theorem d_CB_askGroups_19 : decode m_CB_askGroups.2.1 19 = .ok (.invokevirtual 275, 3) := by decide +kernel
theorem d_CB_askGroups_22 : decode m_CB_askGroups.2.1 22 = .ok (.aload_n 0, 1) := by decide +kernel
theorem d_CB_askGroups_23 : decode m_CB_askGroups.2.1 23 = .ok (.invokevirtual 284, 3) := by decide +kernel
theorem d_CB_askGroups_26 : decode m_CB_askGroups.2.1 26 = .ok (.aload_n 0, 1) := by decide +kernel
theorem d_CB_askGroups_27 : decode m_CB_askGroups.2.1 27 = .ok (.getfield 21, 3) := by decide +kernel
theorem d_CB_askGroups_30 : decode m_CB_askGroups.2.1 30 = .ok (.iconst 1, 1) := by decide +kernel
theorem d_CB_askGroups_31 : decode m_CB_askGroups.2.1 31 = .ok (.iload_n 1, 1) := by decide +kernel
theorem d_CB_askGroups_32 : decode m_CB_askGroups.2.1 32 = .ok (.iload_n 2, 1) := by decide +kernel
theorem d_CB_askGroups_33 : decode m_CB_askGroups.2.1 33 = .ok (.iconst (-1), 1) := by decide +kernel
theorem d_CB_askGroups_34 : decode m_CB_askGroups.2.1 34 = .ok (.iload_n 3, 1) := by decide +kernel
theorem d_CB_askGroups_35 : decode m_CB_askGroups.2.1 35 = .ok (.invokevirtual 310, 3) := by decide +kernel
theorem d_CB_askGroups_38 : decode m_CB_askGroups.2.1 38 = .ok (.ireturn, 1) := by decide +kernel
theorem d_CB_askCross_0 : decode m_CB_askCross.2.1 0 = .ok (.aload_n 0, 1) := by decide +kernel
theorem d_CB_askCross_1 : decode m_CB_askCross.2.1 1 = .ok (.iload_n 1, 1) := by decide +kernel
theorem d_CB_askCross_2 : decode m_CB_askCross.2.1 2 = .ok (.invokevirtual 269, 3) := by decide +kernel
theorem d_CB_askCross_5 : decode m_CB_askCross.2.1 5 = .ok (.aload_n 0, 1) := by decide +kernel
theorem d_CB_askCross_6 : decode m_CB_askCross.2.1 6 = .ok (.iload_n 1, 1) := by decide +kernel
theorem d_CB_askCross_7 : decode m_CB_askCross.2.1 7 = .ok (.iload_n 2, 1) := by decide +kernel
theorem d_CB_askCross_8 : decode m_CB_askCross.2.1 8 = .ok (.invokevirtual 272, 3) := by decide +kernel
theorem d_CB_askCross_11 : decode m_CB_askCross.2.1 11 = .ok (.aload_n 0, 1) := by decide +kernel
theorem d_CB_askCross_12 : decode m_CB_askCross.2.1 12 = .ok (.iload_n 1, 1) := by decide +kernel
theorem d_CB_askCross_13 : decode m_CB_askCross.2.1 13 = .ok (.iload_n 3, 1) := by decide +kernel
theorem d_CB_askCross_14 : decode m_CB_askCross.2.1 14 = .ok (.invokevirtual 272, 3) := by decide +kernel
theorem d_CB_askCross_17 : decode m_CB_askCross.2.1 17 = .ok (.aload_n 0, 1) := by decide +kernel
theorem d_CB_askCross_18 : decode m_CB_askCross.2.1 18 = .ok (.iload_n 1, 1) := by decide +kernel
theorem d_CB_askCross_19 : decode m_CB_askCross.2.1 19 = .ok (.iload 4, 2) := by decide +kernel
theorem d_CB_askCross_21 : decode m_CB_askCross.2.1 21 = .ok (.invokevirtual 272, 3) := by decide +kernel
theorem d_CB_askCross_24 : decode m_CB_askCross.2.1 24 = .ok (.aload_n 0, 1) := by decide +kernel
theorem d_CB_askCross_25 : decode m_CB_askCross.2.1 25 = .ok (.iload_n 1, 1) := by decide +kernel
theorem d_CB_askCross_26 : decode m_CB_askCross.2.1 26 = .ok (.invokevirtual 275, 3) := by decide +kernel
theorem d_CB_askCross_29 : decode m_CB_askCross.2.1 29 = .ok (.aload_n 0, 1) := by decide +kernel
theorem d_CB_askCross_30 : decode m_CB_askCross.2.1 30 = .ok (.invokevirtual 284, 3) := by decide +kernel
theorem d_CB_askCross_33 : decode m_CB_askCross.2.1 33 = .ok (.aload_n 0, 1) := by decide +kernel
theorem d_CB_askCross_34 : decode m_CB_askCross.2.1 34 = .ok (.getfield 21, 3) := by decide +kernel
theorem d_CB_askCross_37 : decode m_CB_askCross.2.1 37 = .ok (.iconst 2, 1) := by decide +kernel
theorem d_CB_askCross_38 : decode m_CB_askCross.2.1 38 = .ok (.iload_n 1, 1) := by decide +kernel
theorem d_CB_askCross_39 : decode m_CB_askCross.2.1 39 = .ok (.iload_n 2, 1) := by decide +kernel
theorem d_CB_askCross_40 : decode m_CB_askCross.2.1 40 = .ok (.iload_n 3, 1) := by decide +kernel
theorem d_CB_askCross_41 : decode m_CB_askCross.2.1 41 = .ok (.iload 4, 2) := by decide +kernel
theorem d_CB_askCross_43 : decode m_CB_askCross.2.1 43 = .ok (.invokevirtual 310, 3) := by decide +kernel
theorem d_CB_askCross_46 : decode m_CB_askCross.2.1 46 = .ok (.ireturn, 1) := by decide +kernel
theorem d_CB_answers_0 : decode m_CB_answers.2.1 0 = .ok (.aload_n 0, 1) := by decide +kernel
theorem d_CB_answers_1 : decode m_CB_answers.2.1 1 = .ok (.iload_n 1, 1) := by decide +kernel
theorem d_CB_answers_2 : decode m_CB_answers.2.1 2 = .ok (.invokevirtual 313, 3) := by decide +kernel
theorem d_CB_answers_5 : decode m_CB_answers.2.1 5 = .ok (.aload_n 0, 1) := by decide +kernel
theorem d_CB_answers_6 : decode m_CB_answers.2.1 6 = .ok (.getfield 21, 3) := by decide +kernel
theorem d_CB_answers_9 : decode m_CB_answers.2.1 9 = .ok (.iload_n 1, 1) := by decide +kernel
theorem d_CB_answers_10 : decode m_CB_answers.2.1 10 = .ok (.invokevirtual 316, 3) := by decide +kernel
theorem d_CB_answers_13 : decode m_CB_answers.2.1 13 = .ok (.ireturn, 1) := by decide +kernel
theorem d_CB_columns_0 : decode m_CB_columns.2.1 0 = .ok (.aload_n 0, 1) := by decide +kernel
theorem d_CB_columns_1 : decode m_CB_columns.2.1 1 = .ok (.iload_n 1, 1) := by decide +kernel
theorem d_CB_columns_2 : decode m_CB_columns.2.1 2 = .ok (.invokevirtual 313, 3) := by decide +kernel
theorem d_CB_columns_5 : decode m_CB_columns.2.1 5 = .ok (.aload_n 0, 1) := by decide +kernel
theorem d_CB_columns_6 : decode m_CB_columns.2.1 6 = .ok (.getfield 21, 3) := by decide +kernel
theorem d_CB_columns_9 : decode m_CB_columns.2.1 9 = .ok (.iload_n 1, 1) := by decide +kernel
theorem d_CB_columns_10 : decode m_CB_columns.2.1 10 = .ok (.invokevirtual 319, 3) := by decide +kernel
theorem d_CB_columns_13 : decode m_CB_columns.2.1 13 = .ok (.ireturn, 1) := by decide +kernel
theorem d_CB_answer_0 : decode m_CB_answer.2.1 0 = .ok (.aload_n 0, 1) := by decide +kernel
theorem d_CB_answer_1 : decode m_CB_answer.2.1 1 = .ok (.iload_n 1, 1) := by decide +kernel
theorem d_CB_answer_2 : decode m_CB_answer.2.1 2 = .ok (.iload_n 2, 1) := by decide +kernel
theorem d_CB_answer_3 : decode m_CB_answer.2.1 3 = .ok (.iload_n 3, 1) := by decide +kernel
theorem d_CB_answer_4 : decode m_CB_answer.2.1 4 = .ok (.invokevirtual 322, 3) := by decide +kernel
theorem d_CB_answer_7 : decode m_CB_answer.2.1 7 = .ok (.aload_n 0, 1) := by decide +kernel
theorem d_CB_answer_8 : decode m_CB_answer.2.1 8 = .ok (.getfield 21, 3) := by decide +kernel
theorem d_CB_answer_11 : decode m_CB_answer.2.1 11 = .ok (.iload_n 2, 1) := by decide +kernel
theorem d_CB_answer_12 : decode m_CB_answer.2.1 12 = .ok (.iload_n 3, 1) := by decide +kernel
theorem d_CB_answer_13 : decode m_CB_answer.2.1 13 = .ok (.invokevirtual 325, 3) := by decide +kernel
theorem d_CB_answer_16 : decode m_CB_answer.2.1 16 = .ok (.ireturn, 1) := by decide +kernel
theorem d_CB_keyOf_0 : decode m_CB_keyOf.2.1 0 = .ok (.aload_n 0, 1) := by decide +kernel
theorem d_CB_keyOf_1 : decode m_CB_keyOf.2.1 1 = .ok (.iload_n 1, 1) := by decide +kernel
theorem d_CB_keyOf_2 : decode m_CB_keyOf.2.1 2 = .ok (.iload_n 2, 1) := by decide +kernel
theorem d_CB_keyOf_3 : decode m_CB_keyOf.2.1 3 = .ok (.invokevirtual 290, 3) := by decide +kernel
theorem d_CB_keyOf_6 : decode m_CB_keyOf.2.1 6 = .ok (.iload_n 2, 1) := by decide +kernel
theorem d_CB_keyOf_7 : decode m_CB_keyOf.2.1 7 = .ok (.ifCond .ne 11, 3) := by decide +kernel
theorem d_CB_keyOf_10 : decode m_CB_keyOf.2.1 10 = .ok (.new 178, 3) := by decide +kernel
theorem d_CB_keyOf_13 : decode m_CB_keyOf.2.1 13 = .ok (.dup, 1) := by decide +kernel
theorem d_CB_keyOf_14 : decode m_CB_keyOf.2.1 14 = .ok (.invokespecial 180, 3) := by decide +kernel
theorem d_CB_keyOf_17 : decode m_CB_keyOf.2.1 17 = .ok (.athrow, 1) := by decide +kernel
theorem d_CB_keyOf_18 : decode m_CB_keyOf.2.1 18 = .ok (.aload_n 0, 1) := by decide +kernel
theorem d_CB_keyOf_19 : decode m_CB_keyOf.2.1 19 = .ok (.getfield 21, 3) := by decide +kernel
theorem d_CB_keyOf_22 : decode m_CB_keyOf.2.1 22 = .ok (.iload_n 1, 1) := by decide +kernel
theorem d_CB_keyOf_23 : decode m_CB_keyOf.2.1 23 = .ok (.invokevirtual 298, 3) := by decide +kernel
theorem d_CB_keyOf_26 : decode m_CB_keyOf.2.1 26 = .ok (.getfield 327, 3) := by decide +kernel
theorem d_CB_keyOf_29 : decode m_CB_keyOf.2.1 29 = .ok (.iconst 2, 1) := by decide +kernel
theorem d_CB_keyOf_30 : decode m_CB_keyOf.2.1 30 = .ok (.if_icmp .eq 11, 3) := by decide +kernel
theorem d_CB_keyOf_33 : decode m_CB_keyOf.2.1 33 = .ok (.new 111, 3) := by decide +kernel
theorem d_CB_keyOf_36 : decode m_CB_keyOf.2.1 36 = .ok (.dup, 1) := by decide +kernel
theorem d_CB_keyOf_37 : decode m_CB_keyOf.2.1 37 = .ok (.invokespecial 113, 3) := by decide +kernel
theorem d_CB_keyOf_40 : decode m_CB_keyOf.2.1 40 = .ok (.athrow, 1) := by decide +kernel
theorem d_CB_keyOf_41 : decode m_CB_keyOf.2.1 41 = .ok (.aload_n 0, 1) := by decide +kernel
theorem d_CB_keyOf_42 : decode m_CB_keyOf.2.1 42 = .ok (.getfield 21, 3) := by decide +kernel
theorem d_CB_keyOf_45 : decode m_CB_keyOf.2.1 45 = .ok (.iload_n 1, 1) := by decide +kernel
theorem d_CB_keyOf_46 : decode m_CB_keyOf.2.1 46 = .ok (.invokevirtual 316, 3) := by decide +kernel
theorem d_CB_keyOf_49 : decode m_CB_keyOf.2.1 49 = .ok (.pop, 1) := by decide +kernel
theorem d_CB_keyOf_50 : decode m_CB_keyOf.2.1 50 = .ok (.aload_n 0, 1) := by decide +kernel
theorem d_CB_keyOf_51 : decode m_CB_keyOf.2.1 51 = .ok (.getfield 21, 3) := by decide +kernel
theorem d_CB_keyOf_54 : decode m_CB_keyOf.2.1 54 = .ok (.iload_n 2, 1) := by decide +kernel
theorem d_CB_keyOf_55 : decode m_CB_keyOf.2.1 55 = .ok (.iconst 1, 1) := by decide +kernel
theorem d_CB_keyOf_56 : decode m_CB_keyOf.2.1 56 = .ok (.isub, 1) := by decide +kernel
theorem d_CB_keyOf_57 : decode m_CB_keyOf.2.1 57 = .ok (.invokevirtual 328, 3) := by decide +kernel
theorem d_CB_keyOf_60 : decode m_CB_keyOf.2.1 60 = .ok (.ireturn, 1) := by decide +kernel
theorem d_CB_target_0 : decode m_CB_target.2.1 0 = .ok (.aload_n 0, 1) := by decide +kernel
theorem d_CB_target_1 : decode m_CB_target.2.1 1 = .ok (.iload_n 1, 1) := by decide +kernel
theorem d_CB_target_2 : decode m_CB_target.2.1 2 = .ok (.iload_n 2, 1) := by decide +kernel
theorem d_CB_target_3 : decode m_CB_target.2.1 3 = .ok (.iload_n 3, 1) := by decide +kernel
theorem d_CB_target_4 : decode m_CB_target.2.1 4 = .ok (.invokevirtual 322, 3) := by decide +kernel
theorem d_CB_target_7 : decode m_CB_target.2.1 7 = .ok (.aload_n 0, 1) := by decide +kernel
theorem d_CB_target_8 : decode m_CB_target.2.1 8 = .ok (.getfield 21, 3) := by decide +kernel
theorem d_CB_target_11 : decode m_CB_target.2.1 11 = .ok (.iload_n 1, 1) := by decide +kernel
theorem d_CB_target_12 : decode m_CB_target.2.1 12 = .ok (.invokevirtual 298, 3) := by decide +kernel
theorem d_CB_target_15 : decode m_CB_target.2.1 15 = .ok (.iload_n 3, 1) := by decide +kernel
theorem d_CB_target_16 : decode m_CB_target.2.1 16 = .ok (.invokevirtual 331, 3) := by decide +kernel
theorem d_CB_target_19 : decode m_CB_target.2.1 19 = .ok (.istore 4, 2) := by decide +kernel
theorem d_CB_target_21 : decode m_CB_target.2.1 21 = .ok (.aload_n 0, 1) := by decide +kernel
theorem d_CB_target_22 : decode m_CB_target.2.1 22 = .ok (.getfield 12, 3) := by decide +kernel
theorem d_CB_target_25 : decode m_CB_target.2.1 25 = .ok (.iload 4, 2) := by decide +kernel
theorem d_CB_target_27 : decode m_CB_target.2.1 27 = .ok (.invokevirtual 333, 3) := by decide +kernel
theorem d_CB_target_30 : decode m_CB_target.2.1 30 = .ok (.ifCond .ne 5, 3) := by decide +kernel
theorem d_CB_target_33 : decode m_CB_target.2.1 33 = .ok (.iconst (-1), 1) := by decide +kernel
theorem d_CB_target_34 : decode m_CB_target.2.1 34 = .ok (.ireturn, 1) := by decide +kernel
theorem d_CB_target_35 : decode m_CB_target.2.1 35 = .ok (.sipush 1000, 3) := by decide +kernel
theorem d_CB_target_38 : decode m_CB_target.2.1 38 = .ok (.iload 4, 2) := by decide +kernel
theorem d_CB_target_40 : decode m_CB_target.2.1 40 = .ok (.bipush 10, 2) := by decide +kernel
theorem d_CB_target_42 : decode m_CB_target.2.1 42 = .ok (.idiv, 1) := by decide +kernel
theorem d_CB_target_43 : decode m_CB_target.2.1 43 = .ok (.imul, 1) := by decide +kernel
theorem d_CB_target_44 : decode m_CB_target.2.1 44 = .ok (.bipush 10, 2) := by decide +kernel
theorem d_CB_target_46 : decode m_CB_target.2.1 46 = .ok (.aload_n 0, 1) := by decide +kernel
theorem d_CB_target_47 : decode m_CB_target.2.1 47 = .ok (.getfield 21, 3) := by decide +kernel
theorem d_CB_target_50 : decode m_CB_target.2.1 50 = .ok (.iload_n 1, 1) := by decide +kernel
theorem d_CB_target_51 : decode m_CB_target.2.1 51 = .ok (.iload_n 2, 1) := by decide +kernel
theorem d_CB_target_52 : decode m_CB_target.2.1 52 = .ok (.iload_n 3, 1) := by decide +kernel
theorem d_CB_target_53 : decode m_CB_target.2.1 53 = .ok (.invokevirtual 336, 3) := by decide +kernel
theorem d_CB_target_56 : decode m_CB_target.2.1 56 = .ok (.imul, 1) := by decide +kernel
theorem d_CB_target_57 : decode m_CB_target.2.1 57 = .ok (.iadd, 1) := by decide +kernel
theorem d_CB_target_58 : decode m_CB_target.2.1 58 = .ok (.iload 4, 2) := by decide +kernel
theorem d_CB_target_60 : decode m_CB_target.2.1 60 = .ok (.bipush 10, 2) := by decide +kernel
theorem d_CB_target_62 : decode m_CB_target.2.1 62 = .ok (.irem, 1) := by decide +kernel
theorem d_CB_target_63 : decode m_CB_target.2.1 63 = .ok (.iadd, 1) := by decide +kernel
theorem d_CB_target_64 : decode m_CB_target.2.1 64 = .ok (.ireturn, 1) := by decide +kernel
theorem d_CB_write_0 : decode m_CB_write.2.1 0 = .ok (.aload_n 0, 1) := by decide +kernel
theorem d_CB_write_1 : decode m_CB_write.2.1 1 = .ok (.iload_n 1, 1) := by decide +kernel
theorem d_CB_write_2 : decode m_CB_write.2.1 2 = .ok (.iload_n 2, 1) := by decide +kernel
theorem d_CB_write_3 : decode m_CB_write.2.1 3 = .ok (.iload_n 3, 1) := by decide +kernel
theorem d_CB_write_4 : decode m_CB_write.2.1 4 = .ok (.invokevirtual 322, 3) := by decide +kernel
theorem d_CB_write_7 : decode m_CB_write.2.1 7 = .ok (.aload_n 0, 1) := by decide +kernel
theorem d_CB_write_8 : decode m_CB_write.2.1 8 = .ok (.iload 4, 2) := by decide +kernel
theorem d_CB_write_10 : decode m_CB_write.2.1 10 = .ok (.invokevirtual 210, 3) := by decide +kernel
theorem d_CB_write_13 : decode m_CB_write.2.1 13 = .ok (.aload_n 0, 1) := by decide +kernel
theorem d_CB_write_14 : decode m_CB_write.2.1 14 = .ok (.getfield 21, 3) := by decide +kernel
theorem d_CB_write_17 : decode m_CB_write.2.1 17 = .ok (.iload_n 1, 1) := by decide +kernel
theorem d_CB_write_18 : decode m_CB_write.2.1 18 = .ok (.invokevirtual 298, 3) := by decide +kernel
theorem d_CB_write_21 : decode m_CB_write.2.1 21 = .ok (.iload_n 3, 1) := by decide +kernel
theorem d_CB_write_22 : decode m_CB_write.2.1 22 = .ok (.invokevirtual 331, 3) := by decide +kernel
theorem d_CB_write_25 : decode m_CB_write.2.1 25 = .ok (.istore 5, 2) := by decide +kernel
theorem d_CB_write_27 : decode m_CB_write.2.1 27 = .ok (.aload_n 0, 1) := by decide +kernel
theorem d_CB_write_28 : decode m_CB_write.2.1 28 = .ok (.aload_n 0, 1) := by decide +kernel
theorem d_CB_write_29 : decode m_CB_write.2.1 29 = .ok (.getfield 12, 3) := by decide +kernel
theorem d_CB_write_32 : decode m_CB_write.2.1 32 = .ok (.iload 5, 2) := by decide +kernel
theorem d_CB_write_34 : decode m_CB_write.2.1 34 = .ok (.aload_n 0, 1) := by decide +kernel
theorem d_CB_write_35 : decode m_CB_write.2.1 35 = .ok (.getfield 21, 3) := by decide +kernel
theorem d_CB_write_38 : decode m_CB_write.2.1 38 = .ok (.iload_n 1, 1) := by decide +kernel
theorem d_CB_write_39 : decode m_CB_write.2.1 39 = .ok (.iload_n 2, 1) := by decide +kernel
theorem d_CB_write_40 : decode m_CB_write.2.1 40 = .ok (.iload_n 3, 1) := by decide +kernel
theorem d_CB_write_41 : decode m_CB_write.2.1 41 = .ok (.invokevirtual 336, 3) := by decide +kernel
theorem d_CB_write_44 : decode m_CB_write.2.1 44 = .ok (.iload 4, 2) := by decide +kernel
theorem d_CB_write_46 : decode m_CB_write.2.1 46 = .ok (.invokevirtual 231, 3) := by decide +kernel
theorem d_CB_write_49 : decode m_CB_write.2.1 49 = .ok (.invokevirtual 118, 3) := by decide +kernel
theorem d_CB_write_52 : decode m_CB_write.2.1 52 = .ok (.ireturn, 1) := by decide +kernel
theorem d_CB_addAct_0 : decode m_CB_addAct.2.1 0 = .ok (.aload_n 0, 1) := by decide +kernel
theorem d_CB_addAct_1 : decode m_CB_addAct.2.1 1 = .ok (.getfield 339, 3) := by decide +kernel
theorem d_CB_addAct_4 : decode m_CB_addAct.2.1 4 = .ok (.iconst 4, 1) := by decide +kernel
theorem d_CB_addAct_5 : decode m_CB_addAct.2.1 5 = .ok (.if_icmp .lt 11, 3) := by decide +kernel
theorem d_CB_addAct_8 : decode m_CB_addAct.2.1 8 = .ok (.new 64, 3) := by decide +kernel
theorem d_CB_addAct_11 : decode m_CB_addAct.2.1 11 = .ok (.dup, 1) := by decide +kernel
theorem d_CB_addAct_12 : decode m_CB_addAct.2.1 12 = .ok (.invokespecial 66, 3) := by decide +kernel
theorem d_CB_addAct_15 : decode m_CB_addAct.2.1 15 = .ok (.athrow, 1) := by decide +kernel
theorem d_CB_addAct_16 : decode m_CB_addAct.2.1 16 = .ok (.aload_n 0, 1) := by decide +kernel
theorem d_CB_addAct_17 : decode m_CB_addAct.2.1 17 = .ok (.dup, 1) := by decide +kernel
theorem d_CB_addAct_18 : decode m_CB_addAct.2.1 18 = .ok (.getfield 339, 3) := by decide +kernel
theorem d_CB_addAct_21 : decode m_CB_addAct.2.1 21 = .ok (.dup_x1, 1) := by decide +kernel
theorem d_CB_addAct_22 : decode m_CB_addAct.2.1 22 = .ok (.iconst 1, 1) := by decide +kernel
theorem d_CB_addAct_23 : decode m_CB_addAct.2.1 23 = .ok (.iadd, 1) := by decide +kernel
theorem d_CB_addAct_24 : decode m_CB_addAct.2.1 24 = .ok (.putfield 339, 3) := by decide +kernel
theorem d_CB_addAct_27 : decode m_CB_addAct.2.1 27 = .ok (.ireturn, 1) := by decide +kernel
theorem d_CB_stepPut_0 : decode m_CB_stepPut.2.1 0 = .ok (.aload_n 0, 1) := by decide +kernel
theorem d_CB_stepPut_1 : decode m_CB_stepPut.2.1 1 = .ok (.iload_n 1, 1) := by decide +kernel
theorem d_CB_stepPut_2 : decode m_CB_stepPut.2.1 2 = .ok (.invokevirtual 342, 3) := by decide +kernel
theorem d_CB_stepPut_5 : decode m_CB_stepPut.2.1 5 = .ok (.aload_n 0, 1) := by decide +kernel
theorem d_CB_stepPut_6 : decode m_CB_stepPut.2.1 6 = .ok (.iload_n 2, 1) := by decide +kernel
theorem d_CB_stepPut_7 : decode m_CB_stepPut.2.1 7 = .ok (.iload_n 3, 1) := by decide +kernel
theorem d_CB_stepPut_8 : decode m_CB_stepPut.2.1 8 = .ok (.invokevirtual 290, 3) := by decide +kernel
theorem d_CB_stepPut_11 : decode m_CB_stepPut.2.1 11 = .ok (.aload_n 0, 1) := by decide +kernel
theorem d_CB_stepPut_12 : decode m_CB_stepPut.2.1 12 = .ok (.iload_n 2, 1) := by decide +kernel
theorem d_CB_stepPut_13 : decode m_CB_stepPut.2.1 13 = .ok (.invokevirtual 293, 3) := by decide +kernel
theorem d_CB_stepPut_16 : decode m_CB_stepPut.2.1 16 = .ok (.aload_n 0, 1) := by decide +kernel
theorem d_CB_stepPut_17 : decode m_CB_stepPut.2.1 17 = .ok (.iload 4, 2) := by decide +kernel
theorem d_CB_stepPut_19 : decode m_CB_stepPut.2.1 19 = .ok (.invokevirtual 210, 3) := by decide +kernel
theorem d_CB_stepPut_22 : decode m_CB_stepPut.2.1 22 = .ok (.aload_n 0, 1) := by decide +kernel
theorem d_CB_stepPut_23 : decode m_CB_stepPut.2.1 23 = .ok (.iload_n 1, 1) := by decide +kernel
theorem d_CB_stepPut_24 : decode m_CB_stepPut.2.1 24 = .ok (.invokevirtual 345, 3) := by decide +kernel
theorem d_CB_stepPut_27 : decode m_CB_stepPut.2.1 27 = .ok (.aload_n 0, 1) := by decide +kernel
theorem d_CB_stepPut_28 : decode m_CB_stepPut.2.1 28 = .ok (.getfield 45, 3) := by decide +kernel
theorem d_CB_stepPut_31 : decode m_CB_stepPut.2.1 31 = .ok (.iload_n 1, 1) := by decide +kernel
theorem d_CB_stepPut_32 : decode m_CB_stepPut.2.1 32 = .ok (.aaload, 1) := by decide +kernel
theorem d_CB_stepPut_33 : decode m_CB_stepPut.2.1 33 = .ok (.iconst 0, 1) := by decide +kernel
theorem d_CB_stepPut_34 : decode m_CB_stepPut.2.1 34 = .ok (.iload_n 2, 1) := by decide +kernel
theorem d_CB_stepPut_35 : decode m_CB_stepPut.2.1 35 = .ok (.iload_n 3, 1) := by decide +kernel
theorem d_CB_stepPut_36 : decode m_CB_stepPut.2.1 36 = .ok (.iload 4, 2) := by decide +kernel
theorem d_CB_stepPut_38 : decode m_CB_stepPut.2.1 38 = .ok (.invokevirtual 350, 3) := by decide +kernel
theorem d_CB_stepPut_41 : decode m_CB_stepPut.2.1 41 = .ok (.ireturn, 1) := by decide +kernel
theorem d_CB_stepAdd_0 : decode m_CB_stepAdd.2.1 0 = .ok (.aload_n 0, 1) := by decide +kernel
theorem d_CB_stepAdd_1 : decode m_CB_stepAdd.2.1 1 = .ok (.iload_n 1, 1) := by decide +kernel
theorem d_CB_stepAdd_2 : decode m_CB_stepAdd.2.1 2 = .ok (.invokevirtual 342, 3) := by decide +kernel
theorem d_CB_stepAdd_5 : decode m_CB_stepAdd.2.1 5 = .ok (.aload_n 0, 1) := by decide +kernel
theorem d_CB_stepAdd_6 : decode m_CB_stepAdd.2.1 6 = .ok (.iload_n 2, 1) := by decide +kernel
theorem d_CB_stepAdd_7 : decode m_CB_stepAdd.2.1 7 = .ok (.invokevirtual 70, 3) := by decide +kernel
theorem d_CB_stepAdd_10 : decode m_CB_stepAdd.2.1 10 = .ok (.aload_n 0, 1) := by decide +kernel
theorem d_CB_stepAdd_11 : decode m_CB_stepAdd.2.1 11 = .ok (.iload_n 1, 1) := by decide +kernel
theorem d_CB_stepAdd_12 : decode m_CB_stepAdd.2.1 12 = .ok (.invokevirtual 345, 3) := by decide +kernel
theorem d_CB_stepAdd_15 : decode m_CB_stepAdd.2.1 15 = .ok (.aload_n 0, 1) := by decide +kernel
theorem d_CB_stepAdd_16 : decode m_CB_stepAdd.2.1 16 = .ok (.getfield 45, 3) := by decide +kernel
theorem d_CB_stepAdd_19 : decode m_CB_stepAdd.2.1 19 = .ok (.iload_n 1, 1) := by decide +kernel
theorem d_CB_stepAdd_20 : decode m_CB_stepAdd.2.1 20 = .ok (.aaload, 1) := by decide +kernel
theorem d_CB_stepAdd_21 : decode m_CB_stepAdd.2.1 21 = .ok (.aload_n 0, 1) := by decide +kernel
theorem d_CB_stepAdd_22 : decode m_CB_stepAdd.2.1 22 = .ok (.getfield 32, 3) := by decide +kernel
theorem d_CB_stepAdd_25 : decode m_CB_stepAdd.2.1 25 = .ok (.invokevirtual 353, 3) := by decide +kernel
theorem d_CB_stepAdd_28 : decode m_CB_stepAdd.2.1 28 = .ok (.aload_n 0, 1) := by decide +kernel
theorem d_CB_stepAdd_29 : decode m_CB_stepAdd.2.1 29 = .ok (.getfield 45, 3) := by decide +kernel
theorem d_CB_stepAdd_32 : decode m_CB_stepAdd.2.1 32 = .ok (.iload_n 1, 1) := by decide +kernel
theorem d_CB_stepAdd_33 : decode m_CB_stepAdd.2.1 33 = .ok (.aaload, 1) := by decide +kernel
theorem d_CB_stepAdd_34 : decode m_CB_stepAdd.2.1 34 = .ok (.iconst 1, 1) := by decide +kernel
theorem d_CB_stepAdd_35 : decode m_CB_stepAdd.2.1 35 = .ok (.iconst (-1), 1) := by decide +kernel
theorem d_CB_stepAdd_36 : decode m_CB_stepAdd.2.1 36 = .ok (.iconst (-1), 1) := by decide +kernel
theorem d_CB_stepAdd_37 : decode m_CB_stepAdd.2.1 37 = .ok (.iload_n 2, 1) := by decide +kernel
theorem d_CB_stepAdd_38 : decode m_CB_stepAdd.2.1 38 = .ok (.invokevirtual 350, 3) := by decide +kernel
theorem d_CB_stepAdd_41 : decode m_CB_stepAdd.2.1 41 = .ok (.ireturn, 1) := by decide +kernel
theorem d_CB_stepRemove_0 : decode m_CB_stepRemove.2.1 0 = .ok (.aload_n 0, 1) := by decide +kernel
theorem d_CB_stepRemove_1 : decode m_CB_stepRemove.2.1 1 = .ok (.iload_n 1, 1) := by decide +kernel
theorem d_CB_stepRemove_2 : decode m_CB_stepRemove.2.1 2 = .ok (.invokevirtual 342, 3) := by decide +kernel
theorem d_CB_stepRemove_5 : decode m_CB_stepRemove.2.1 5 = .ok (.aload_n 0, 1) := by decide +kernel
theorem d_CB_stepRemove_6 : decode m_CB_stepRemove.2.1 6 = .ok (.iload_n 2, 1) := by decide +kernel
theorem d_CB_stepRemove_7 : decode m_CB_stepRemove.2.1 7 = .ok (.iload_n 3, 1) := by decide +kernel
theorem d_CB_stepRemove_8 : decode m_CB_stepRemove.2.1 8 = .ok (.invokevirtual 290, 3) := by decide +kernel
theorem d_CB_stepRemove_11 : decode m_CB_stepRemove.2.1 11 = .ok (.aload_n 0, 1) := by decide +kernel
theorem d_CB_stepRemove_12 : decode m_CB_stepRemove.2.1 12 = .ok (.iload_n 2, 1) := by decide +kernel
theorem d_CB_stepRemove_13 : decode m_CB_stepRemove.2.1 13 = .ok (.invokevirtual 293, 3) := by decide +kernel
theorem d_CB_stepRemove_16 : decode m_CB_stepRemove.2.1 16 = .ok (.aload_n 0, 1) := by decide +kernel
theorem d_CB_stepRemove_17 : decode m_CB_stepRemove.2.1 17 = .ok (.iload_n 1, 1) := by decide +kernel
theorem d_CB_stepRemove_18 : decode m_CB_stepRemove.2.1 18 = .ok (.invokevirtual 345, 3) := by decide +kernel
theorem d_CB_stepRemove_21 : decode m_CB_stepRemove.2.1 21 = .ok (.aload_n 0, 1) := by decide +kernel
theorem d_CB_stepRemove_22 : decode m_CB_stepRemove.2.1 22 = .ok (.getfield 45, 3) := by decide +kernel
theorem d_CB_stepRemove_25 : decode m_CB_stepRemove.2.1 25 = .ok (.iload_n 1, 1) := by decide +kernel
theorem d_CB_stepRemove_26 : decode m_CB_stepRemove.2.1 26 = .ok (.aaload, 1) := by decide +kernel
theorem d_CB_stepRemove_27 : decode m_CB_stepRemove.2.1 27 = .ok (.iconst 2, 1) := by decide +kernel
theorem d_CB_stepRemove_28 : decode m_CB_stepRemove.2.1 28 = .ok (.iload_n 2, 1) := by decide +kernel
theorem d_CB_stepRemove_29 : decode m_CB_stepRemove.2.1 29 = .ok (.iload_n 3, 1) := by decide +kernel
theorem d_CB_stepRemove_30 : decode m_CB_stepRemove.2.1 30 = .ok (.iconst 0, 1) := by decide +kernel
theorem d_CB_stepRemove_31 : decode m_CB_stepRemove.2.1 31 = .ok (.invokevirtual 350, 3) := by decide +kernel
theorem d_CB_stepRemove_34 : decode m_CB_stepRemove.2.1 34 = .ok (.ireturn, 1) := by decide +kernel
theorem d_CB_stepIf_0 : decode m_CB_stepIf.2.1 0 = .ok (.aload_n 0, 1) := by decide +kernel
theorem d_CB_stepIf_1 : decode m_CB_stepIf.2.1 1 = .ok (.iload_n 1, 1) := by decide +kernel
theorem d_CB_stepIf_2 : decode m_CB_stepIf.2.1 2 = .ok (.invokevirtual 342, 3) := by decide +kernel
theorem d_CB_stepIf_5 : decode m_CB_stepIf.2.1 5 = .ok (.aload_n 0, 1) := by decide +kernel
theorem d_CB_stepIf_6 : decode m_CB_stepIf.2.1 6 = .ok (.iload_n 2, 1) := by decide +kernel
theorem d_CB_stepIf_7 : decode m_CB_stepIf.2.1 7 = .ok (.invokevirtual 313, 3) := by decide +kernel
theorem d_CB_stepIf_10 : decode m_CB_stepIf.2.1 10 = .ok (.iload_n 3, 1) := by decide +kernel
theorem d_CB_stepIf_11 : decode m_CB_stepIf.2.1 11 = .ok (.iconst 1, 1) := by decide +kernel
theorem d_CB_stepIf_12 : decode m_CB_stepIf.2.1 12 = .ok (.if_icmp .lt 9, 3) := by decide +kernel
theorem d_CB_stepIf_15 : decode m_CB_stepIf.2.1 15 = .ok (.iload_n 3, 1) := by decide +kernel
theorem d_CB_stepIf_16 : decode m_CB_stepIf.2.1 16 = .ok (.bipush 6, 2) := by decide +kernel
theorem d_CB_stepIf_18 : decode m_CB_stepIf.2.1 18 = .ok (.if_icmp .lt 11, 3) := by decide +kernel
theorem d_CB_stepIf_21 : decode m_CB_stepIf.2.1 21 = .ok (.new 111, 3) := by decide +kernel
theorem d_CB_stepIf_24 : decode m_CB_stepIf.2.1 24 = .ok (.dup, 1) := by decide +kernel
theorem d_CB_stepIf_25 : decode m_CB_stepIf.2.1 25 = .ok (.invokespecial 113, 3) := by decide +kernel
theorem d_CB_stepIf_28 : decode m_CB_stepIf.2.1 28 = .ok (.athrow, 1) := by decide +kernel
theorem d_CB_stepIf_29 : decode m_CB_stepIf.2.1 29 = .ok (.aload_n 0, 1) := by decide +kernel
theorem d_CB_stepIf_30 : decode m_CB_stepIf.2.1 30 = .ok (.iload_n 1, 1) := by decide +kernel
theorem d_CB_stepIf_31 : decode m_CB_stepIf.2.1 31 = .ok (.invokevirtual 345, 3) := by decide +kernel
theorem d_CB_stepIf_34 : decode m_CB_stepIf.2.1 34 = .ok (.aload_n 0, 1) := by decide +kernel
theorem d_CB_stepIf_35 : decode m_CB_stepIf.2.1 35 = .ok (.getfield 45, 3) := by decide +kernel
theorem d_CB_stepIf_38 : decode m_CB_stepIf.2.1 38 = .ok (.iload_n 1, 1) := by decide +kernel
theorem d_CB_stepIf_39 : decode m_CB_stepIf.2.1 39 = .ok (.aaload, 1) := by decide +kernel
theorem d_CB_stepIf_40 : decode m_CB_stepIf.2.1 40 = .ok (.iconst 3, 1) := by decide +kernel
theorem d_CB_stepIf_41 : decode m_CB_stepIf.2.1 41 = .ok (.iload_n 2, 1) := by decide +kernel
theorem d_CB_stepIf_42 : decode m_CB_stepIf.2.1 42 = .ok (.iconst (-1), 1) := by decide +kernel
theorem d_CB_stepIf_43 : decode m_CB_stepIf.2.1 43 = .ok (.iload_n 3, 1) := by decide +kernel
theorem d_CB_stepIf_44 : decode m_CB_stepIf.2.1 44 = .ok (.invokevirtual 350, 3) := by decide +kernel
theorem d_CB_stepIf_47 : decode m_CB_stepIf.2.1 47 = .ok (.ireturn, 1) := by decide +kernel
theorem d_CB_run_0 : decode m_CB_run.2.1 0 = .ok (.aload_n 0, 1) := by decide +kernel
theorem d_CB_run_1 : decode m_CB_run.2.1 1 = .ok (.iload_n 1, 1) := by decide +kernel
theorem d_CB_run_2 : decode m_CB_run.2.1 2 = .ok (.invokevirtual 342, 3) := by decide +kernel
theorem d_CB_run_5 : decode m_CB_run.2.1 5 = .ok (.aload_n 0, 1) := by decide +kernel
theorem d_CB_run_6 : decode m_CB_run.2.1 6 = .ok (.invokevirtual 357, 3) := by decide +kernel
theorem d_CB_run_9 : decode m_CB_run.2.1 9 = .ok (.aload_n 0, 1) := by decide +kernel
theorem d_CB_run_10 : decode m_CB_run.2.1 10 = .ok (.getfield 45, 3) := by decide +kernel
theorem d_CB_run_13 : decode m_CB_run.2.1 13 = .ok (.iload_n 1, 1) := by decide +kernel
theorem d_CB_run_14 : decode m_CB_run.2.1 14 = .ok (.aaload, 1) := by decide +kernel
theorem d_CB_run_15 : decode m_CB_run.2.1 15 = .ok (.astore_n 2, 1) := by decide +kernel
theorem d_CB_run_16 : decode m_CB_run.2.1 16 = .ok (.iconst 0, 1) := by decide +kernel
theorem d_CB_run_17 : decode m_CB_run.2.1 17 = .ok (.istore_n 3, 1) := by decide +kernel
theorem d_CB_run_18 : decode m_CB_run.2.1 18 = .ok (.iload_n 3, 1) := by decide +kernel
theorem d_CB_run_19 : decode m_CB_run.2.1 19 = .ok (.aload_n 2, 1) := by decide +kernel
theorem d_CB_run_20 : decode m_CB_run.2.1 20 = .ok (.getfield 360, 3) := by decide +kernel
theorem d_CB_run_23 : decode m_CB_run.2.1 23 = .ok (.if_icmp .ge 126, 3) := by decide +kernel
theorem d_CB_run_26 : decode m_CB_run.2.1 26 = .ok (.iload_n 3, 1) := by decide +kernel
theorem d_CB_run_27 : decode m_CB_run.2.1 27 = .ok (.bipush 6, 2) := by decide +kernel
theorem d_CB_run_29 : decode m_CB_run.2.1 29 = .ok (.if_icmp .ge 120, 3) := by decide +kernel
theorem d_CB_run_32 : decode m_CB_run.2.1 32 = .ok (.aload_n 2, 1) := by decide +kernel
theorem d_CB_run_33 : decode m_CB_run.2.1 33 = .ok (.getfield 363, 3) := by decide +kernel
theorem d_CB_run_36 : decode m_CB_run.2.1 36 = .ok (.iload_n 3, 1) := by decide +kernel
theorem d_CB_run_37 : decode m_CB_run.2.1 37 = .ok (.aaload, 1) := by decide +kernel
theorem d_CB_run_38 : decode m_CB_run.2.1 38 = .ok (.astore 4, 2) := by decide +kernel
theorem d_CB_run_40 : decode m_CB_run.2.1 40 = .ok (.iconst 1, 1) := by decide +kernel
theorem d_CB_run_41 : decode m_CB_run.2.1 41 = .ok (.istore 5, 2) := by decide +kernel
theorem d_CB_run_43 : decode m_CB_run.2.1 43 = .ok (.aload 4, 2) := by decide +kernel
theorem d_CB_run_45 : decode m_CB_run.2.1 45 = .ok (.getfield 367, 3) := by decide +kernel
theorem d_CB_run_48 : decode m_CB_run.2.1 48 = .ok (.tableswitch 61 0 2 #[28, 39, 50], 28) := by decide +kernel
theorem d_CB_run_76 : decode m_CB_run.2.1 76 = .ok (.aload_n 0, 1) := by decide +kernel
theorem d_CB_run_77 : decode m_CB_run.2.1 77 = .ok (.aload 4, 2) := by decide +kernel
theorem d_CB_run_79 : decode m_CB_run.2.1 79 = .ok (.invokevirtual 368, 3) := by decide +kernel
theorem d_CB_run_82 : decode m_CB_run.2.1 82 = .ok (.istore 5, 2) := by decide +kernel
theorem d_CB_run_84 : decode m_CB_run.2.1 84 = .ok (.goto 48, 3) := by decide +kernel
theorem d_CB_run_87 : decode m_CB_run.2.1 87 = .ok (.aload_n 0, 1) := by decide +kernel
theorem d_CB_run_88 : decode m_CB_run.2.1 88 = .ok (.aload 4, 2) := by decide +kernel
theorem d_CB_run_90 : decode m_CB_run.2.1 90 = .ok (.invokevirtual 372, 3) := by decide +kernel
theorem d_CB_run_93 : decode m_CB_run.2.1 93 = .ok (.istore 5, 2) := by decide +kernel
theorem d_CB_run_95 : decode m_CB_run.2.1 95 = .ok (.goto 37, 3) := by decide +kernel
theorem d_CB_run_98 : decode m_CB_run.2.1 98 = .ok (.aload_n 0, 1) := by decide +kernel
theorem d_CB_run_99 : decode m_CB_run.2.1 99 = .ok (.aload 4, 2) := by decide +kernel
theorem d_CB_run_101 : decode m_CB_run.2.1 101 = .ok (.invokevirtual 375, 3) := by decide +kernel
theorem d_CB_run_104 : decode m_CB_run.2.1 104 = .ok (.istore 5, 2) := by decide +kernel
theorem d_CB_run_106 : decode m_CB_run.2.1 106 = .ok (.goto 26, 3) := by decide +kernel
theorem d_CB_run_109 : decode m_CB_run.2.1 109 = .ok (.aload_n 0, 1) := by decide +kernel
theorem d_CB_run_110 : decode m_CB_run.2.1 110 = .ok (.getfield 21, 3) := by decide +kernel
theorem d_CB_run_113 : decode m_CB_run.2.1 113 = .ok (.aload 4, 2) := by decide +kernel
theorem d_CB_run_115 : decode m_CB_run.2.1 115 = .ok (.getfield 378, 3) := by decide +kernel
theorem d_CB_run_118 : decode m_CB_run.2.1 118 = .ok (.invokevirtual 316, 3) := by decide +kernel
theorem d_CB_run_121 : decode m_CB_run.2.1 121 = .ok (.ifCond .ne 11, 3) := by decide +kernel
theorem d_CB_run_124 : decode m_CB_run.2.1 124 = .ok (.iload_n 3, 1) := by decide +kernel
theorem d_CB_run_125 : decode m_CB_run.2.1 125 = .ok (.aload 4, 2) := by decide +kernel
theorem d_CB_run_127 : decode m_CB_run.2.1 127 = .ok (.getfield 380, 3) := by decide +kernel
theorem d_CB_run_130 : decode m_CB_run.2.1 130 = .ok (.iadd, 1) := by decide +kernel
theorem d_CB_run_131 : decode m_CB_run.2.1 131 = .ok (.istore_n 3, 1) := by decide +kernel
theorem d_CB_run_132 : decode m_CB_run.2.1 132 = .ok (.iload 5, 2) := by decide +kernel
theorem d_CB_run_134 : decode m_CB_run.2.1 134 = .ok (.ifCond .ne 9, 3) := by decide +kernel
theorem d_CB_run_137 : decode m_CB_run.2.1 137 = .ok (.aload_n 0, 1) := by decide +kernel
theorem d_CB_run_138 : decode m_CB_run.2.1 138 = .ok (.iconst 0, 1) := by decide +kernel
theorem d_CB_run_139 : decode m_CB_run.2.1 139 = .ok (.invokevirtual 383, 3) := by decide +kernel
theorem d_CB_run_142 : decode m_CB_run.2.1 142 = .ok (.ireturn, 1) := by decide +kernel
theorem d_CB_run_143 : decode m_CB_run.2.1 143 = .ok (.iinc 3 1, 3) := by decide +kernel
theorem d_CB_run_146 : decode m_CB_run.2.1 146 = .ok (.goto (-128), 3) := by decide +kernel
theorem d_CB_run_149 : decode m_CB_run.2.1 149 = .ok (.aload_n 0, 1) := by decide +kernel
theorem d_CB_run_150 : decode m_CB_run.2.1 150 = .ok (.iconst 1, 1) := by decide +kernel
theorem d_CB_run_151 : decode m_CB_run.2.1 151 = .ok (.invokevirtual 383, 3) := by decide +kernel
theorem d_CB_run_154 : decode m_CB_run.2.1 154 = .ok (.ireturn, 1) := by decide +kernel
theorem d_CB_undoable_0 : decode m_CB_undoable.2.1 0 = .ok (.aload_n 0, 1) := by decide +kernel
theorem d_CB_undoable_1 : decode m_CB_undoable.2.1 1 = .ok (.getfield 386, 3) := by decide +kernel
theorem d_CB_undoable_4 : decode m_CB_undoable.2.1 4 = .ok (.ireturn, 1) := by decide +kernel
theorem d_CB_undo_0 : decode m_CB_undo.2.1 0 = .ok (.aload_n 0, 1) := by decide +kernel
theorem d_CB_undo_1 : decode m_CB_undo.2.1 1 = .ok (.getfield 386, 3) := by decide +kernel
theorem d_CB_undo_4 : decode m_CB_undo.2.1 4 = .ok (.iconst 1, 1) := by decide +kernel
theorem d_CB_undo_5 : decode m_CB_undo.2.1 5 = .ok (.if_icmp .lt 11, 3) := by decide +kernel
theorem d_CB_undo_8 : decode m_CB_undo.2.1 8 = .ok (.aload_n 0, 1) := by decide +kernel
theorem d_CB_undo_9 : decode m_CB_undo.2.1 9 = .ok (.getfield 386, 3) := by decide +kernel
theorem d_CB_undo_12 : decode m_CB_undo.2.1 12 = .ok (.iconst 5, 1) := by decide +kernel
theorem d_CB_undo_13 : decode m_CB_undo.2.1 13 = .ok (.if_icmp .le 11, 3) := by decide +kernel
theorem d_CB_undo_16 : decode m_CB_undo.2.1 16 = .ok (.new 64, 3) := by decide +kernel
theorem d_CB_undo_19 : decode m_CB_undo.2.1 19 = .ok (.dup, 1) := by decide +kernel
theorem d_CB_undo_20 : decode m_CB_undo.2.1 20 = .ok (.invokespecial 66, 3) := by decide +kernel
theorem d_CB_undo_23 : decode m_CB_undo.2.1 23 = .ok (.athrow, 1) := by decide +kernel
theorem d_CB_undo_24 : decode m_CB_undo.2.1 24 = .ok (.aload_n 0, 1) := by decide +kernel
theorem d_CB_undo_25 : decode m_CB_undo.2.1 25 = .ok (.dup, 1) := by decide +kernel
theorem d_CB_undo_26 : decode m_CB_undo.2.1 26 = .ok (.getfield 386, 3) := by decide +kernel
theorem d_CB_undo_29 : decode m_CB_undo.2.1 29 = .ok (.iconst 1, 1) := by decide +kernel
theorem d_CB_undo_30 : decode m_CB_undo.2.1 30 = .ok (.isub, 1) := by decide +kernel
theorem d_CB_undo_31 : decode m_CB_undo.2.1 31 = .ok (.putfield 386, 3) := by decide +kernel
theorem d_CB_undo_34 : decode m_CB_undo.2.1 34 = .ok (.aload_n 0, 1) := by decide +kernel
theorem d_CB_undo_35 : decode m_CB_undo.2.1 35 = .ok (.getfield 12, 3) := by decide +kernel
theorem d_CB_undo_38 : decode m_CB_undo.2.1 38 = .ok (.getfield 213, 3) := by decide +kernel
theorem d_CB_undo_41 : decode m_CB_undo.2.1 41 = .ok (.aload_n 0, 1) := by decide +kernel
theorem d_CB_undo_42 : decode m_CB_undo.2.1 42 = .ok (.getfield 52, 3) := by decide +kernel
theorem d_CB_undo_45 : decode m_CB_undo.2.1 45 = .ok (.aload_n 0, 1) := by decide +kernel
theorem d_CB_undo_46 : decode m_CB_undo.2.1 46 = .ok (.getfield 386, 3) := by decide +kernel
theorem d_CB_undo_49 : decode m_CB_undo.2.1 49 = .ok (.aaload, 1) := by decide +kernel
theorem d_CB_undo_50 : decode m_CB_undo.2.1 50 = .ok (.invokevirtual 389, 3) := by decide +kernel
theorem d_CB_undo_53 : decode m_CB_undo.2.1 53 = .ok (.aload_n 0, 1) := by decide +kernel
theorem d_CB_undo_54 : decode m_CB_undo.2.1 54 = .ok (.getfield 386, 3) := by decide +kernel
theorem d_CB_undo_57 : decode m_CB_undo.2.1 57 = .ok (.ireturn, 1) := by decide +kernel
theorem d_CB_forgetActs_0 : decode m_CB_forgetActs.2.1 0 = .ok (.aload_n 0, 1) := by decide +kernel
theorem d_CB_forgetActs_1 : decode m_CB_forgetActs.2.1 1 = .ok (.iconst 0, 1) := by decide +kernel
theorem d_CB_forgetActs_2 : decode m_CB_forgetActs.2.1 2 = .ok (.putfield 386, 3) := by decide +kernel
theorem d_CB_forgetActs_5 : decode m_CB_forgetActs.2.1 5 = .ok (.return_, 1) := by decide +kernel
theorem d_CB_tell_0 : decode m_CB_tell.2.1 0 = .ok (.iload_n 1, 1) := by decide +kernel
theorem d_CB_tell_1 : decode m_CB_tell.2.1 1 = .ok (.ifCond .eq 17, 3) := by decide +kernel
theorem d_CB_tell_4 : decode m_CB_tell.2.1 4 = .ok (.aload_n 0, 1) := by decide +kernel
theorem d_CB_tell_5 : decode m_CB_tell.2.1 5 = .ok (.getfield 28, 3) := by decide +kernel
theorem d_CB_tell_8 : decode m_CB_tell.2.1 8 = .ok (.invokevirtual 393, 3) := by decide +kernel
theorem d_CB_tell_11 : decode m_CB_tell.2.1 11 = .ok (.aload_n 0, 1) := by decide +kernel
theorem d_CB_tell_12 : decode m_CB_tell.2.1 12 = .ok (.invokevirtual 67, 3) := by decide +kernel
theorem d_CB_tell_15 : decode m_CB_tell.2.1 15 = .ok (.goto 17, 3) := by decide +kernel
theorem d_CB_tell_18 : decode m_CB_tell.2.1 18 = .ok (.aload_n 0, 1) := by decide +kernel
theorem d_CB_tell_19 : decode m_CB_tell.2.1 19 = .ok (.getfield 28, 3) := by decide +kernel
theorem d_CB_tell_22 : decode m_CB_tell.2.1 22 = .ok (.aload_n 0, 1) := by decide +kernel
theorem d_CB_tell_23 : decode m_CB_tell.2.1 23 = .ok (.getfield 12, 3) := by decide +kernel
theorem d_CB_tell_26 : decode m_CB_tell.2.1 26 = .ok (.getfield 396, 3) := by decide +kernel
theorem d_CB_tell_29 : decode m_CB_tell.2.1 29 = .ok (.invokevirtual 399, 3) := by decide +kernel
theorem d_CB_tell_32 : decode m_CB_tell.2.1 32 = .ok (.iload_n 1, 1) := by decide +kernel
theorem d_CB_tell_33 : decode m_CB_tell.2.1 33 = .ok (.ireturn, 1) := by decide +kernel
theorem d_CB_tellEntry_0 : decode m_CB_tellEntry.2.1 0 = .ok (.aload_n 0, 1) := by decide +kernel
theorem d_CB_tellEntry_1 : decode m_CB_tellEntry.2.1 1 = .ok (.iload_n 1, 1) := by decide +kernel
theorem d_CB_tellEntry_2 : decode m_CB_tellEntry.2.1 2 = .ok (.ifCond .lt 7, 3) := by decide +kernel
theorem d_CB_tellEntry_5 : decode m_CB_tellEntry.2.1 5 = .ok (.iconst 1, 1) := by decide +kernel
theorem d_CB_tellEntry_6 : decode m_CB_tellEntry.2.1 6 = .ok (.goto 4, 3) := by decide +kernel
theorem d_CB_tellEntry_9 : decode m_CB_tellEntry.2.1 9 = .ok (.iconst 0, 1) := by decide +kernel
theorem d_CB_tellEntry_10 : decode m_CB_tellEntry.2.1 10 = .ok (.invokevirtual 118, 3) := by decide +kernel
theorem d_CB_tellEntry_13 : decode m_CB_tellEntry.2.1 13 = .ok (.ifCond .eq 12, 3) := by decide +kernel
theorem d_CB_tellEntry_16 : decode m_CB_tellEntry.2.1 16 = .ok (.aload_n 0, 1) := by decide +kernel
theorem d_CB_tellEntry_17 : decode m_CB_tellEntry.2.1 17 = .ok (.getfield 32, 3) := by decide +kernel
theorem d_CB_tellEntry_20 : decode m_CB_tellEntry.2.1 20 = .ok (.ldc 36, 2) := by decide +kernel
theorem d_CB_tellEntry_22 : decode m_CB_tellEntry.2.1 22 = .ok (.invokestatic 37, 3) := by decide +kernel
theorem d_CB_tellEntry_25 : decode m_CB_tellEntry.2.1 25 = .ok (.iload_n 1, 1) := by decide +kernel
theorem d_CB_tellEntry_26 : decode m_CB_tellEntry.2.1 26 = .ok (.ireturn, 1) := by decide +kernel
theorem d_CB_isFormGood_0 : decode m_CB_isFormGood.2.1 0 = .ok (.aload_n 0, 1) := by decide +kernel
theorem d_CB_isFormGood_1 : decode m_CB_isFormGood.2.1 1 = .ok (.getfield 12, 3) := by decide +kernel
theorem d_CB_isFormGood_4 : decode m_CB_isFormGood.2.1 4 = .ok (.aload_n 0, 1) := by decide +kernel
theorem d_CB_isFormGood_5 : decode m_CB_isFormGood.2.1 5 = .ok (.getfield 57, 3) := by decide +kernel
theorem d_CB_isFormGood_8 : decode m_CB_isFormGood.2.1 8 = .ok (.invokevirtual 402, 3) := by decide +kernel
theorem d_CB_isFormGood_11 : decode m_CB_isFormGood.2.1 11 = .ok (.ifCond .eq 53, 3) := by decide +kernel
theorem d_CB_isFormGood_14 : decode m_CB_isFormGood.2.1 14 = .ok (.aload_n 0, 1) := by decide +kernel
theorem d_CB_isFormGood_15 : decode m_CB_isFormGood.2.1 15 = .ok (.getfield 12, 3) := by decide +kernel
theorem d_CB_isFormGood_18 : decode m_CB_isFormGood.2.1 18 = .ok (.getfield 213, 3) := by decide +kernel
theorem d_CB_isFormGood_21 : decode m_CB_isFormGood.2.1 21 = .ok (.aload_n 0, 1) := by decide +kernel
theorem d_CB_isFormGood_22 : decode m_CB_isFormGood.2.1 22 = .ok (.getfield 57, 3) := by decide +kernel
theorem d_CB_isFormGood_25 : decode m_CB_isFormGood.2.1 25 = .ok (.aload_n 0, 1) := by decide +kernel
theorem d_CB_isFormGood_26 : decode m_CB_isFormGood.2.1 26 = .ok (.getfield 237, 3) := by decide +kernel
theorem d_CB_isFormGood_29 : decode m_CB_isFormGood.2.1 29 = .ok (.invokevirtual 257, 3) := by decide +kernel
theorem d_CB_isFormGood_32 : decode m_CB_isFormGood.2.1 32 = .ok (.ifCond .eq 32, 3) := by decide +kernel
theorem d_CB_isFormGood_35 : decode m_CB_isFormGood.2.1 35 = .ok (.aload_n 0, 1) := by decide +kernel
theorem d_CB_isFormGood_36 : decode m_CB_isFormGood.2.1 36 = .ok (.getfield 12, 3) := by decide +kernel
theorem d_CB_isFormGood_39 : decode m_CB_isFormGood.2.1 39 = .ok (.getfield 213, 3) := by decide +kernel
theorem d_CB_isFormGood_42 : decode m_CB_isFormGood.2.1 42 = .ok (.aload_n 0, 1) := by decide +kernel
theorem d_CB_isFormGood_43 : decode m_CB_isFormGood.2.1 43 = .ok (.getfield 57, 3) := by decide +kernel
theorem d_CB_isFormGood_46 : decode m_CB_isFormGood.2.1 46 = .ok (.aload_n 0, 1) := by decide +kernel
theorem d_CB_isFormGood_47 : decode m_CB_isFormGood.2.1 47 = .ok (.getfield 237, 3) := by decide +kernel
theorem d_CB_isFormGood_50 : decode m_CB_isFormGood.2.1 50 = .ok (.invokevirtual 240, 3) := by decide +kernel
theorem d_CB_isFormGood_53 : decode m_CB_isFormGood.2.1 53 = .ok (.aload_n 0, 1) := by decide +kernel
theorem d_CB_isFormGood_54 : decode m_CB_isFormGood.2.1 54 = .ok (.getfield 243, 3) := by decide +kernel
theorem d_CB_isFormGood_57 : decode m_CB_isFormGood.2.1 57 = .ok (.if_icmp .ne 7, 3) := by decide +kernel
theorem d_CB_isFormGood_60 : decode m_CB_isFormGood.2.1 60 = .ok (.iconst 1, 1) := by decide +kernel
theorem d_CB_isFormGood_61 : decode m_CB_isFormGood.2.1 61 = .ok (.goto 4, 3) := by decide +kernel
theorem d_CB_isFormGood_64 : decode m_CB_isFormGood.2.1 64 = .ok (.iconst 0, 1) := by decide +kernel
theorem d_CB_isFormGood_65 : decode m_CB_isFormGood.2.1 65 = .ok (.ireturn, 1) := by decide +kernel
theorem d_CB_putInAll_0 : decode m_CB_putInAll.2.1 0 = .ok (.aload_n 0, 1) := by decide +kernel
theorem d_CB_putInAll_1 : decode m_CB_putInAll.2.1 1 = .ok (.getfield 21, 3) := by decide +kernel
theorem d_CB_putInAll_4 : decode m_CB_putInAll.2.1 4 = .ok (.aload_n 1, 1) := by decide +kernel
theorem d_CB_putInAll_5 : decode m_CB_putInAll.2.1 5 = .ok (.getfield 378, 3) := by decide +kernel
theorem d_CB_putInAll_8 : decode m_CB_putInAll.2.1 8 = .ok (.invokevirtual 316, 3) := by decide +kernel
theorem d_CB_putInAll_11 : decode m_CB_putInAll.2.1 11 = .ok (.istore_n 2, 1) := by decide +kernel
theorem d_CB_putInAll_12 : decode m_CB_putInAll.2.1 12 = .ok (.aload_n 0, 1) := by decide +kernel
theorem d_CB_putInAll_13 : decode m_CB_putInAll.2.1 13 = .ok (.getfield 21, 3) := by decide +kernel
theorem d_CB_putInAll_16 : decode m_CB_putInAll.2.1 16 = .ok (.aload_n 1, 1) := by decide +kernel
theorem d_CB_putInAll_17 : decode m_CB_putInAll.2.1 17 = .ok (.getfield 378, 3) := by decide +kernel
theorem d_CB_putInAll_20 : decode m_CB_putInAll.2.1 20 = .ok (.invokevirtual 298, 3) := by decide +kernel
theorem d_CB_putInAll_23 : decode m_CB_putInAll.2.1 23 = .ok (.aload_n 1, 1) := by decide +kernel
theorem d_CB_putInAll_24 : decode m_CB_putInAll.2.1 24 = .ok (.getfield 405, 3) := by decide +kernel
theorem d_CB_putInAll_27 : decode m_CB_putInAll.2.1 27 = .ok (.invokevirtual 331, 3) := by decide +kernel
theorem d_CB_putInAll_30 : decode m_CB_putInAll.2.1 30 = .ok (.istore_n 3, 1) := by decide +kernel
theorem d_CB_putInAll_31 : decode m_CB_putInAll.2.1 31 = .ok (.iconst 0, 1) := by decide +kernel
theorem d_CB_putInAll_32 : decode m_CB_putInAll.2.1 32 = .ok (.istore 4, 2) := by decide +kernel
theorem d_CB_putInAll_34 : decode m_CB_putInAll.2.1 34 = .ok (.iload 4, 2) := by decide +kernel
theorem d_CB_putInAll_36 : decode m_CB_putInAll.2.1 36 = .ok (.iload_n 2, 1) := by decide +kernel
theorem d_CB_putInAll_37 : decode m_CB_putInAll.2.1 37 = .ok (.if_icmp .ge 43, 3) := by decide +kernel
theorem d_CB_putInAll_40 : decode m_CB_putInAll.2.1 40 = .ok (.aload_n 0, 1) := by decide +kernel
theorem d_CB_putInAll_41 : decode m_CB_putInAll.2.1 41 = .ok (.getfield 12, 3) := by decide +kernel
theorem d_CB_putInAll_44 : decode m_CB_putInAll.2.1 44 = .ok (.iload_n 3, 1) := by decide +kernel
theorem d_CB_putInAll_45 : decode m_CB_putInAll.2.1 45 = .ok (.aload_n 0, 1) := by decide +kernel
theorem d_CB_putInAll_46 : decode m_CB_putInAll.2.1 46 = .ok (.getfield 21, 3) := by decide +kernel
theorem d_CB_putInAll_49 : decode m_CB_putInAll.2.1 49 = .ok (.aload_n 1, 1) := by decide +kernel
theorem d_CB_putInAll_50 : decode m_CB_putInAll.2.1 50 = .ok (.getfield 378, 3) := by decide +kernel
theorem d_CB_putInAll_53 : decode m_CB_putInAll.2.1 53 = .ok (.iload 4, 2) := by decide +kernel
theorem d_CB_putInAll_55 : decode m_CB_putInAll.2.1 55 = .ok (.aload_n 1, 1) := by decide +kernel
theorem d_CB_putInAll_56 : decode m_CB_putInAll.2.1 56 = .ok (.getfield 405, 3) := by decide +kernel
theorem d_CB_putInAll_59 : decode m_CB_putInAll.2.1 59 = .ok (.invokevirtual 336, 3) := by decide +kernel
theorem d_CB_putInAll_62 : decode m_CB_putInAll.2.1 62 = .ok (.aload_n 1, 1) := by decide +kernel
theorem d_CB_putInAll_63 : decode m_CB_putInAll.2.1 63 = .ok (.getfield 380, 3) := by decide +kernel
theorem d_CB_putInAll_66 : decode m_CB_putInAll.2.1 66 = .ok (.invokevirtual 231, 3) := by decide +kernel
theorem d_CB_putInAll_69 : decode m_CB_putInAll.2.1 69 = .ok (.ifCond .ne 5, 3) := by decide +kernel
theorem d_CB_putInAll_72 : decode m_CB_putInAll.2.1 72 = .ok (.iconst 0, 1) := by decide +kernel
theorem d_CB_putInAll_73 : decode m_CB_putInAll.2.1 73 = .ok (.ireturn, 1) := by decide +kernel
theorem d_CB_putInAll_74 : decode m_CB_putInAll.2.1 74 = .ok (.iinc 4 1, 3) := by decide +kernel
theorem d_CB_putInAll_77 : decode m_CB_putInAll.2.1 77 = .ok (.goto (-43), 3) := by decide +kernel
theorem d_CB_putInAll_80 : decode m_CB_putInAll.2.1 80 = .ok (.iconst 1, 1) := by decide +kernel
theorem d_CB_putInAll_81 : decode m_CB_putInAll.2.1 81 = .ok (.ireturn, 1) := by decide +kernel
theorem d_CB_addFrom_0 : decode m_CB_addFrom.2.1 0 = .ok (.aload_n 0, 1) := by decide +kernel
theorem d_CB_addFrom_1 : decode m_CB_addFrom.2.1 1 = .ok (.getfield 12, 3) := by decide +kernel
theorem d_CB_addFrom_4 : decode m_CB_addFrom.2.1 4 = .ok (.getfield 213, 3) := by decide +kernel
theorem d_CB_addFrom_7 : decode m_CB_addFrom.2.1 7 = .ok (.aload_n 1, 1) := by decide +kernel
theorem d_CB_addFrom_8 : decode m_CB_addFrom.2.1 8 = .ok (.getfield 380, 3) := by decide +kernel
theorem d_CB_addFrom_11 : decode m_CB_addFrom.2.1 11 = .ok (.invokevirtual 217, 3) := by decide +kernel
theorem d_CB_addFrom_14 : decode m_CB_addFrom.2.1 14 = .ok (.ifCond .eq 18, 3) := by decide +kernel
theorem d_CB_addFrom_17 : decode m_CB_addFrom.2.1 17 = .ok (.aload_n 0, 1) := by decide +kernel
theorem d_CB_addFrom_18 : decode m_CB_addFrom.2.1 18 = .ok (.getfield 12, 3) := by decide +kernel
theorem d_CB_addFrom_21 : decode m_CB_addFrom.2.1 21 = .ok (.bipush 10, 2) := by decide +kernel
theorem d_CB_addFrom_23 : decode m_CB_addFrom.2.1 23 = .ok (.aload_n 1, 1) := by decide +kernel
theorem d_CB_addFrom_24 : decode m_CB_addFrom.2.1 24 = .ok (.getfield 380, 3) := by decide +kernel
theorem d_CB_addFrom_27 : decode m_CB_addFrom.2.1 27 = .ok (.iconst (-1), 1) := by decide +kernel
theorem d_CB_addFrom_28 : decode m_CB_addFrom.2.1 28 = .ok (.invokevirtual 155, 3) := by decide +kernel
theorem d_CB_addFrom_31 : decode m_CB_addFrom.2.1 31 = .ok (.ireturn, 1) := by decide +kernel
theorem d_CB_addFrom_32 : decode m_CB_addFrom.2.1 32 = .ok (.aload_n 0, 1) := by decide +kernel
theorem d_CB_addFrom_33 : decode m_CB_addFrom.2.1 33 = .ok (.getfield 12, 3) := by decide +kernel
theorem d_CB_addFrom_36 : decode m_CB_addFrom.2.1 36 = .ok (.aload_n 1, 1) := by decide +kernel
theorem d_CB_addFrom_37 : decode m_CB_addFrom.2.1 37 = .ok (.getfield 380, 3) := by decide +kernel
theorem d_CB_addFrom_40 : decode m_CB_addFrom.2.1 40 = .ok (.aload_n 1, 1) := by decide +kernel
theorem d_CB_addFrom_41 : decode m_CB_addFrom.2.1 41 = .ok (.getfield 406, 3) := by decide +kernel
theorem d_CB_addFrom_44 : decode m_CB_addFrom.2.1 44 = .ok (.iconst (-1), 1) := by decide +kernel
theorem d_CB_addFrom_45 : decode m_CB_addFrom.2.1 45 = .ok (.ldc 36, 2) := by decide +kernel
theorem d_CB_addFrom_47 : decode m_CB_addFrom.2.1 47 = .ok (.invokevirtual 220, 3) := by decide +kernel
theorem d_CB_addFrom_50 : decode m_CB_addFrom.2.1 50 = .ok (.ifCond .lt 7, 3) := by decide +kernel
theorem d_CB_addFrom_53 : decode m_CB_addFrom.2.1 53 = .ok (.iconst 1, 1) := by decide +kernel
theorem d_CB_addFrom_54 : decode m_CB_addFrom.2.1 54 = .ok (.goto 4, 3) := by decide +kernel
theorem d_CB_addFrom_57 : decode m_CB_addFrom.2.1 57 = .ok (.iconst 0, 1) := by decide +kernel
theorem d_CB_addFrom_58 : decode m_CB_addFrom.2.1 58 = .ok (.ireturn, 1) := by decide +kernel
theorem d_CB_removeAll_0 : decode m_CB_removeAll.2.1 0 = .ok (.aload_n 0, 1) := by decide +kernel
theorem d_CB_removeAll_1 : decode m_CB_removeAll.2.1 1 = .ok (.getfield 21, 3) := by decide +kernel
theorem d_CB_removeAll_4 : decode m_CB_removeAll.2.1 4 = .ok (.aload_n 1, 1) := by decide +kernel
theorem d_CB_removeAll_5 : decode m_CB_removeAll.2.1 5 = .ok (.getfield 378, 3) := by decide +kernel
theorem d_CB_removeAll_8 : decode m_CB_removeAll.2.1 8 = .ok (.invokevirtual 316, 3) := by decide +kernel
theorem d_CB_removeAll_11 : decode m_CB_removeAll.2.1 11 = .ok (.istore_n 2, 1) := by decide +kernel
theorem d_CB_removeAll_12 : decode m_CB_removeAll.2.1 12 = .ok (.aload_n 0, 1) := by decide +kernel
theorem d_CB_removeAll_13 : decode m_CB_removeAll.2.1 13 = .ok (.getfield 21, 3) := by decide +kernel
theorem d_CB_removeAll_16 : decode m_CB_removeAll.2.1 16 = .ok (.aload_n 1, 1) := by decide +kernel
theorem d_CB_removeAll_17 : decode m_CB_removeAll.2.1 17 = .ok (.getfield 378, 3) := by decide +kernel
theorem d_CB_removeAll_20 : decode m_CB_removeAll.2.1 20 = .ok (.invokevirtual 298, 3) := by decide +kernel
theorem d_CB_removeAll_23 : decode m_CB_removeAll.2.1 23 = .ok (.aload_n 1, 1) := by decide +kernel
theorem d_CB_removeAll_24 : decode m_CB_removeAll.2.1 24 = .ok (.getfield 405, 3) := by decide +kernel
theorem d_CB_removeAll_27 : decode m_CB_removeAll.2.1 27 = .ok (.invokevirtual 331, 3) := by decide +kernel
theorem d_CB_removeAll_30 : decode m_CB_removeAll.2.1 30 = .ok (.istore_n 3, 1) := by decide +kernel
theorem d_CB_removeAll_31 : decode m_CB_removeAll.2.1 31 = .ok (.iload_n 3, 1) := by decide +kernel
theorem d_CB_removeAll_32 : decode m_CB_removeAll.2.1 32 = .ok (.ifCond .ge 27, 3) := by decide +kernel
theorem d_CB_removeAll_35 : decode m_CB_removeAll.2.1 35 = .ok (.iload_n 2, 1) := by decide +kernel
theorem d_CB_removeAll_36 : decode m_CB_removeAll.2.1 36 = .ok (.ifCond .eq 17, 3) := by decide +kernel
theorem d_CB_removeAll_39 : decode m_CB_removeAll.2.1 39 = .ok (.aload_n 0, 1) := by decide +kernel
theorem d_CB_removeAll_40 : decode m_CB_removeAll.2.1 40 = .ok (.getfield 12, 3) := by decide +kernel
theorem d_CB_removeAll_43 : decode m_CB_removeAll.2.1 43 = .ok (.bipush 7, 2) := by decide +kernel
theorem d_CB_removeAll_45 : decode m_CB_removeAll.2.1 45 = .ok (.iconst (-1), 1) := by decide +kernel
theorem d_CB_removeAll_46 : decode m_CB_removeAll.2.1 46 = .ok (.iconst (-1), 1) := by decide +kernel
theorem d_CB_removeAll_47 : decode m_CB_removeAll.2.1 47 = .ok (.invokevirtual 155, 3) := by decide +kernel
theorem d_CB_removeAll_50 : decode m_CB_removeAll.2.1 50 = .ok (.ifCond .eq 7, 3) := by decide +kernel
theorem d_CB_removeAll_53 : decode m_CB_removeAll.2.1 53 = .ok (.iconst 1, 1) := by decide +kernel
theorem d_CB_removeAll_54 : decode m_CB_removeAll.2.1 54 = .ok (.goto 4, 3) := by decide +kernel
theorem d_CB_removeAll_57 : decode m_CB_removeAll.2.1 57 = .ok (.iconst 0, 1) := by decide +kernel
theorem d_CB_removeAll_58 : decode m_CB_removeAll.2.1 58 = .ok (.ireturn, 1) := by decide +kernel
theorem d_CB_removeAll_59 : decode m_CB_removeAll.2.1 59 = .ok (.iconst 0, 1) := by decide +kernel
theorem d_CB_removeAll_60 : decode m_CB_removeAll.2.1 60 = .ok (.istore 4, 2) := by decide +kernel
theorem d_CB_removeAll_62 : decode m_CB_removeAll.2.1 62 = .ok (.iload 4, 2) := by decide +kernel
theorem d_CB_removeAll_64 : decode m_CB_removeAll.2.1 64 = .ok (.iload_n 2, 1) := by decide +kernel
theorem d_CB_removeAll_65 : decode m_CB_removeAll.2.1 65 = .ok (.if_icmp .ge 65, 3) := by decide +kernel
theorem d_CB_removeAll_68 : decode m_CB_removeAll.2.1 68 = .ok (.aload_n 0, 1) := by decide +kernel
theorem d_CB_removeAll_69 : decode m_CB_removeAll.2.1 69 = .ok (.getfield 21, 3) := by decide +kernel
theorem d_CB_removeAll_72 : decode m_CB_removeAll.2.1 72 = .ok (.aload_n 1, 1) := by decide +kernel
theorem d_CB_removeAll_73 : decode m_CB_removeAll.2.1 73 = .ok (.getfield 378, 3) := by decide +kernel
theorem d_CB_removeAll_76 : decode m_CB_removeAll.2.1 76 = .ok (.iload 4, 2) := by decide +kernel
theorem d_CB_removeAll_78 : decode m_CB_removeAll.2.1 78 = .ok (.aload_n 1, 1) := by decide +kernel
theorem d_CB_removeAll_79 : decode m_CB_removeAll.2.1 79 = .ok (.getfield 405, 3) := by decide +kernel
theorem d_CB_removeAll_82 : decode m_CB_removeAll.2.1 82 = .ok (.invokevirtual 336, 3) := by decide +kernel
theorem d_CB_removeAll_85 : decode m_CB_removeAll.2.1 85 = .ok (.istore 5, 2) := by decide +kernel
theorem d_CB_removeAll_87 : decode m_CB_removeAll.2.1 87 = .ok (.aload_n 0, 1) := by decide +kernel
theorem d_CB_removeAll_88 : decode m_CB_removeAll.2.1 88 = .ok (.getfield 12, 3) := by decide +kernel
theorem d_CB_removeAll_91 : decode m_CB_removeAll.2.1 91 = .ok (.getfield 213, 3) := by decide +kernel
theorem d_CB_removeAll_94 : decode m_CB_removeAll.2.1 94 = .ok (.iload_n 3, 1) := by decide +kernel
theorem d_CB_removeAll_95 : decode m_CB_removeAll.2.1 95 = .ok (.bipush 10, 2) := by decide +kernel
theorem d_CB_removeAll_97 : decode m_CB_removeAll.2.1 97 = .ok (.idiv, 1) := by decide +kernel
theorem d_CB_removeAll_98 : decode m_CB_removeAll.2.1 98 = .ok (.iload 5, 2) := by decide +kernel
theorem d_CB_removeAll_100 : decode m_CB_removeAll.2.1 100 = .ok (.invokevirtual 257, 3) := by decide +kernel
theorem d_CB_removeAll_103 : decode m_CB_removeAll.2.1 103 = .ok (.ifCond .eq 21, 3) := by decide +kernel
theorem d_CB_removeAll_106 : decode m_CB_removeAll.2.1 106 = .ok (.aload_n 0, 1) := by decide +kernel
theorem d_CB_removeAll_107 : decode m_CB_removeAll.2.1 107 = .ok (.getfield 12, 3) := by decide +kernel
theorem d_CB_removeAll_110 : decode m_CB_removeAll.2.1 110 = .ok (.iload_n 3, 1) := by decide +kernel
theorem d_CB_removeAll_111 : decode m_CB_removeAll.2.1 111 = .ok (.bipush 10, 2) := by decide +kernel
theorem d_CB_removeAll_113 : decode m_CB_removeAll.2.1 113 = .ok (.idiv, 1) := by decide +kernel
theorem d_CB_removeAll_114 : decode m_CB_removeAll.2.1 114 = .ok (.iload 5, 2) := by decide +kernel
theorem d_CB_removeAll_116 : decode m_CB_removeAll.2.1 116 = .ok (.invokevirtual 234, 3) := by decide +kernel
theorem d_CB_removeAll_119 : decode m_CB_removeAll.2.1 119 = .ok (.ifCond .ne 5, 3) := by decide +kernel
theorem d_CB_removeAll_122 : decode m_CB_removeAll.2.1 122 = .ok (.iconst 0, 1) := by decide +kernel
theorem d_CB_removeAll_123 : decode m_CB_removeAll.2.1 123 = .ok (.ireturn, 1) := by decide +kernel
theorem d_CB_removeAll_124 : decode m_CB_removeAll.2.1 124 = .ok (.iinc 4 1, 3) := by decide +kernel
theorem d_CB_removeAll_127 : decode m_CB_removeAll.2.1 127 = .ok (.goto (-65), 3) := by decide +kernel
theorem d_CB_removeAll_130 : decode m_CB_removeAll.2.1 130 = .ok (.iconst 1, 1) := by decide +kernel
theorem d_CB_removeAll_131 : decode m_CB_removeAll.2.1 131 = .ok (.ireturn, 1) := by decide +kernel
theorem d_CB_keepAhead_0 : decode m_CB_keepAhead.2.1 0 = .ok (.aload_n 0, 1) := by decide +kernel
theorem d_CB_keepAhead_1 : decode m_CB_keepAhead.2.1 1 = .ok (.getfield 386, 3) := by decide +kernel
theorem d_CB_keepAhead_4 : decode m_CB_keepAhead.2.1 4 = .ok (.ifCond .lt 34, 3) := by decide +kernel
theorem d_CB_keepAhead_7 : decode m_CB_keepAhead.2.1 7 = .ok (.aload_n 0, 1) := by decide +kernel
theorem d_CB_keepAhead_8 : decode m_CB_keepAhead.2.1 8 = .ok (.getfield 386, 3) := by decide +kernel
theorem d_CB_keepAhead_11 : decode m_CB_keepAhead.2.1 11 = .ok (.aload_n 0, 1) := by decide +kernel
theorem d_CB_keepAhead_12 : decode m_CB_keepAhead.2.1 12 = .ok (.getfield 52, 3) := by decide +kernel
theorem d_CB_keepAhead_15 : decode m_CB_keepAhead.2.1 15 = .ok (.arraylength, 1) := by decide +kernel
theorem d_CB_keepAhead_16 : decode m_CB_keepAhead.2.1 16 = .ok (.if_icmp .ge 22, 3) := by decide +kernel
theorem d_CB_keepAhead_19 : decode m_CB_keepAhead.2.1 19 = .ok (.aload_n 0, 1) := by decide +kernel
theorem d_CB_keepAhead_20 : decode m_CB_keepAhead.2.1 20 = .ok (.getfield 52, 3) := by decide +kernel
theorem d_CB_keepAhead_23 : decode m_CB_keepAhead.2.1 23 = .ok (.aload_n 0, 1) := by decide +kernel
theorem d_CB_keepAhead_24 : decode m_CB_keepAhead.2.1 24 = .ok (.getfield 386, 3) := by decide +kernel
theorem d_CB_keepAhead_27 : decode m_CB_keepAhead.2.1 27 = .ok (.aaload, 1) := by decide +kernel
theorem d_CB_keepAhead_28 : decode m_CB_keepAhead.2.1 28 = .ok (.aload_n 0, 1) := by decide +kernel
theorem d_CB_keepAhead_29 : decode m_CB_keepAhead.2.1 29 = .ok (.getfield 12, 3) := by decide +kernel
theorem d_CB_keepAhead_32 : decode m_CB_keepAhead.2.1 32 = .ok (.getfield 213, 3) := by decide +kernel
theorem d_CB_keepAhead_35 : decode m_CB_keepAhead.2.1 35 = .ok (.invokevirtual 389, 3) := by decide +kernel
theorem d_CB_keepAhead_38 : decode m_CB_keepAhead.2.1 38 = .ok (.return_, 1) := by decide +kernel
theorem d_CB_endRun_0 : decode m_CB_endRun.2.1 0 = .ok (.aload_n 0, 1) := by decide +kernel
theorem d_CB_endRun_1 : decode m_CB_endRun.2.1 1 = .ok (.getfield 386, 3) := by decide +kernel
theorem d_CB_endRun_4 : decode m_CB_endRun.2.1 4 = .ok (.ifCond .lt 15, 3) := by decide +kernel
theorem d_CB_endRun_7 : decode m_CB_endRun.2.1 7 = .ok (.aload_n 0, 1) := by decide +kernel
theorem d_CB_endRun_8 : decode m_CB_endRun.2.1 8 = .ok (.getfield 386, 3) := by decide +kernel
theorem d_CB_endRun_11 : decode m_CB_endRun.2.1 11 = .ok (.aload_n 0, 1) := by decide +kernel
theorem d_CB_endRun_12 : decode m_CB_endRun.2.1 12 = .ok (.getfield 52, 3) := by decide +kernel
theorem d_CB_endRun_15 : decode m_CB_endRun.2.1 15 = .ok (.arraylength, 1) := by decide +kernel
theorem d_CB_endRun_16 : decode m_CB_endRun.2.1 16 = .ok (.if_icmp .lt 5, 3) := by decide +kernel
theorem d_CB_endRun_19 : decode m_CB_endRun.2.1 19 = .ok (.iconst 0, 1) := by decide +kernel
theorem d_CB_endRun_20 : decode m_CB_endRun.2.1 20 = .ok (.ireturn, 1) := by decide +kernel
theorem d_CB_endRun_21 : decode m_CB_endRun.2.1 21 = .ok (.iload_n 1, 1) := by decide +kernel
theorem d_CB_endRun_22 : decode m_CB_endRun.2.1 22 = .ok (.ifCond .ne 38, 3) := by decide +kernel
theorem d_CB_endRun_25 : decode m_CB_endRun.2.1 25 = .ok (.aload_n 0, 1) := by decide +kernel
theorem d_CB_endRun_26 : decode m_CB_endRun.2.1 26 = .ok (.getfield 12, 3) := by decide +kernel
theorem d_CB_endRun_29 : decode m_CB_endRun.2.1 29 = .ok (.getfield 213, 3) := by decide +kernel
theorem d_CB_endRun_32 : decode m_CB_endRun.2.1 32 = .ok (.aload_n 0, 1) := by decide +kernel
theorem d_CB_endRun_33 : decode m_CB_endRun.2.1 33 = .ok (.getfield 52, 3) := by decide +kernel
theorem d_CB_endRun_36 : decode m_CB_endRun.2.1 36 = .ok (.aload_n 0, 1) := by decide +kernel
theorem d_CB_endRun_37 : decode m_CB_endRun.2.1 37 = .ok (.getfield 386, 3) := by decide +kernel
theorem d_CB_endRun_40 : decode m_CB_endRun.2.1 40 = .ok (.aaload, 1) := by decide +kernel
theorem d_CB_endRun_41 : decode m_CB_endRun.2.1 41 = .ok (.invokevirtual 389, 3) := by decide +kernel
theorem d_CB_endRun_44 : decode m_CB_endRun.2.1 44 = .ok (.aload_n 0, 1) := by decide +kernel
theorem d_CB_endRun_45 : decode m_CB_endRun.2.1 45 = .ok (.getfield 28, 3) := by decide +kernel
theorem d_CB_endRun_48 : decode m_CB_endRun.2.1 48 = .ok (.aload_n 0, 1) := by decide +kernel
theorem d_CB_endRun_49 : decode m_CB_endRun.2.1 49 = .ok (.getfield 12, 3) := by decide +kernel
theorem d_CB_endRun_52 : decode m_CB_endRun.2.1 52 = .ok (.getfield 396, 3) := by decide +kernel
theorem d_CB_endRun_55 : decode m_CB_endRun.2.1 55 = .ok (.invokevirtual 399, 3) := by decide +kernel
theorem d_CB_endRun_58 : decode m_CB_endRun.2.1 58 = .ok (.iconst 0, 1) := by decide +kernel
theorem d_CB_endRun_59 : decode m_CB_endRun.2.1 59 = .ok (.ireturn, 1) := by decide +kernel
theorem d_CB_endRun_60 : decode m_CB_endRun.2.1 60 = .ok (.aload_n 0, 1) := by decide +kernel
theorem d_CB_endRun_61 : decode m_CB_endRun.2.1 61 = .ok (.getfield 28, 3) := by decide +kernel
theorem d_CB_endRun_64 : decode m_CB_endRun.2.1 64 = .ok (.invokevirtual 393, 3) := by decide +kernel
theorem d_CB_endRun_67 : decode m_CB_endRun.2.1 67 = .ok (.aload_n 0, 1) := by decide +kernel
theorem d_CB_endRun_68 : decode m_CB_endRun.2.1 68 = .ok (.getfield 386, 3) := by decide +kernel
theorem d_CB_endRun_71 : decode m_CB_endRun.2.1 71 = .ok (.iconst 5, 1) := by decide +kernel
theorem d_CB_endRun_72 : decode m_CB_endRun.2.1 72 = .ok (.if_icmp .ge 16, 3) := by decide +kernel
theorem d_CB_endRun_75 : decode m_CB_endRun.2.1 75 = .ok (.aload_n 0, 1) := by decide +kernel
theorem d_CB_endRun_76 : decode m_CB_endRun.2.1 76 = .ok (.dup, 1) := by decide +kernel
theorem d_CB_endRun_77 : decode m_CB_endRun.2.1 77 = .ok (.getfield 386, 3) := by decide +kernel
theorem d_CB_endRun_80 : decode m_CB_endRun.2.1 80 = .ok (.iconst 1, 1) := by decide +kernel
theorem d_CB_endRun_81 : decode m_CB_endRun.2.1 81 = .ok (.iadd, 1) := by decide +kernel
theorem d_CB_endRun_82 : decode m_CB_endRun.2.1 82 = .ok (.putfield 386, 3) := by decide +kernel
theorem d_CB_endRun_85 : decode m_CB_endRun.2.1 85 = .ok (.goto 7, 3) := by decide +kernel
theorem d_CB_endRun_88 : decode m_CB_endRun.2.1 88 = .ok (.aload_n 0, 1) := by decide +kernel
theorem d_CB_endRun_89 : decode m_CB_endRun.2.1 89 = .ok (.invokevirtual 407, 3) := by decide +kernel
theorem d_CB_endRun_92 : decode m_CB_endRun.2.1 92 = .ok (.iconst 1, 1) := by decide +kernel
theorem d_CB_endRun_93 : decode m_CB_endRun.2.1 93 = .ok (.ireturn, 1) := by decide +kernel
theorem d_CB_forgetOldest_0 : decode m_CB_forgetOldest.2.1 0 = .ok (.aload_n 0, 1) := by decide +kernel
theorem d_CB_forgetOldest_1 : decode m_CB_forgetOldest.2.1 1 = .ok (.getfield 52, 3) := by decide +kernel
theorem d_CB_forgetOldest_4 : decode m_CB_forgetOldest.2.1 4 = .ok (.iconst 0, 1) := by decide +kernel
theorem d_CB_forgetOldest_5 : decode m_CB_forgetOldest.2.1 5 = .ok (.aaload, 1) := by decide +kernel
theorem d_CB_forgetOldest_6 : decode m_CB_forgetOldest.2.1 6 = .ok (.astore_n 1, 1) := by decide +kernel
theorem d_CB_forgetOldest_7 : decode m_CB_forgetOldest.2.1 7 = .ok (.iconst 1, 1) := by decide +kernel
theorem d_CB_forgetOldest_8 : decode m_CB_forgetOldest.2.1 8 = .ok (.istore_n 2, 1) := by decide +kernel
theorem d_CB_forgetOldest_9 : decode m_CB_forgetOldest.2.1 9 = .ok (.iload_n 2, 1) := by decide +kernel
theorem d_CB_forgetOldest_10 : decode m_CB_forgetOldest.2.1 10 = .ok (.aload_n 0, 1) := by decide +kernel
theorem d_CB_forgetOldest_11 : decode m_CB_forgetOldest.2.1 11 = .ok (.getfield 52, 3) := by decide +kernel
theorem d_CB_forgetOldest_14 : decode m_CB_forgetOldest.2.1 14 = .ok (.arraylength, 1) := by decide +kernel
theorem d_CB_forgetOldest_15 : decode m_CB_forgetOldest.2.1 15 = .ok (.if_icmp .ge 23, 3) := by decide +kernel
theorem d_CB_forgetOldest_18 : decode m_CB_forgetOldest.2.1 18 = .ok (.aload_n 0, 1) := by decide +kernel
theorem d_CB_forgetOldest_19 : decode m_CB_forgetOldest.2.1 19 = .ok (.getfield 52, 3) := by decide +kernel
theorem d_CB_forgetOldest_22 : decode m_CB_forgetOldest.2.1 22 = .ok (.iload_n 2, 1) := by decide +kernel
theorem d_CB_forgetOldest_23 : decode m_CB_forgetOldest.2.1 23 = .ok (.iconst 1, 1) := by decide +kernel
theorem d_CB_forgetOldest_24 : decode m_CB_forgetOldest.2.1 24 = .ok (.isub, 1) := by decide +kernel
theorem d_CB_forgetOldest_25 : decode m_CB_forgetOldest.2.1 25 = .ok (.aload_n 0, 1) := by decide +kernel
theorem d_CB_forgetOldest_26 : decode m_CB_forgetOldest.2.1 26 = .ok (.getfield 52, 3) := by decide +kernel
theorem d_CB_forgetOldest_29 : decode m_CB_forgetOldest.2.1 29 = .ok (.iload_n 2, 1) := by decide +kernel
theorem d_CB_forgetOldest_30 : decode m_CB_forgetOldest.2.1 30 = .ok (.aaload, 1) := by decide +kernel
theorem d_CB_forgetOldest_31 : decode m_CB_forgetOldest.2.1 31 = .ok (.aastore, 1) := by decide +kernel
theorem d_CB_forgetOldest_32 : decode m_CB_forgetOldest.2.1 32 = .ok (.iinc 2 1, 3) := by decide +kernel
theorem d_CB_forgetOldest_35 : decode m_CB_forgetOldest.2.1 35 = .ok (.goto (-26), 3) := by decide +kernel
theorem d_CB_forgetOldest_38 : decode m_CB_forgetOldest.2.1 38 = .ok (.aload_n 0, 1) := by decide +kernel
theorem d_CB_forgetOldest_39 : decode m_CB_forgetOldest.2.1 39 = .ok (.getfield 52, 3) := by decide +kernel
theorem d_CB_forgetOldest_42 : decode m_CB_forgetOldest.2.1 42 = .ok (.aload_n 0, 1) := by decide +kernel
theorem d_CB_forgetOldest_43 : decode m_CB_forgetOldest.2.1 43 = .ok (.getfield 52, 3) := by decide +kernel
theorem d_CB_forgetOldest_46 : decode m_CB_forgetOldest.2.1 46 = .ok (.arraylength, 1) := by decide +kernel
theorem d_CB_forgetOldest_47 : decode m_CB_forgetOldest.2.1 47 = .ok (.iconst 1, 1) := by decide +kernel
theorem d_CB_forgetOldest_48 : decode m_CB_forgetOldest.2.1 48 = .ok (.isub, 1) := by decide +kernel
theorem d_CB_forgetOldest_49 : decode m_CB_forgetOldest.2.1 49 = .ok (.aload_n 1, 1) := by decide +kernel
theorem d_CB_forgetOldest_50 : decode m_CB_forgetOldest.2.1 50 = .ok (.aastore, 1) := by decide +kernel
theorem d_CB_forgetOldest_51 : decode m_CB_forgetOldest.2.1 51 = .ok (.return_, 1) := by decide +kernel
theorem d_CB_wantTable_0 : decode m_CB_wantTable.2.1 0 = .ok (.aload_n 0, 1) := by decide +kernel
theorem d_CB_wantTable_1 : decode m_CB_wantTable.2.1 1 = .ok (.getfield 12, 3) := by decide +kernel
theorem d_CB_wantTable_4 : decode m_CB_wantTable.2.1 4 = .ok (.iload_n 1, 1) := by decide +kernel
theorem d_CB_wantTable_5 : decode m_CB_wantTable.2.1 5 = .ok (.invokevirtual 402, 3) := by decide +kernel
theorem d_CB_wantTable_8 : decode m_CB_wantTable.2.1 8 = .ok (.ifCond .ne 11, 3) := by decide +kernel
theorem d_CB_wantTable_11 : decode m_CB_wantTable.2.1 11 = .ok (.new 178, 3) := by decide +kernel
theorem d_CB_wantTable_14 : decode m_CB_wantTable.2.1 14 = .ok (.dup, 1) := by decide +kernel
theorem d_CB_wantTable_15 : decode m_CB_wantTable.2.1 15 = .ok (.invokespecial 180, 3) := by decide +kernel
theorem d_CB_wantTable_18 : decode m_CB_wantTable.2.1 18 = .ok (.athrow, 1) := by decide +kernel
theorem d_CB_wantTable_19 : decode m_CB_wantTable.2.1 19 = .ok (.return_, 1) := by decide +kernel
theorem d_CB_wantColumn_0 : decode m_CB_wantColumn.2.1 0 = .ok (.aload_n 0, 1) := by decide +kernel
theorem d_CB_wantColumn_1 : decode m_CB_wantColumn.2.1 1 = .ok (.getfield 12, 3) := by decide +kernel
theorem d_CB_wantColumn_4 : decode m_CB_wantColumn.2.1 4 = .ok (.iload_n 1, 1) := by decide +kernel
theorem d_CB_wantColumn_5 : decode m_CB_wantColumn.2.1 5 = .ok (.iload_n 2, 1) := by decide +kernel
theorem d_CB_wantColumn_6 : decode m_CB_wantColumn.2.1 6 = .ok (.invokevirtual 410, 3) := by decide +kernel
theorem d_CB_wantColumn_9 : decode m_CB_wantColumn.2.1 9 = .ok (.ifCond .ne 11, 3) := by decide +kernel
theorem d_CB_wantColumn_12 : decode m_CB_wantColumn.2.1 12 = .ok (.new 178, 3) := by decide +kernel
theorem d_CB_wantColumn_15 : decode m_CB_wantColumn.2.1 15 = .ok (.dup, 1) := by decide +kernel
theorem d_CB_wantColumn_16 : decode m_CB_wantColumn.2.1 16 = .ok (.invokespecial 180, 3) := by decide +kernel
theorem d_CB_wantColumn_19 : decode m_CB_wantColumn.2.1 19 = .ok (.athrow, 1) := by decide +kernel
theorem d_CB_wantColumn_20 : decode m_CB_wantColumn.2.1 20 = .ok (.return_, 1) := by decide +kernel
theorem d_CB_wantRow_0 : decode m_CB_wantRow.2.1 0 = .ok (.aload_n 0, 1) := by decide +kernel
theorem d_CB_wantRow_1 : decode m_CB_wantRow.2.1 1 = .ok (.getfield 12, 3) := by decide +kernel
theorem d_CB_wantRow_4 : decode m_CB_wantRow.2.1 4 = .ok (.iload_n 1, 1) := by decide +kernel
theorem d_CB_wantRow_5 : decode m_CB_wantRow.2.1 5 = .ok (.invokevirtual 402, 3) := by decide +kernel
theorem d_CB_wantRow_8 : decode m_CB_wantRow.2.1 8 = .ok (.ifCond .eq 18, 3) := by decide +kernel
theorem d_CB_wantRow_11 : decode m_CB_wantRow.2.1 11 = .ok (.aload_n 0, 1) := by decide +kernel
theorem d_CB_wantRow_12 : decode m_CB_wantRow.2.1 12 = .ok (.getfield 12, 3) := by decide +kernel
theorem d_CB_wantRow_15 : decode m_CB_wantRow.2.1 15 = .ok (.getfield 213, 3) := by decide +kernel
theorem d_CB_wantRow_18 : decode m_CB_wantRow.2.1 18 = .ok (.iload_n 1, 1) := by decide +kernel
theorem d_CB_wantRow_19 : decode m_CB_wantRow.2.1 19 = .ok (.iload_n 2, 1) := by decide +kernel
theorem d_CB_wantRow_20 : decode m_CB_wantRow.2.1 20 = .ok (.invokevirtual 257, 3) := by decide +kernel
theorem d_CB_wantRow_23 : decode m_CB_wantRow.2.1 23 = .ok (.ifCond .ne 11, 3) := by decide +kernel
theorem d_CB_wantRow_26 : decode m_CB_wantRow.2.1 26 = .ok (.new 178, 3) := by decide +kernel
theorem d_CB_wantRow_29 : decode m_CB_wantRow.2.1 29 = .ok (.dup, 1) := by decide +kernel
theorem d_CB_wantRow_30 : decode m_CB_wantRow.2.1 30 = .ok (.invokespecial 180, 3) := by decide +kernel
theorem d_CB_wantRow_33 : decode m_CB_wantRow.2.1 33 = .ok (.athrow, 1) := by decide +kernel
theorem d_CB_wantRow_34 : decode m_CB_wantRow.2.1 34 = .ok (.return_, 1) := by decide +kernel
theorem d_CB_wantColumnPlace_0 : decode m_CB_wantColumnPlace.2.1 0 = .ok (.aload_n 0, 1) := by decide +kernel
theorem d_CB_wantColumnPlace_1 : decode m_CB_wantColumnPlace.2.1 1 = .ok (.getfield 12, 3) := by decide +kernel
theorem d_CB_wantColumnPlace_4 : decode m_CB_wantColumnPlace.2.1 4 = .ok (.iload_n 1, 1) := by decide +kernel
theorem d_CB_wantColumnPlace_5 : decode m_CB_wantColumnPlace.2.1 5 = .ok (.invokevirtual 413, 3) := by decide +kernel
theorem d_CB_wantColumnPlace_8 : decode m_CB_wantColumnPlace.2.1 8 = .ok (.bipush 6, 2) := by decide +kernel
theorem d_CB_wantColumnPlace_10 : decode m_CB_wantColumnPlace.2.1 10 = .ok (.if_icmp .lt 11, 3) := by decide +kernel
theorem d_CB_wantColumnPlace_13 : decode m_CB_wantColumnPlace.2.1 13 = .ok (.new 64, 3) := by decide +kernel
theorem d_CB_wantColumnPlace_16 : decode m_CB_wantColumnPlace.2.1 16 = .ok (.dup, 1) := by decide +kernel
theorem d_CB_wantColumnPlace_17 : decode m_CB_wantColumnPlace.2.1 17 = .ok (.invokespecial 66, 3) := by decide +kernel
theorem d_CB_wantColumnPlace_20 : decode m_CB_wantColumnPlace.2.1 20 = .ok (.athrow, 1) := by decide +kernel
theorem d_CB_wantColumnPlace_21 : decode m_CB_wantColumnPlace.2.1 21 = .ok (.return_, 1) := by decide +kernel
theorem d_CB_wantRange_0 : decode m_CB_wantRange.2.1 0 = .ok (.iload_n 1, 1) := by decide +kernel
theorem d_CB_wantRange_1 : decode m_CB_wantRange.2.1 1 = .ok (.sipush (-9999), 3) := by decide +kernel
theorem d_CB_wantRange_4 : decode m_CB_wantRange.2.1 4 = .ok (.if_icmp .lt 15, 3) := by decide +kernel
theorem d_CB_wantRange_7 : decode m_CB_wantRange.2.1 7 = .ok (.iload_n 2, 1) := by decide +kernel
theorem d_CB_wantRange_8 : decode m_CB_wantRange.2.1 8 = .ok (.sipush 9999, 3) := by decide +kernel
theorem d_CB_wantRange_11 : decode m_CB_wantRange.2.1 11 = .ok (.if_icmp .gt 8, 3) := by decide +kernel
theorem d_CB_wantRange_14 : decode m_CB_wantRange.2.1 14 = .ok (.iload_n 1, 1) := by decide +kernel
theorem d_CB_wantRange_15 : decode m_CB_wantRange.2.1 15 = .ok (.iload_n 2, 1) := by decide +kernel
theorem d_CB_wantRange_16 : decode m_CB_wantRange.2.1 16 = .ok (.if_icmp .le 11, 3) := by decide +kernel
theorem d_CB_wantRange_19 : decode m_CB_wantRange.2.1 19 = .ok (.new 111, 3) := by decide +kernel
theorem d_CB_wantRange_22 : decode m_CB_wantRange.2.1 22 = .ok (.dup, 1) := by decide +kernel
theorem d_CB_wantRange_23 : decode m_CB_wantRange.2.1 23 = .ok (.invokespecial 113, 3) := by decide +kernel
theorem d_CB_wantRange_26 : decode m_CB_wantRange.2.1 26 = .ok (.athrow, 1) := by decide +kernel
theorem d_CB_wantRange_27 : decode m_CB_wantRange.2.1 27 = .ok (.return_, 1) := by decide +kernel
theorem d_CB_wantValue_0 : decode m_CB_wantValue.2.1 0 = .ok (.iload_n 1, 1) := by decide +kernel
theorem d_CB_wantValue_1 : decode m_CB_wantValue.2.1 1 = .ok (.ldc 36, 2) := by decide +kernel
theorem d_CB_wantValue_3 : decode m_CB_wantValue.2.1 3 = .ok (.if_icmp .eq 25, 3) := by decide +kernel
theorem d_CB_wantValue_6 : decode m_CB_wantValue.2.1 6 = .ok (.iload_n 1, 1) := by decide +kernel
theorem d_CB_wantValue_7 : decode m_CB_wantValue.2.1 7 = .ok (.sipush (-9999), 3) := by decide +kernel
theorem d_CB_wantValue_10 : decode m_CB_wantValue.2.1 10 = .ok (.if_icmp .lt 10, 3) := by decide +kernel
theorem d_CB_wantValue_13 : decode m_CB_wantValue.2.1 13 = .ok (.iload_n 1, 1) := by decide +kernel
theorem d_CB_wantValue_14 : decode m_CB_wantValue.2.1 14 = .ok (.sipush 9999, 3) := by decide +kernel
theorem d_CB_wantValue_17 : decode m_CB_wantValue.2.1 17 = .ok (.if_icmp .le 11, 3) := by decide +kernel
theorem d_CB_wantValue_20 : decode m_CB_wantValue.2.1 20 = .ok (.new 111, 3) := by decide +kernel
theorem d_CB_wantValue_23 : decode m_CB_wantValue.2.1 23 = .ok (.dup, 1) := by decide +kernel
theorem d_CB_wantValue_24 : decode m_CB_wantValue.2.1 24 = .ok (.invokespecial 113, 3) := by decide +kernel
theorem d_CB_wantValue_27 : decode m_CB_wantValue.2.1 27 = .ok (.athrow, 1) := by decide +kernel
theorem d_CB_wantValue_28 : decode m_CB_wantValue.2.1 28 = .ok (.return_, 1) := by decide +kernel
theorem d_CB_wantRemoval_0 : decode m_CB_wantRemoval.2.1 0 = .ok (.iload_n 1, 1) := by decide +kernel
theorem d_CB_wantRemoval_1 : decode m_CB_wantRemoval.2.1 1 = .ok (.ifCond .lt 8, 3) := by decide +kernel
theorem d_CB_wantRemoval_4 : decode m_CB_wantRemoval.2.1 4 = .ok (.iload_n 1, 1) := by decide +kernel
theorem d_CB_wantRemoval_5 : decode m_CB_wantRemoval.2.1 5 = .ok (.iconst 2, 1) := by decide +kernel
theorem d_CB_wantRemoval_6 : decode m_CB_wantRemoval.2.1 6 = .ok (.if_icmp .le 11, 3) := by decide +kernel
theorem d_CB_wantRemoval_9 : decode m_CB_wantRemoval.2.1 9 = .ok (.new 111, 3) := by decide +kernel
theorem d_CB_wantRemoval_12 : decode m_CB_wantRemoval.2.1 12 = .ok (.dup, 1) := by decide +kernel
theorem d_CB_wantRemoval_13 : decode m_CB_wantRemoval.2.1 13 = .ok (.invokespecial 113, 3) := by decide +kernel
theorem d_CB_wantRemoval_16 : decode m_CB_wantRemoval.2.1 16 = .ok (.athrow, 1) := by decide +kernel
theorem d_CB_wantRemoval_17 : decode m_CB_wantRemoval.2.1 17 = .ok (.return_, 1) := by decide +kernel
theorem d_CB_wantNotDropped_0 : decode m_CB_wantNotDropped.2.1 0 = .ok (.aload_n 0, 1) := by decide +kernel
theorem d_CB_wantNotDropped_1 : decode m_CB_wantNotDropped.2.1 1 = .ok (.getfield 12, 3) := by decide +kernel
theorem d_CB_wantNotDropped_4 : decode m_CB_wantNotDropped.2.1 4 = .ok (.iload_n 1, 1) := by decide +kernel
theorem d_CB_wantNotDropped_5 : decode m_CB_wantNotDropped.2.1 5 = .ok (.iload_n 2, 1) := by decide +kernel
theorem d_CB_wantNotDropped_6 : decode m_CB_wantNotDropped.2.1 6 = .ok (.invokevirtual 102, 3) := by decide +kernel
theorem d_CB_wantNotDropped_9 : decode m_CB_wantNotDropped.2.1 9 = .ok (.getfield 106, 3) := by decide +kernel
theorem d_CB_wantNotDropped_12 : decode m_CB_wantNotDropped.2.1 12 = .ok (.ifCond .ne 11, 3) := by decide +kernel
theorem d_CB_wantNotDropped_15 : decode m_CB_wantNotDropped.2.1 15 = .ok (.new 111, 3) := by decide +kernel
theorem d_CB_wantNotDropped_18 : decode m_CB_wantNotDropped.2.1 18 = .ok (.dup, 1) := by decide +kernel
theorem d_CB_wantNotDropped_19 : decode m_CB_wantNotDropped.2.1 19 = .ok (.invokespecial 113, 3) := by decide +kernel
theorem d_CB_wantNotDropped_22 : decode m_CB_wantNotDropped.2.1 22 = .ok (.athrow, 1) := by decide +kernel
theorem d_CB_wantNotDropped_23 : decode m_CB_wantNotDropped.2.1 23 = .ok (.return_, 1) := by decide +kernel
theorem d_CB_wantStored_0 : decode m_CB_wantStored.2.1 0 = .ok (.aload_n 0, 1) := by decide +kernel
theorem d_CB_wantStored_1 : decode m_CB_wantStored.2.1 1 = .ok (.getfield 12, 3) := by decide +kernel
theorem d_CB_wantStored_4 : decode m_CB_wantStored.2.1 4 = .ok (.iload_n 1, 1) := by decide +kernel
theorem d_CB_wantStored_5 : decode m_CB_wantStored.2.1 5 = .ok (.iload_n 2, 1) := by decide +kernel
theorem d_CB_wantStored_6 : decode m_CB_wantStored.2.1 6 = .ok (.invokevirtual 102, 3) := by decide +kernel
theorem d_CB_wantStored_9 : decode m_CB_wantStored.2.1 9 = .ok (.invokevirtual 414, 3) := by decide +kernel
theorem d_CB_wantStored_12 : decode m_CB_wantStored.2.1 12 = .ok (.ifCond .ne 11, 3) := by decide +kernel
theorem d_CB_wantStored_15 : decode m_CB_wantStored.2.1 15 = .ok (.new 111, 3) := by decide +kernel
theorem d_CB_wantStored_18 : decode m_CB_wantStored.2.1 18 = .ok (.dup, 1) := by decide +kernel
theorem d_CB_wantStored_19 : decode m_CB_wantStored.2.1 19 = .ok (.invokespecial 113, 3) := by decide +kernel
theorem d_CB_wantStored_22 : decode m_CB_wantStored.2.1 22 = .ok (.athrow, 1) := by decide +kernel
theorem d_CB_wantStored_23 : decode m_CB_wantStored.2.1 23 = .ok (.return_, 1) := by decide +kernel
theorem d_CB_wantNumberColumn_0 : decode m_CB_wantNumberColumn.2.1 0 = .ok (.aload_n 0, 1) := by decide +kernel
theorem d_CB_wantNumberColumn_1 : decode m_CB_wantNumberColumn.2.1 1 = .ok (.getfield 12, 3) := by decide +kernel
theorem d_CB_wantNumberColumn_4 : decode m_CB_wantNumberColumn.2.1 4 = .ok (.iload_n 1, 1) := by decide +kernel
theorem d_CB_wantNumberColumn_5 : decode m_CB_wantNumberColumn.2.1 5 = .ok (.iload_n 2, 1) := by decide +kernel
theorem d_CB_wantNumberColumn_6 : decode m_CB_wantNumberColumn.2.1 6 = .ok (.invokevirtual 102, 3) := by decide +kernel
theorem d_CB_wantNumberColumn_9 : decode m_CB_wantNumberColumn.2.1 9 = .ok (.getfield 106, 3) := by decide +kernel
theorem d_CB_wantNumberColumn_12 : decode m_CB_wantNumberColumn.2.1 12 = .ok (.iconst 1, 1) := by decide +kernel
theorem d_CB_wantNumberColumn_13 : decode m_CB_wantNumberColumn.2.1 13 = .ok (.if_icmp .eq 11, 3) := by decide +kernel
theorem d_CB_wantNumberColumn_16 : decode m_CB_wantNumberColumn.2.1 16 = .ok (.new 111, 3) := by decide +kernel
theorem d_CB_wantNumberColumn_19 : decode m_CB_wantNumberColumn.2.1 19 = .ok (.dup, 1) := by decide +kernel
theorem d_CB_wantNumberColumn_20 : decode m_CB_wantNumberColumn.2.1 20 = .ok (.invokespecial 113, 3) := by decide +kernel
theorem d_CB_wantNumberColumn_23 : decode m_CB_wantNumberColumn.2.1 23 = .ok (.athrow, 1) := by decide +kernel
theorem d_CB_wantNumberColumn_24 : decode m_CB_wantNumberColumn.2.1 24 = .ok (.return_, 1) := by decide +kernel
theorem d_CB_wantLink_0 : decode m_CB_wantLink.2.1 0 = .ok (.aload_n 0, 1) := by decide +kernel
theorem d_CB_wantLink_1 : decode m_CB_wantLink.2.1 1 = .ok (.getfield 12, 3) := by decide +kernel
theorem d_CB_wantLink_4 : decode m_CB_wantLink.2.1 4 = .ok (.iload_n 1, 1) := by decide +kernel
theorem d_CB_wantLink_5 : decode m_CB_wantLink.2.1 5 = .ok (.iload_n 2, 1) := by decide +kernel
theorem d_CB_wantLink_6 : decode m_CB_wantLink.2.1 6 = .ok (.invokevirtual 102, 3) := by decide +kernel
theorem d_CB_wantLink_9 : decode m_CB_wantLink.2.1 9 = .ok (.getfield 106, 3) := by decide +kernel
theorem d_CB_wantLink_12 : decode m_CB_wantLink.2.1 12 = .ok (.iconst 2, 1) := by decide +kernel
theorem d_CB_wantLink_13 : decode m_CB_wantLink.2.1 13 = .ok (.if_icmp .eq 11, 3) := by decide +kernel
theorem d_CB_wantLink_16 : decode m_CB_wantLink.2.1 16 = .ok (.new 111, 3) := by decide +kernel
theorem d_CB_wantLink_19 : decode m_CB_wantLink.2.1 19 = .ok (.dup, 1) := by decide +kernel
theorem d_CB_wantLink_20 : decode m_CB_wantLink.2.1 20 = .ok (.invokespecial 113, 3) := by decide +kernel
theorem d_CB_wantLink_23 : decode m_CB_wantLink.2.1 23 = .ok (.athrow, 1) := by decide +kernel
theorem d_CB_wantLink_24 : decode m_CB_wantLink.2.1 24 = .ok (.return_, 1) := by decide +kernel
theorem d_CB_wantLinkTo_0 : decode m_CB_wantLinkTo.2.1 0 = .ok (.aload_n 0, 1) := by decide +kernel
theorem d_CB_wantLinkTo_1 : decode m_CB_wantLinkTo.2.1 1 = .ok (.iload_n 1, 1) := by decide +kernel
theorem d_CB_wantLinkTo_2 : decode m_CB_wantLinkTo.2.1 2 = .ok (.iload_n 2, 1) := by decide +kernel
theorem d_CB_wantLinkTo_3 : decode m_CB_wantLinkTo.2.1 3 = .ok (.invokevirtual 162, 3) := by decide +kernel
theorem d_CB_wantLinkTo_6 : decode m_CB_wantLinkTo.2.1 6 = .ok (.aload_n 0, 1) := by decide +kernel
theorem d_CB_wantLinkTo_7 : decode m_CB_wantLinkTo.2.1 7 = .ok (.getfield 12, 3) := by decide +kernel
theorem d_CB_wantLinkTo_10 : decode m_CB_wantLinkTo.2.1 10 = .ok (.iload_n 1, 1) := by decide +kernel
theorem d_CB_wantLinkTo_11 : decode m_CB_wantLinkTo.2.1 11 = .ok (.iload_n 2, 1) := by decide +kernel
theorem d_CB_wantLinkTo_12 : decode m_CB_wantLinkTo.2.1 12 = .ok (.invokevirtual 102, 3) := by decide +kernel
theorem d_CB_wantLinkTo_15 : decode m_CB_wantLinkTo.2.1 15 = .ok (.getfield 254, 3) := by decide +kernel
theorem d_CB_wantLinkTo_18 : decode m_CB_wantLinkTo.2.1 18 = .ok (.iload_n 3, 1) := by decide +kernel
theorem d_CB_wantLinkTo_19 : decode m_CB_wantLinkTo.2.1 19 = .ok (.if_icmp .eq 11, 3) := by decide +kernel
theorem d_CB_wantLinkTo_22 : decode m_CB_wantLinkTo.2.1 22 = .ok (.new 111, 3) := by decide +kernel
theorem d_CB_wantLinkTo_25 : decode m_CB_wantLinkTo.2.1 25 = .ok (.dup, 1) := by decide +kernel
theorem d_CB_wantLinkTo_26 : decode m_CB_wantLinkTo.2.1 26 = .ok (.invokespecial 113, 3) := by decide +kernel
theorem d_CB_wantLinkTo_29 : decode m_CB_wantLinkTo.2.1 29 = .ok (.athrow, 1) := by decide +kernel
theorem d_CB_wantLinkTo_30 : decode m_CB_wantLinkTo.2.1 30 = .ok (.return_, 1) := by decide +kernel
theorem d_CB_wantLinkCode_0 : decode m_CB_wantLinkCode.2.1 0 = .ok (.iload_n 1, 1) := by decide +kernel
theorem d_CB_wantLinkCode_1 : decode m_CB_wantLinkCode.2.1 1 = .ok (.ifCond .ge 11, 3) := by decide +kernel
theorem d_CB_wantLinkCode_4 : decode m_CB_wantLinkCode.2.1 4 = .ok (.new 111, 3) := by decide +kernel
theorem d_CB_wantLinkCode_7 : decode m_CB_wantLinkCode.2.1 7 = .ok (.dup, 1) := by decide +kernel
theorem d_CB_wantLinkCode_8 : decode m_CB_wantLinkCode.2.1 8 = .ok (.invokespecial 113, 3) := by decide +kernel
theorem d_CB_wantLinkCode_11 : decode m_CB_wantLinkCode.2.1 11 = .ok (.athrow, 1) := by decide +kernel
theorem d_CB_wantLinkCode_12 : decode m_CB_wantLinkCode.2.1 12 = .ok (.aload_n 0, 1) := by decide +kernel
theorem d_CB_wantLinkCode_13 : decode m_CB_wantLinkCode.2.1 13 = .ok (.iload_n 1, 1) := by decide +kernel
theorem d_CB_wantLinkCode_14 : decode m_CB_wantLinkCode.2.1 14 = .ok (.bipush 10, 2) := by decide +kernel
theorem d_CB_wantLinkCode_16 : decode m_CB_wantLinkCode.2.1 16 = .ok (.idiv, 1) := by decide +kernel
theorem d_CB_wantLinkCode_17 : decode m_CB_wantLinkCode.2.1 17 = .ok (.iload_n 1, 1) := by decide +kernel
theorem d_CB_wantLinkCode_18 : decode m_CB_wantLinkCode.2.1 18 = .ok (.bipush 10, 2) := by decide +kernel
theorem d_CB_wantLinkCode_20 : decode m_CB_wantLinkCode.2.1 20 = .ok (.irem, 1) := by decide +kernel
theorem d_CB_wantLinkCode_21 : decode m_CB_wantLinkCode.2.1 21 = .ok (.invokevirtual 162, 3) := by decide +kernel
theorem d_CB_wantLinkCode_24 : decode m_CB_wantLinkCode.2.1 24 = .ok (.return_, 1) := by decide +kernel
theorem d_CB_wantFormula_0 : decode m_CB_wantFormula.2.1 0 = .ok (.iload_n 2, 1) := by decide +kernel
theorem d_CB_wantFormula_1 : decode m_CB_wantFormula.2.1 1 = .ok (.tableswitch 71 0 4 #[35, 35, 46, 57, 57], 35) := by decide +kernel
theorem d_CB_wantFormula_36 : decode m_CB_wantFormula.2.1 36 = .ok (.aload_n 0, 1) := by decide +kernel
theorem d_CB_wantFormula_37 : decode m_CB_wantFormula.2.1 37 = .ok (.iload_n 1, 1) := by decide +kernel
theorem d_CB_wantFormula_38 : decode m_CB_wantFormula.2.1 38 = .ok (.iload_n 3, 1) := by decide +kernel
theorem d_CB_wantFormula_39 : decode m_CB_wantFormula.2.1 39 = .ok (.iload 4, 2) := by decide +kernel
theorem d_CB_wantFormula_41 : decode m_CB_wantFormula.2.1 41 = .ok (.invokevirtual 416, 3) := by decide +kernel
theorem d_CB_wantFormula_44 : decode m_CB_wantFormula.2.1 44 = .ok (.goto 36, 3) := by decide +kernel
theorem d_CB_wantFormula_47 : decode m_CB_wantFormula.2.1 47 = .ok (.aload_n 0, 1) := by decide +kernel
theorem d_CB_wantFormula_48 : decode m_CB_wantFormula.2.1 48 = .ok (.iload_n 1, 1) := by decide +kernel
theorem d_CB_wantFormula_49 : decode m_CB_wantFormula.2.1 49 = .ok (.iload_n 3, 1) := by decide +kernel
theorem d_CB_wantFormula_50 : decode m_CB_wantFormula.2.1 50 = .ok (.iload 4, 2) := by decide +kernel
theorem d_CB_wantFormula_52 : decode m_CB_wantFormula.2.1 52 = .ok (.invokevirtual 419, 3) := by decide +kernel
theorem d_CB_wantFormula_55 : decode m_CB_wantFormula.2.1 55 = .ok (.goto 25, 3) := by decide +kernel
theorem d_CB_wantFormula_58 : decode m_CB_wantFormula.2.1 58 = .ok (.aload_n 0, 1) := by decide +kernel
theorem d_CB_wantFormula_59 : decode m_CB_wantFormula.2.1 59 = .ok (.iload_n 1, 1) := by decide +kernel
theorem d_CB_wantFormula_60 : decode m_CB_wantFormula.2.1 60 = .ok (.iload_n 2, 1) := by decide +kernel
theorem d_CB_wantFormula_61 : decode m_CB_wantFormula.2.1 61 = .ok (.iload_n 3, 1) := by decide +kernel
theorem d_CB_wantFormula_62 : decode m_CB_wantFormula.2.1 62 = .ok (.iload 4, 2) := by decide +kernel
theorem d_CB_wantFormula_64 : decode m_CB_wantFormula.2.1 64 = .ok (.iload 5, 2) := by decide +kernel
theorem d_CB_wantFormula_66 : decode m_CB_wantFormula.2.1 66 = .ok (.invokevirtual 422, 3) := by decide +kernel
theorem d_CB_wantFormula_69 : decode m_CB_wantFormula.2.1 69 = .ok (.goto 11, 3) := by decide +kernel
theorem d_CB_wantFormula_72 : decode m_CB_wantFormula.2.1 72 = .ok (.new 111, 3) := by decide +kernel
theorem d_CB_wantFormula_75 : decode m_CB_wantFormula.2.1 75 = .ok (.dup, 1) := by decide +kernel
theorem d_CB_wantFormula_76 : decode m_CB_wantFormula.2.1 76 = .ok (.invokespecial 113, 3) := by decide +kernel
theorem d_CB_wantFormula_79 : decode m_CB_wantFormula.2.1 79 = .ok (.athrow, 1) := by decide +kernel
theorem d_CB_wantFormula_80 : decode m_CB_wantFormula.2.1 80 = .ok (.return_, 1) := by decide +kernel
theorem d_CB_wantPair_0 : decode m_CB_wantPair.2.1 0 = .ok (.aload_n 0, 1) := by decide +kernel
theorem d_CB_wantPair_1 : decode m_CB_wantPair.2.1 1 = .ok (.iload_n 1, 1) := by decide +kernel
theorem d_CB_wantPair_2 : decode m_CB_wantPair.2.1 2 = .ok (.iload_n 2, 1) := by decide +kernel
theorem d_CB_wantPair_3 : decode m_CB_wantPair.2.1 3 = .ok (.invokevirtual 99, 3) := by decide +kernel
theorem d_CB_wantPair_6 : decode m_CB_wantPair.2.1 6 = .ok (.aload_n 0, 1) := by decide +kernel
theorem d_CB_wantPair_7 : decode m_CB_wantPair.2.1 7 = .ok (.iload_n 1, 1) := by decide +kernel
theorem d_CB_wantPair_8 : decode m_CB_wantPair.2.1 8 = .ok (.iload_n 3, 1) := by decide +kernel
theorem d_CB_wantPair_9 : decode m_CB_wantPair.2.1 9 = .ok (.invokevirtual 99, 3) := by decide +kernel
theorem d_CB_wantPair_12 : decode m_CB_wantPair.2.1 12 = .ok (.aload_n 0, 1) := by decide +kernel
theorem d_CB_wantPair_13 : decode m_CB_wantPair.2.1 13 = .ok (.iload_n 1, 1) := by decide +kernel
theorem d_CB_wantPair_14 : decode m_CB_wantPair.2.1 14 = .ok (.iload_n 2, 1) := by decide +kernel
theorem d_CB_wantPair_15 : decode m_CB_wantPair.2.1 15 = .ok (.invokevirtual 147, 3) := by decide +kernel
theorem d_CB_wantPair_18 : decode m_CB_wantPair.2.1 18 = .ok (.aload_n 0, 1) := by decide +kernel
theorem d_CB_wantPair_19 : decode m_CB_wantPair.2.1 19 = .ok (.iload_n 1, 1) := by decide +kernel
theorem d_CB_wantPair_20 : decode m_CB_wantPair.2.1 20 = .ok (.iload_n 3, 1) := by decide +kernel
theorem d_CB_wantPair_21 : decode m_CB_wantPair.2.1 21 = .ok (.invokevirtual 147, 3) := by decide +kernel
theorem d_CB_wantPair_24 : decode m_CB_wantPair.2.1 24 = .ok (.return_, 1) := by decide +kernel
theorem d_CB_wantLook_0 : decode m_CB_wantLook.2.1 0 = .ok (.aload_n 0, 1) := by decide +kernel
theorem d_CB_wantLook_1 : decode m_CB_wantLook.2.1 1 = .ok (.iload_n 1, 1) := by decide +kernel
theorem d_CB_wantLook_2 : decode m_CB_wantLook.2.1 2 = .ok (.iload_n 2, 1) := by decide +kernel
theorem d_CB_wantLook_3 : decode m_CB_wantLook.2.1 3 = .ok (.invokevirtual 99, 3) := by decide +kernel
theorem d_CB_wantLook_6 : decode m_CB_wantLook.2.1 6 = .ok (.aload_n 0, 1) := by decide +kernel
theorem d_CB_wantLook_7 : decode m_CB_wantLook.2.1 7 = .ok (.iload_n 1, 1) := by decide +kernel
theorem d_CB_wantLook_8 : decode m_CB_wantLook.2.1 8 = .ok (.iload_n 2, 1) := by decide +kernel
theorem d_CB_wantLook_9 : decode m_CB_wantLook.2.1 9 = .ok (.invokevirtual 162, 3) := by decide +kernel
theorem d_CB_wantLook_12 : decode m_CB_wantLook.2.1 12 = .ok (.aload_n 0, 1) := by decide +kernel
theorem d_CB_wantLook_13 : decode m_CB_wantLook.2.1 13 = .ok (.getfield 12, 3) := by decide +kernel
theorem d_CB_wantLook_16 : decode m_CB_wantLook.2.1 16 = .ok (.iload_n 1, 1) := by decide +kernel
theorem d_CB_wantLook_17 : decode m_CB_wantLook.2.1 17 = .ok (.iload_n 2, 1) := by decide +kernel
theorem d_CB_wantLook_18 : decode m_CB_wantLook.2.1 18 = .ok (.invokevirtual 102, 3) := by decide +kernel
theorem d_CB_wantLook_21 : decode m_CB_wantLook.2.1 21 = .ok (.getfield 254, 3) := by decide +kernel
theorem d_CB_wantLook_24 : decode m_CB_wantLook.2.1 24 = .ok (.istore 4, 2) := by decide +kernel
theorem d_CB_wantLook_26 : decode m_CB_wantLook.2.1 26 = .ok (.aload_n 0, 1) := by decide +kernel
theorem d_CB_wantLook_27 : decode m_CB_wantLook.2.1 27 = .ok (.iload 4, 2) := by decide +kernel
theorem d_CB_wantLook_29 : decode m_CB_wantLook.2.1 29 = .ok (.iload_n 3, 1) := by decide +kernel
theorem d_CB_wantLook_30 : decode m_CB_wantLook.2.1 30 = .ok (.invokevirtual 99, 3) := by decide +kernel
theorem d_CB_wantLook_33 : decode m_CB_wantLook.2.1 33 = .ok (.aload_n 0, 1) := by decide +kernel
theorem d_CB_wantLook_34 : decode m_CB_wantLook.2.1 34 = .ok (.iload 4, 2) := by decide +kernel
theorem d_CB_wantLook_36 : decode m_CB_wantLook.2.1 36 = .ok (.iload_n 3, 1) := by decide +kernel
theorem d_CB_wantLook_37 : decode m_CB_wantLook.2.1 37 = .ok (.invokevirtual 147, 3) := by decide +kernel
theorem d_CB_wantLook_40 : decode m_CB_wantLook.2.1 40 = .ok (.return_, 1) := by decide +kernel
theorem d_CB_wantGathering_0 : decode m_CB_wantGathering.2.1 0 = .ok (.aload_n 0, 1) := by decide +kernel
theorem d_CB_wantGathering_1 : decode m_CB_wantGathering.2.1 1 = .ok (.iload 5, 2) := by decide +kernel
theorem d_CB_wantGathering_3 : decode m_CB_wantGathering.2.1 3 = .ok (.iload_n 3, 1) := by decide +kernel
theorem d_CB_wantGathering_4 : decode m_CB_wantGathering.2.1 4 = .ok (.invokevirtual 99, 3) := by decide +kernel
theorem d_CB_wantGathering_7 : decode m_CB_wantGathering.2.1 7 = .ok (.iload_n 2, 1) := by decide +kernel
theorem d_CB_wantGathering_8 : decode m_CB_wantGathering.2.1 8 = .ok (.iconst 3, 1) := by decide +kernel
theorem d_CB_wantGathering_9 : decode m_CB_wantGathering.2.1 9 = .ok (.if_icmp .ne 11, 3) := by decide +kernel
theorem d_CB_wantGathering_12 : decode m_CB_wantGathering.2.1 12 = .ok (.aload_n 0, 1) := by decide +kernel
theorem d_CB_wantGathering_13 : decode m_CB_wantGathering.2.1 13 = .ok (.iload 5, 2) := by decide +kernel
theorem d_CB_wantGathering_15 : decode m_CB_wantGathering.2.1 15 = .ok (.iload 4, 2) := by decide +kernel
theorem d_CB_wantGathering_17 : decode m_CB_wantGathering.2.1 17 = .ok (.invokevirtual 99, 3) := by decide +kernel
theorem d_CB_wantGathering_20 : decode m_CB_wantGathering.2.1 20 = .ok (.aload_n 0, 1) := by decide +kernel
theorem d_CB_wantGathering_21 : decode m_CB_wantGathering.2.1 21 = .ok (.iload 5, 2) := by decide +kernel
theorem d_CB_wantGathering_23 : decode m_CB_wantGathering.2.1 23 = .ok (.iload_n 3, 1) := by decide +kernel
theorem d_CB_wantGathering_24 : decode m_CB_wantGathering.2.1 24 = .ok (.iload_n 1, 1) := by decide +kernel
theorem d_CB_wantGathering_25 : decode m_CB_wantGathering.2.1 25 = .ok (.invokevirtual 250, 3) := by decide +kernel
theorem d_CB_wantGathering_28 : decode m_CB_wantGathering.2.1 28 = .ok (.iload_n 2, 1) := by decide +kernel
theorem d_CB_wantGathering_29 : decode m_CB_wantGathering.2.1 29 = .ok (.iconst 3, 1) := by decide +kernel
theorem d_CB_wantGathering_30 : decode m_CB_wantGathering.2.1 30 = .ok (.if_icmp .ne 11, 3) := by decide +kernel
theorem d_CB_wantGathering_33 : decode m_CB_wantGathering.2.1 33 = .ok (.aload_n 0, 1) := by decide +kernel
theorem d_CB_wantGathering_34 : decode m_CB_wantGathering.2.1 34 = .ok (.iload 5, 2) := by decide +kernel
theorem d_CB_wantGathering_36 : decode m_CB_wantGathering.2.1 36 = .ok (.iload 4, 2) := by decide +kernel
theorem d_CB_wantGathering_38 : decode m_CB_wantGathering.2.1 38 = .ok (.invokevirtual 147, 3) := by decide +kernel
theorem d_CB_wantGathering_41 : decode m_CB_wantGathering.2.1 41 = .ok (.return_, 1) := by decide +kernel
theorem d_CB_wantSource_0 : decode m_CB_wantSource.2.1 0 = .ok (.iload_n 1, 1) := by decide +kernel
theorem d_CB_wantSource_1 : decode m_CB_wantSource.2.1 1 = .ok (.bipush 10, 2) := by decide +kernel
theorem d_CB_wantSource_3 : decode m_CB_wantSource.2.1 3 = .ok (.if_icmp .lt 14, 3) := by decide +kernel
theorem d_CB_wantSource_6 : decode m_CB_wantSource.2.1 6 = .ok (.aload_n 0, 1) := by decide +kernel
theorem d_CB_wantSource_7 : decode m_CB_wantSource.2.1 7 = .ok (.iload_n 1, 1) := by decide +kernel
theorem d_CB_wantSource_8 : decode m_CB_wantSource.2.1 8 = .ok (.bipush 10, 2) := by decide +kernel
theorem d_CB_wantSource_10 : decode m_CB_wantSource.2.1 10 = .ok (.isub, 1) := by decide +kernel
theorem d_CB_wantSource_11 : decode m_CB_wantSource.2.1 11 = .ok (.invokevirtual 313, 3) := by decide +kernel
theorem d_CB_wantSource_14 : decode m_CB_wantSource.2.1 14 = .ok (.goto 8, 3) := by decide +kernel
theorem d_CB_wantSource_17 : decode m_CB_wantSource.2.1 17 = .ok (.aload_n 0, 1) := by decide +kernel
theorem d_CB_wantSource_18 : decode m_CB_wantSource.2.1 18 = .ok (.iload_n 1, 1) := by decide +kernel
theorem d_CB_wantSource_19 : decode m_CB_wantSource.2.1 19 = .ok (.invokevirtual 70, 3) := by decide +kernel
theorem d_CB_wantSource_22 : decode m_CB_wantSource.2.1 22 = .ok (.return_, 1) := by decide +kernel
theorem d_CB_wantSourceColumn_0 : decode m_CB_wantSourceColumn.2.1 0 = .ok (.iload_n 1, 1) := by decide +kernel
theorem d_CB_wantSourceColumn_1 : decode m_CB_wantSourceColumn.2.1 1 = .ok (.bipush 10, 2) := by decide +kernel
theorem d_CB_wantSourceColumn_3 : decode m_CB_wantSourceColumn.2.1 3 = .ok (.if_icmp .lt 17, 3) := by decide +kernel
theorem d_CB_wantSourceColumn_6 : decode m_CB_wantSourceColumn.2.1 6 = .ok (.aload_n 0, 1) := by decide +kernel
theorem d_CB_wantSourceColumn_7 : decode m_CB_wantSourceColumn.2.1 7 = .ok (.getfield 21, 3) := by decide +kernel
theorem d_CB_wantSourceColumn_10 : decode m_CB_wantSourceColumn.2.1 10 = .ok (.iload_n 1, 1) := by decide +kernel
theorem d_CB_wantSourceColumn_11 : decode m_CB_wantSourceColumn.2.1 11 = .ok (.bipush 10, 2) := by decide +kernel
theorem d_CB_wantSourceColumn_13 : decode m_CB_wantSourceColumn.2.1 13 = .ok (.isub, 1) := by decide +kernel
theorem d_CB_wantSourceColumn_14 : decode m_CB_wantSourceColumn.2.1 14 = .ok (.invokevirtual 319, 3) := by decide +kernel
theorem d_CB_wantSourceColumn_17 : decode m_CB_wantSourceColumn.2.1 17 = .ok (.goto 11, 3) := by decide +kernel
theorem d_CB_wantSourceColumn_20 : decode m_CB_wantSourceColumn.2.1 20 = .ok (.aload_n 0, 1) := by decide +kernel
theorem d_CB_wantSourceColumn_21 : decode m_CB_wantSourceColumn.2.1 21 = .ok (.getfield 12, 3) := by decide +kernel
theorem d_CB_wantSourceColumn_24 : decode m_CB_wantSourceColumn.2.1 24 = .ok (.iload_n 1, 1) := by decide +kernel
theorem d_CB_wantSourceColumn_25 : decode m_CB_wantSourceColumn.2.1 25 = .ok (.invokevirtual 413, 3) := by decide +kernel
theorem d_CB_wantSourceColumn_28 : decode m_CB_wantSourceColumn.2.1 28 = .ok (.istore_n 3, 1) := by decide +kernel
theorem d_CB_wantSourceColumn_29 : decode m_CB_wantSourceColumn.2.1 29 = .ok (.iload_n 2, 1) := by decide +kernel
theorem d_CB_wantSourceColumn_30 : decode m_CB_wantSourceColumn.2.1 30 = .ok (.ifCond .lt 8, 3) := by decide +kernel
theorem d_CB_wantSourceColumn_33 : decode m_CB_wantSourceColumn.2.1 33 = .ok (.iload_n 2, 1) := by decide +kernel
theorem d_CB_wantSourceColumn_34 : decode m_CB_wantSourceColumn.2.1 34 = .ok (.iload_n 3, 1) := by decide +kernel
theorem d_CB_wantSourceColumn_35 : decode m_CB_wantSourceColumn.2.1 35 = .ok (.if_icmp .lt 11, 3) := by decide +kernel
theorem d_CB_wantSourceColumn_38 : decode m_CB_wantSourceColumn.2.1 38 = .ok (.new 178, 3) := by decide +kernel
theorem d_CB_wantSourceColumn_41 : decode m_CB_wantSourceColumn.2.1 41 = .ok (.dup, 1) := by decide +kernel
theorem d_CB_wantSourceColumn_42 : decode m_CB_wantSourceColumn.2.1 42 = .ok (.invokespecial 180, 3) := by decide +kernel
theorem d_CB_wantSourceColumn_45 : decode m_CB_wantSourceColumn.2.1 45 = .ok (.athrow, 1) := by decide +kernel
theorem d_CB_wantSourceColumn_46 : decode m_CB_wantSourceColumn.2.1 46 = .ok (.return_, 1) := by decide +kernel
theorem d_CB_wantNoCross_0 : decode m_CB_wantNoCross.2.1 0 = .ok (.iload_n 1, 1) := by decide +kernel
theorem d_CB_wantNoCross_1 : decode m_CB_wantNoCross.2.1 1 = .ok (.bipush 10, 2) := by decide +kernel
theorem d_CB_wantNoCross_3 : decode m_CB_wantNoCross.2.1 3 = .ok (.if_icmp .lt 29, 3) := by decide +kernel
theorem d_CB_wantNoCross_6 : decode m_CB_wantNoCross.2.1 6 = .ok (.aload_n 0, 1) := by decide +kernel
theorem d_CB_wantNoCross_7 : decode m_CB_wantNoCross.2.1 7 = .ok (.getfield 21, 3) := by decide +kernel
theorem d_CB_wantNoCross_10 : decode m_CB_wantNoCross.2.1 10 = .ok (.iload_n 1, 1) := by decide +kernel
theorem d_CB_wantNoCross_11 : decode m_CB_wantNoCross.2.1 11 = .ok (.bipush 10, 2) := by decide +kernel
theorem d_CB_wantNoCross_13 : decode m_CB_wantNoCross.2.1 13 = .ok (.isub, 1) := by decide +kernel
theorem d_CB_wantNoCross_14 : decode m_CB_wantNoCross.2.1 14 = .ok (.invokevirtual 298, 3) := by decide +kernel
theorem d_CB_wantNoCross_17 : decode m_CB_wantNoCross.2.1 17 = .ok (.getfield 327, 3) := by decide +kernel
theorem d_CB_wantNoCross_20 : decode m_CB_wantNoCross.2.1 20 = .ok (.iconst 2, 1) := by decide +kernel
theorem d_CB_wantNoCross_21 : decode m_CB_wantNoCross.2.1 21 = .ok (.if_icmp .ne 11, 3) := by decide +kernel
theorem d_CB_wantNoCross_24 : decode m_CB_wantNoCross.2.1 24 = .ok (.new 111, 3) := by decide +kernel
theorem d_CB_wantNoCross_27 : decode m_CB_wantNoCross.2.1 27 = .ok (.dup, 1) := by decide +kernel
theorem d_CB_wantNoCross_28 : decode m_CB_wantNoCross.2.1 28 = .ok (.invokespecial 113, 3) := by decide +kernel
theorem d_CB_wantNoCross_31 : decode m_CB_wantNoCross.2.1 31 = .ok (.athrow, 1) := by decide +kernel
theorem d_CB_wantNoCross_32 : decode m_CB_wantNoCross.2.1 32 = .ok (.return_, 1) := by decide +kernel
theorem d_CB_wantQuestion_0 : decode m_CB_wantQuestion.2.1 0 = .ok (.aload_n 0, 1) := by decide +kernel
theorem d_CB_wantQuestion_1 : decode m_CB_wantQuestion.2.1 1 = .ok (.getfield 21, 3) := by decide +kernel
theorem d_CB_wantQuestion_4 : decode m_CB_wantQuestion.2.1 4 = .ok (.iload_n 1, 1) := by decide +kernel
theorem d_CB_wantQuestion_5 : decode m_CB_wantQuestion.2.1 5 = .ok (.invokevirtual 425, 3) := by decide +kernel
theorem d_CB_wantQuestion_8 : decode m_CB_wantQuestion.2.1 8 = .ok (.ifCond .ne 11, 3) := by decide +kernel
theorem d_CB_wantQuestion_11 : decode m_CB_wantQuestion.2.1 11 = .ok (.new 178, 3) := by decide +kernel
theorem d_CB_wantQuestion_14 : decode m_CB_wantQuestion.2.1 14 = .ok (.dup, 1) := by decide +kernel
theorem d_CB_wantQuestion_15 : decode m_CB_wantQuestion.2.1 15 = .ok (.invokespecial 180, 3) := by decide +kernel
theorem d_CB_wantQuestion_18 : decode m_CB_wantQuestion.2.1 18 = .ok (.athrow, 1) := by decide +kernel
theorem d_CB_wantQuestion_19 : decode m_CB_wantQuestion.2.1 19 = .ok (.return_, 1) := by decide +kernel
theorem d_CB_wantQuestionColumn_0 : decode m_CB_wantQuestionColumn.2.1 0 = .ok (.aload_n 0, 1) := by decide +kernel
theorem d_CB_wantQuestionColumn_1 : decode m_CB_wantQuestionColumn.2.1 1 = .ok (.iload_n 1, 1) := by decide +kernel
theorem d_CB_wantQuestionColumn_2 : decode m_CB_wantQuestionColumn.2.1 2 = .ok (.invokevirtual 313, 3) := by decide +kernel
theorem d_CB_wantQuestionColumn_5 : decode m_CB_wantQuestionColumn.2.1 5 = .ok (.iload_n 2, 1) := by decide +kernel
theorem d_CB_wantQuestionColumn_6 : decode m_CB_wantQuestionColumn.2.1 6 = .ok (.ifCond .lt 15, 3) := by decide +kernel
theorem d_CB_wantQuestionColumn_9 : decode m_CB_wantQuestionColumn.2.1 9 = .ok (.iload_n 2, 1) := by decide +kernel
theorem d_CB_wantQuestionColumn_10 : decode m_CB_wantQuestionColumn.2.1 10 = .ok (.aload_n 0, 1) := by decide +kernel
theorem d_CB_wantQuestionColumn_11 : decode m_CB_wantQuestionColumn.2.1 11 = .ok (.getfield 21, 3) := by decide +kernel
theorem d_CB_wantQuestionColumn_14 : decode m_CB_wantQuestionColumn.2.1 14 = .ok (.iload_n 1, 1) := by decide +kernel
theorem d_CB_wantQuestionColumn_15 : decode m_CB_wantQuestionColumn.2.1 15 = .ok (.invokevirtual 319, 3) := by decide +kernel
theorem d_CB_wantQuestionColumn_18 : decode m_CB_wantQuestionColumn.2.1 18 = .ok (.if_icmp .lt 11, 3) := by decide +kernel
theorem d_CB_wantQuestionColumn_21 : decode m_CB_wantQuestionColumn.2.1 21 = .ok (.new 178, 3) := by decide +kernel
theorem d_CB_wantQuestionColumn_24 : decode m_CB_wantQuestionColumn.2.1 24 = .ok (.dup, 1) := by decide +kernel
theorem d_CB_wantQuestionColumn_25 : decode m_CB_wantQuestionColumn.2.1 25 = .ok (.invokespecial 180, 3) := by decide +kernel
theorem d_CB_wantQuestionColumn_28 : decode m_CB_wantQuestionColumn.2.1 28 = .ok (.athrow, 1) := by decide +kernel
theorem d_CB_wantQuestionColumn_29 : decode m_CB_wantQuestionColumn.2.1 29 = .ok (.return_, 1) := by decide +kernel
theorem d_CB_wantAnswer_0 : decode m_CB_wantAnswer.2.1 0 = .ok (.aload_n 0, 1) := by decide +kernel
theorem d_CB_wantAnswer_1 : decode m_CB_wantAnswer.2.1 1 = .ok (.iload_n 1, 1) := by decide +kernel
theorem d_CB_wantAnswer_2 : decode m_CB_wantAnswer.2.1 2 = .ok (.invokevirtual 313, 3) := by decide +kernel
theorem d_CB_wantAnswer_5 : decode m_CB_wantAnswer.2.1 5 = .ok (.iload_n 2, 1) := by decide +kernel
theorem d_CB_wantAnswer_6 : decode m_CB_wantAnswer.2.1 6 = .ok (.ifCond .lt 30, 3) := by decide +kernel
theorem d_CB_wantAnswer_9 : decode m_CB_wantAnswer.2.1 9 = .ok (.iload_n 2, 1) := by decide +kernel
theorem d_CB_wantAnswer_10 : decode m_CB_wantAnswer.2.1 10 = .ok (.aload_n 0, 1) := by decide +kernel
theorem d_CB_wantAnswer_11 : decode m_CB_wantAnswer.2.1 11 = .ok (.getfield 21, 3) := by decide +kernel
theorem d_CB_wantAnswer_14 : decode m_CB_wantAnswer.2.1 14 = .ok (.iload_n 1, 1) := by decide +kernel
theorem d_CB_wantAnswer_15 : decode m_CB_wantAnswer.2.1 15 = .ok (.invokevirtual 316, 3) := by decide +kernel
theorem d_CB_wantAnswer_18 : decode m_CB_wantAnswer.2.1 18 = .ok (.if_icmp .ge 18, 3) := by decide +kernel
theorem d_CB_wantAnswer_21 : decode m_CB_wantAnswer.2.1 21 = .ok (.iload_n 3, 1) := by decide +kernel
theorem d_CB_wantAnswer_22 : decode m_CB_wantAnswer.2.1 22 = .ok (.ifCond .lt 14, 3) := by decide +kernel
theorem d_CB_wantAnswer_25 : decode m_CB_wantAnswer.2.1 25 = .ok (.iload_n 3, 1) := by decide +kernel
theorem d_CB_wantAnswer_26 : decode m_CB_wantAnswer.2.1 26 = .ok (.aload_n 0, 1) := by decide +kernel
theorem d_CB_wantAnswer_27 : decode m_CB_wantAnswer.2.1 27 = .ok (.getfield 21, 3) := by decide +kernel
theorem d_CB_wantAnswer_30 : decode m_CB_wantAnswer.2.1 30 = .ok (.getfield 427, 3) := by decide +kernel
theorem d_CB_wantAnswer_33 : decode m_CB_wantAnswer.2.1 33 = .ok (.if_icmp .lt 11, 3) := by decide +kernel
theorem d_CB_wantAnswer_36 : decode m_CB_wantAnswer.2.1 36 = .ok (.new 178, 3) := by decide +kernel
theorem d_CB_wantAnswer_39 : decode m_CB_wantAnswer.2.1 39 = .ok (.dup, 1) := by decide +kernel
theorem d_CB_wantAnswer_40 : decode m_CB_wantAnswer.2.1 40 = .ok (.invokespecial 180, 3) := by decide +kernel
theorem d_CB_wantAnswer_43 : decode m_CB_wantAnswer.2.1 43 = .ok (.athrow, 1) := by decide +kernel
theorem d_CB_wantAnswer_44 : decode m_CB_wantAnswer.2.1 44 = .ok (.return_, 1) := by decide +kernel
theorem d_CB_wantPlain_0 : decode m_CB_wantPlain.2.1 0 = .ok (.aload_n 0, 1) := by decide +kernel
theorem d_CB_wantPlain_1 : decode m_CB_wantPlain.2.1 1 = .ok (.getfield 21, 3) := by decide +kernel
theorem d_CB_wantPlain_4 : decode m_CB_wantPlain.2.1 4 = .ok (.iload_n 1, 1) := by decide +kernel
theorem d_CB_wantPlain_5 : decode m_CB_wantPlain.2.1 5 = .ok (.invokevirtual 298, 3) := by decide +kernel
theorem d_CB_wantPlain_8 : decode m_CB_wantPlain.2.1 8 = .ok (.getfield 327, 3) := by decide +kernel
theorem d_CB_wantPlain_11 : decode m_CB_wantPlain.2.1 11 = .ok (.ifCond .eq 11, 3) := by decide +kernel
theorem d_CB_wantPlain_14 : decode m_CB_wantPlain.2.1 14 = .ok (.new 111, 3) := by decide +kernel
theorem d_CB_wantPlain_17 : decode m_CB_wantPlain.2.1 17 = .ok (.dup, 1) := by decide +kernel
theorem d_CB_wantPlain_18 : decode m_CB_wantPlain.2.1 18 = .ok (.invokespecial 113, 3) := by decide +kernel
theorem d_CB_wantPlain_21 : decode m_CB_wantPlain.2.1 21 = .ok (.athrow, 1) := by decide +kernel
theorem d_CB_wantPlain_22 : decode m_CB_wantPlain.2.1 22 = .ok (.return_, 1) := by decide +kernel
theorem d_CB_wantQuestionPlace_0 : decode m_CB_wantQuestionPlace.2.1 0 = .ok (.aload_n 0, 1) := by decide +kernel
theorem d_CB_wantQuestionPlace_1 : decode m_CB_wantQuestionPlace.2.1 1 = .ok (.getfield 21, 3) := by decide +kernel
theorem d_CB_wantQuestionPlace_4 : decode m_CB_wantQuestionPlace.2.1 4 = .ok (.getfield 430, 3) := by decide +kernel
theorem d_CB_wantQuestionPlace_7 : decode m_CB_wantQuestionPlace.2.1 7 = .ok (.bipush 8, 2) := by decide +kernel
theorem d_CB_wantQuestionPlace_9 : decode m_CB_wantQuestionPlace.2.1 9 = .ok (.if_icmp .lt 11, 3) := by decide +kernel
theorem d_CB_wantQuestionPlace_12 : decode m_CB_wantQuestionPlace.2.1 12 = .ok (.new 64, 3) := by decide +kernel
theorem d_CB_wantQuestionPlace_15 : decode m_CB_wantQuestionPlace.2.1 15 = .ok (.dup, 1) := by decide +kernel
theorem d_CB_wantQuestionPlace_16 : decode m_CB_wantQuestionPlace.2.1 16 = .ok (.invokespecial 66, 3) := by decide +kernel
theorem d_CB_wantQuestionPlace_19 : decode m_CB_wantQuestionPlace.2.1 19 = .ok (.athrow, 1) := by decide +kernel
theorem d_CB_wantQuestionPlace_20 : decode m_CB_wantQuestionPlace.2.1 20 = .ok (.return_, 1) := by decide +kernel
theorem d_CB_wantAct_0 : decode m_CB_wantAct.2.1 0 = .ok (.iload_n 1, 1) := by decide +kernel
theorem d_CB_wantAct_1 : decode m_CB_wantAct.2.1 1 = .ok (.ifCond .lt 20, 3) := by decide +kernel
theorem d_CB_wantAct_4 : decode m_CB_wantAct.2.1 4 = .ok (.iload_n 1, 1) := by decide +kernel
theorem d_CB_wantAct_5 : decode m_CB_wantAct.2.1 5 = .ok (.aload_n 0, 1) := by decide +kernel
theorem d_CB_wantAct_6 : decode m_CB_wantAct.2.1 6 = .ok (.getfield 339, 3) := by decide +kernel
theorem d_CB_wantAct_9 : decode m_CB_wantAct.2.1 9 = .ok (.if_icmp .ge 12, 3) := by decide +kernel
theorem d_CB_wantAct_12 : decode m_CB_wantAct.2.1 12 = .ok (.iload_n 1, 1) := by decide +kernel
theorem d_CB_wantAct_13 : decode m_CB_wantAct.2.1 13 = .ok (.aload_n 0, 1) := by decide +kernel
theorem d_CB_wantAct_14 : decode m_CB_wantAct.2.1 14 = .ok (.getfield 45, 3) := by decide +kernel
theorem d_CB_wantAct_17 : decode m_CB_wantAct.2.1 17 = .ok (.arraylength, 1) := by decide +kernel
theorem d_CB_wantAct_18 : decode m_CB_wantAct.2.1 18 = .ok (.if_icmp .lt 11, 3) := by decide +kernel
theorem d_CB_wantAct_21 : decode m_CB_wantAct.2.1 21 = .ok (.new 178, 3) := by decide +kernel
theorem d_CB_wantAct_24 : decode m_CB_wantAct.2.1 24 = .ok (.dup, 1) := by decide +kernel
theorem d_CB_wantAct_25 : decode m_CB_wantAct.2.1 25 = .ok (.invokespecial 180, 3) := by decide +kernel
theorem d_CB_wantAct_28 : decode m_CB_wantAct.2.1 28 = .ok (.athrow, 1) := by decide +kernel
theorem d_CB_wantAct_29 : decode m_CB_wantAct.2.1 29 = .ok (.return_, 1) := by decide +kernel
theorem d_CB_wantStepPlace_0 : decode m_CB_wantStepPlace.2.1 0 = .ok (.aload_n 0, 1) := by decide +kernel
theorem d_CB_wantStepPlace_1 : decode m_CB_wantStepPlace.2.1 1 = .ok (.getfield 45, 3) := by decide +kernel
theorem d_CB_wantStepPlace_4 : decode m_CB_wantStepPlace.2.1 4 = .ok (.iload_n 1, 1) := by decide +kernel
theorem d_CB_wantStepPlace_5 : decode m_CB_wantStepPlace.2.1 5 = .ok (.aaload, 1) := by decide +kernel
theorem d_CB_wantStepPlace_6 : decode m_CB_wantStepPlace.2.1 6 = .ok (.getfield 360, 3) := by decide +kernel
theorem d_CB_wantStepPlace_9 : decode m_CB_wantStepPlace.2.1 9 = .ok (.bipush 6, 2) := by decide +kernel
theorem d_CB_wantStepPlace_11 : decode m_CB_wantStepPlace.2.1 11 = .ok (.if_icmp .lt 11, 3) := by decide +kernel
theorem d_CB_wantStepPlace_14 : decode m_CB_wantStepPlace.2.1 14 = .ok (.new 64, 3) := by decide +kernel
theorem d_CB_wantStepPlace_17 : decode m_CB_wantStepPlace.2.1 17 = .ok (.dup, 1) := by decide +kernel
theorem d_CB_wantStepPlace_18 : decode m_CB_wantStepPlace.2.1 18 = .ok (.invokespecial 66, 3) := by decide +kernel
theorem d_CB_wantStepPlace_21 : decode m_CB_wantStepPlace.2.1 21 = .ok (.athrow, 1) := by decide +kernel
theorem d_CB_wantStepPlace_22 : decode m_CB_wantStepPlace.2.1 22 = .ok (.return_, 1) := by decide +kernel
theorem d_CB_limited_0 : decode m_CB_limited.2.1 0 = .ok (.lload_n 0, 1) := by decide +kernel
theorem d_CB_limited_1 : decode m_CB_limited.2.1 1 = .ok (.ldc2_w 433, 3) := by decide +kernel
theorem d_CB_limited_4 : decode m_CB_limited.2.1 4 = .ok (.lcmp, 1) := by decide +kernel
theorem d_CB_limited_5 : decode m_CB_limited.2.1 5 = .ok (.ifCond .lt 11, 3) := by decide +kernel
theorem d_CB_limited_8 : decode m_CB_limited.2.1 8 = .ok (.lload_n 0, 1) := by decide +kernel
theorem d_CB_limited_9 : decode m_CB_limited.2.1 9 = .ok (.ldc2_w 435, 3) := by decide +kernel
theorem d_CB_limited_12 : decode m_CB_limited.2.1 12 = .ok (.lcmp, 1) := by decide +kernel
theorem d_CB_limited_13 : decode m_CB_limited.2.1 13 = .ok (.ifCond .le 8, 3) := by decide +kernel
theorem d_CB_limited_16 : decode m_CB_limited.2.1 16 = .ok (.ldc 36, 2) := by decide +kernel
theorem d_CB_limited_18 : decode m_CB_limited.2.1 18 = .ok (.goto 5, 3) := by decide +kernel
theorem d_CB_limited_21 : decode m_CB_limited.2.1 21 = .ok (.lload_n 0, 1) := by decide +kernel
theorem d_CB_limited_22 : decode m_CB_limited.2.1 22 = .ok (.l2i, 1) := by decide +kernel
theorem d_CB_limited_23 : decode m_CB_limited.2.1 23 = .ok (.ireturn, 1) := by decide +kernel
theorem d_CB_orZero_0 : decode m_CB_orZero.2.1 0 = .ok (.iload_n 0, 1) := by decide +kernel
theorem d_CB_orZero_1 : decode m_CB_orZero.2.1 1 = .ok (.ldc 36, 2) := by decide +kernel
theorem d_CB_orZero_3 : decode m_CB_orZero.2.1 3 = .ok (.if_icmp .ne 7, 3) := by decide +kernel
theorem d_CB_orZero_6 : decode m_CB_orZero.2.1 6 = .ok (.iconst 0, 1) := by decide +kernel
theorem d_CB_orZero_7 : decode m_CB_orZero.2.1 7 = .ok (.goto 4, 3) := by decide +kernel
theorem d_CB_orZero_10 : decode m_CB_orZero.2.1 10 = .ok (.iload_n 0, 1) := by decide +kernel
theorem d_CB_orZero_11 : decode m_CB_orZero.2.1 11 = .ok (.ireturn, 1) := by decide +kernel

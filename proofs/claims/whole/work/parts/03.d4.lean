theorem d_LA_addTable_0 : decode m_LA_addTable.2.1 0 = .ok (.aload_n 1, 1) := by decide +kernel
theorem d_LA_addTable_1 : decode m_LA_addTable.2.1 1 = .ok (.iconst 0, 1) := by decide +kernel
theorem d_LA_addTable_2 : decode m_LA_addTable.2.1 2 = .ok (.aload_n 0, 1) := by decide +kernel
theorem d_LA_addTable_3 : decode m_LA_addTable.2.1 3 = .ok (.invokevirtual 7, 3) := by decide +kernel
theorem d_LA_addTable_6 : decode m_LA_addTable.2.1 6 = .ok (.i2l, 1) := by decide +kernel
theorem d_LA_addTable_7 : decode m_LA_addTable.2.1 7 = .ok (.lastore, 1) := by decide +kernel
theorem d_LA_addTable_8 : decode m_LA_addTable.2.1 8 = .ok (.goto 6, 3) := by decide +kernel
theorem d_LA_addTable_11 : decode m_LA_addTable.2.1 11 = .ok (.astore_n 2, 1) := by decide +kernel
theorem d_LA_addTable_12 : decode m_LA_addTable.2.1 12 = .ok (.iconst 1, 1) := by decide +kernel
theorem d_LA_addTable_13 : decode m_LA_addTable.2.1 13 = .ok (.ireturn, 1) := by decide +kernel
theorem d_LA_addTable_14 : decode m_LA_addTable.2.1 14 = .ok (.iconst 0, 1) := by decide +kernel
theorem d_LA_addTable_15 : decode m_LA_addTable.2.1 15 = .ok (.ireturn, 1) := by decide +kernel
theorem d_LA_addNumber_0 : decode m_LA_addNumber.2.1 0 = .ok (.aload 4, 2) := by decide +kernel
theorem d_LA_addNumber_2 : decode m_LA_addNumber.2.1 2 = .ok (.iconst 0, 1) := by decide +kernel
theorem d_LA_addNumber_3 : decode m_LA_addNumber.2.1 3 = .ok (.aload_n 0, 1) := by decide +kernel
theorem d_LA_addNumber_4 : decode m_LA_addNumber.2.1 4 = .ok (.iload_n 1, 1) := by decide +kernel
theorem d_LA_addNumber_5 : decode m_LA_addNumber.2.1 5 = .ok (.iload_n 2, 1) := by decide +kernel
theorem d_LA_addNumber_6 : decode m_LA_addNumber.2.1 6 = .ok (.iload_n 3, 1) := by decide +kernel
theorem d_LA_addNumber_7 : decode m_LA_addNumber.2.1 7 = .ok (.invokevirtual 15, 3) := by decide +kernel
theorem d_LA_addNumber_10 : decode m_LA_addNumber.2.1 10 = .ok (.i2l, 1) := by decide +kernel
theorem d_LA_addNumber_11 : decode m_LA_addNumber.2.1 11 = .ok (.lastore, 1) := by decide +kernel
theorem d_LA_addNumber_12 : decode m_LA_addNumber.2.1 12 = .ok (.goto 15, 3) := by decide +kernel
theorem d_LA_addNumber_15 : decode m_LA_addNumber.2.1 15 = .ok (.astore 5, 2) := by decide +kernel
theorem d_LA_addNumber_17 : decode m_LA_addNumber.2.1 17 = .ok (.iconst 1, 1) := by decide +kernel
theorem d_LA_addNumber_18 : decode m_LA_addNumber.2.1 18 = .ok (.ireturn, 1) := by decide +kernel
theorem d_LA_addNumber_19 : decode m_LA_addNumber.2.1 19 = .ok (.astore 5, 2) := by decide +kernel
theorem d_LA_addNumber_21 : decode m_LA_addNumber.2.1 21 = .ok (.iconst 2, 1) := by decide +kernel
theorem d_LA_addNumber_22 : decode m_LA_addNumber.2.1 22 = .ok (.ireturn, 1) := by decide +kernel
theorem d_LA_addNumber_23 : decode m_LA_addNumber.2.1 23 = .ok (.astore 5, 2) := by decide +kernel
theorem d_LA_addNumber_25 : decode m_LA_addNumber.2.1 25 = .ok (.iconst 3, 1) := by decide +kernel
theorem d_LA_addNumber_26 : decode m_LA_addNumber.2.1 26 = .ok (.ireturn, 1) := by decide +kernel
theorem d_LA_addNumber_27 : decode m_LA_addNumber.2.1 27 = .ok (.iconst 0, 1) := by decide +kernel
theorem d_LA_addNumber_28 : decode m_LA_addNumber.2.1 28 = .ok (.ireturn, 1) := by decide +kernel
theorem d_LA_addLink_0 : decode m_LA_addLink.2.1 0 = .ok (.aload 4, 2) := by decide +kernel
theorem d_LA_addLink_2 : decode m_LA_addLink.2.1 2 = .ok (.iconst 0, 1) := by decide +kernel
theorem d_LA_addLink_3 : decode m_LA_addLink.2.1 3 = .ok (.aload_n 0, 1) := by decide +kernel
theorem d_LA_addLink_4 : decode m_LA_addLink.2.1 4 = .ok (.iload_n 1, 1) := by decide +kernel
theorem d_LA_addLink_5 : decode m_LA_addLink.2.1 5 = .ok (.iload_n 2, 1) := by decide +kernel
theorem d_LA_addLink_6 : decode m_LA_addLink.2.1 6 = .ok (.iload_n 3, 1) := by decide +kernel
theorem d_LA_addLink_7 : decode m_LA_addLink.2.1 7 = .ok (.invokevirtual 23, 3) := by decide +kernel
theorem d_LA_addLink_10 : decode m_LA_addLink.2.1 10 = .ok (.i2l, 1) := by decide +kernel
theorem d_LA_addLink_11 : decode m_LA_addLink.2.1 11 = .ok (.lastore, 1) := by decide +kernel
theorem d_LA_addLink_12 : decode m_LA_addLink.2.1 12 = .ok (.goto 15, 3) := by decide +kernel
theorem d_LA_addLink_15 : decode m_LA_addLink.2.1 15 = .ok (.astore 5, 2) := by decide +kernel
theorem d_LA_addLink_17 : decode m_LA_addLink.2.1 17 = .ok (.iconst 1, 1) := by decide +kernel
theorem d_LA_addLink_18 : decode m_LA_addLink.2.1 18 = .ok (.ireturn, 1) := by decide +kernel
theorem d_LA_addLink_19 : decode m_LA_addLink.2.1 19 = .ok (.astore 5, 2) := by decide +kernel
theorem d_LA_addLink_21 : decode m_LA_addLink.2.1 21 = .ok (.iconst 2, 1) := by decide +kernel
theorem d_LA_addLink_22 : decode m_LA_addLink.2.1 22 = .ok (.ireturn, 1) := by decide +kernel
theorem d_LA_addLink_23 : decode m_LA_addLink.2.1 23 = .ok (.astore 5, 2) := by decide +kernel
theorem d_LA_addLink_25 : decode m_LA_addLink.2.1 25 = .ok (.iconst 3, 1) := by decide +kernel
theorem d_LA_addLink_26 : decode m_LA_addLink.2.1 26 = .ok (.ireturn, 1) := by decide +kernel
theorem d_LA_addLink_27 : decode m_LA_addLink.2.1 27 = .ok (.iconst 0, 1) := by decide +kernel
theorem d_LA_addLink_28 : decode m_LA_addLink.2.1 28 = .ok (.ireturn, 1) := by decide +kernel
theorem d_LA_addReckoned_0 : decode m_LA_addReckoned.2.1 0 = .ok (.aload 6, 2) := by decide +kernel
theorem d_LA_addReckoned_2 : decode m_LA_addReckoned.2.1 2 = .ok (.iconst 0, 1) := by decide +kernel
theorem d_LA_addReckoned_3 : decode m_LA_addReckoned.2.1 3 = .ok (.aload_n 0, 1) := by decide +kernel
theorem d_LA_addReckoned_4 : decode m_LA_addReckoned.2.1 4 = .ok (.iload_n 1, 1) := by decide +kernel
theorem d_LA_addReckoned_5 : decode m_LA_addReckoned.2.1 5 = .ok (.iload_n 2, 1) := by decide +kernel
theorem d_LA_addReckoned_6 : decode m_LA_addReckoned.2.1 6 = .ok (.iload_n 3, 1) := by decide +kernel
theorem d_LA_addReckoned_7 : decode m_LA_addReckoned.2.1 7 = .ok (.iload 4, 2) := by decide +kernel
theorem d_LA_addReckoned_9 : decode m_LA_addReckoned.2.1 9 = .ok (.iload 5, 2) := by decide +kernel
theorem d_LA_addReckoned_11 : decode m_LA_addReckoned.2.1 11 = .ok (.invokevirtual 26, 3) := by decide +kernel
theorem d_LA_addReckoned_14 : decode m_LA_addReckoned.2.1 14 = .ok (.i2l, 1) := by decide +kernel
theorem d_LA_addReckoned_15 : decode m_LA_addReckoned.2.1 15 = .ok (.lastore, 1) := by decide +kernel
theorem d_LA_addReckoned_16 : decode m_LA_addReckoned.2.1 16 = .ok (.goto 15, 3) := by decide +kernel
theorem d_LA_addReckoned_19 : decode m_LA_addReckoned.2.1 19 = .ok (.astore 7, 2) := by decide +kernel
theorem d_LA_addReckoned_21 : decode m_LA_addReckoned.2.1 21 = .ok (.iconst 1, 1) := by decide +kernel
theorem d_LA_addReckoned_22 : decode m_LA_addReckoned.2.1 22 = .ok (.ireturn, 1) := by decide +kernel
theorem d_LA_addReckoned_23 : decode m_LA_addReckoned.2.1 23 = .ok (.astore 7, 2) := by decide +kernel
theorem d_LA_addReckoned_25 : decode m_LA_addReckoned.2.1 25 = .ok (.iconst 2, 1) := by decide +kernel
theorem d_LA_addReckoned_26 : decode m_LA_addReckoned.2.1 26 = .ok (.ireturn, 1) := by decide +kernel
theorem d_LA_addReckoned_27 : decode m_LA_addReckoned.2.1 27 = .ok (.astore 7, 2) := by decide +kernel
theorem d_LA_addReckoned_29 : decode m_LA_addReckoned.2.1 29 = .ok (.iconst 3, 1) := by decide +kernel
theorem d_LA_addReckoned_30 : decode m_LA_addReckoned.2.1 30 = .ok (.ireturn, 1) := by decide +kernel
theorem d_LA_addReckoned_31 : decode m_LA_addReckoned.2.1 31 = .ok (.iconst 0, 1) := by decide +kernel
theorem d_LA_addReckoned_32 : decode m_LA_addReckoned.2.1 32 = .ok (.ireturn, 1) := by decide +kernel
theorem d_LA_reckonAnew_0 : decode m_LA_reckonAnew.2.1 0 = .ok (.aload 7, 2) := by decide +kernel
theorem d_LA_reckonAnew_2 : decode m_LA_reckonAnew.2.1 2 = .ok (.iconst 0, 1) := by decide +kernel
theorem d_LA_reckonAnew_3 : decode m_LA_reckonAnew.2.1 3 = .ok (.aload_n 0, 1) := by decide +kernel
theorem d_LA_reckonAnew_4 : decode m_LA_reckonAnew.2.1 4 = .ok (.iload_n 1, 1) := by decide +kernel
theorem d_LA_reckonAnew_5 : decode m_LA_reckonAnew.2.1 5 = .ok (.iload_n 2, 1) := by decide +kernel
theorem d_LA_reckonAnew_6 : decode m_LA_reckonAnew.2.1 6 = .ok (.iload_n 3, 1) := by decide +kernel
theorem d_LA_reckonAnew_7 : decode m_LA_reckonAnew.2.1 7 = .ok (.iload 4, 2) := by decide +kernel
theorem d_LA_reckonAnew_9 : decode m_LA_reckonAnew.2.1 9 = .ok (.iload 5, 2) := by decide +kernel
theorem d_LA_reckonAnew_11 : decode m_LA_reckonAnew.2.1 11 = .ok (.iload 6, 2) := by decide +kernel
theorem d_LA_reckonAnew_13 : decode m_LA_reckonAnew.2.1 13 = .ok (.invokevirtual 30, 3) := by decide +kernel
theorem d_LA_reckonAnew_16 : decode m_LA_reckonAnew.2.1 16 = .ok (.ifCond .eq 7, 3) := by decide +kernel
theorem d_LA_reckonAnew_19 : decode m_LA_reckonAnew.2.1 19 = .ok (.lconst 1, 1) := by decide +kernel
theorem d_LA_reckonAnew_20 : decode m_LA_reckonAnew.2.1 20 = .ok (.goto 4, 3) := by decide +kernel
theorem d_LA_reckonAnew_23 : decode m_LA_reckonAnew.2.1 23 = .ok (.lconst 0, 1) := by decide +kernel
theorem d_LA_reckonAnew_24 : decode m_LA_reckonAnew.2.1 24 = .ok (.lastore, 1) := by decide +kernel
theorem d_LA_reckonAnew_25 : decode m_LA_reckonAnew.2.1 25 = .ok (.goto 11, 3) := by decide +kernel
theorem d_LA_reckonAnew_28 : decode m_LA_reckonAnew.2.1 28 = .ok (.astore 8, 2) := by decide +kernel
theorem d_LA_reckonAnew_30 : decode m_LA_reckonAnew.2.1 30 = .ok (.iconst 1, 1) := by decide +kernel
theorem d_LA_reckonAnew_31 : decode m_LA_reckonAnew.2.1 31 = .ok (.ireturn, 1) := by decide +kernel
theorem d_LA_reckonAnew_32 : decode m_LA_reckonAnew.2.1 32 = .ok (.astore 8, 2) := by decide +kernel
theorem d_LA_reckonAnew_34 : decode m_LA_reckonAnew.2.1 34 = .ok (.iconst 2, 1) := by decide +kernel
theorem d_LA_reckonAnew_35 : decode m_LA_reckonAnew.2.1 35 = .ok (.ireturn, 1) := by decide +kernel
theorem d_LA_reckonAnew_36 : decode m_LA_reckonAnew.2.1 36 = .ok (.iconst 0, 1) := by decide +kernel
theorem d_LA_reckonAnew_37 : decode m_LA_reckonAnew.2.1 37 = .ok (.ireturn, 1) := by decide +kernel
theorem d_LA_need_0 : decode m_LA_need.2.1 0 = .ok (.aload 4, 2) := by decide +kernel
theorem d_LA_need_2 : decode m_LA_need.2.1 2 = .ok (.iconst 0, 1) := by decide +kernel
theorem d_LA_need_3 : decode m_LA_need.2.1 3 = .ok (.aload_n 0, 1) := by decide +kernel
theorem d_LA_need_4 : decode m_LA_need.2.1 4 = .ok (.iload_n 1, 1) := by decide +kernel
theorem d_LA_need_5 : decode m_LA_need.2.1 5 = .ok (.iload_n 2, 1) := by decide +kernel
theorem d_LA_need_6 : decode m_LA_need.2.1 6 = .ok (.iload_n 3, 1) := by decide +kernel
theorem d_LA_need_7 : decode m_LA_need.2.1 7 = .ok (.invokevirtual 34, 3) := by decide +kernel
theorem d_LA_need_10 : decode m_LA_need.2.1 10 = .ok (.ifCond .eq 7, 3) := by decide +kernel
theorem d_LA_need_13 : decode m_LA_need.2.1 13 = .ok (.lconst 1, 1) := by decide +kernel
theorem d_LA_need_14 : decode m_LA_need.2.1 14 = .ok (.goto 4, 3) := by decide +kernel
theorem d_LA_need_17 : decode m_LA_need.2.1 17 = .ok (.lconst 0, 1) := by decide +kernel
theorem d_LA_need_18 : decode m_LA_need.2.1 18 = .ok (.lastore, 1) := by decide +kernel
theorem d_LA_need_19 : decode m_LA_need.2.1 19 = .ok (.goto 11, 3) := by decide +kernel
theorem d_LA_need_22 : decode m_LA_need.2.1 22 = .ok (.astore 5, 2) := by decide +kernel
theorem d_LA_need_24 : decode m_LA_need.2.1 24 = .ok (.iconst 1, 1) := by decide +kernel
theorem d_LA_need_25 : decode m_LA_need.2.1 25 = .ok (.ireturn, 1) := by decide +kernel
theorem d_LA_need_26 : decode m_LA_need.2.1 26 = .ok (.astore 5, 2) := by decide +kernel
theorem d_LA_need_28 : decode m_LA_need.2.1 28 = .ok (.iconst 2, 1) := by decide +kernel
theorem d_LA_need_29 : decode m_LA_need.2.1 29 = .ok (.ireturn, 1) := by decide +kernel
theorem d_LA_need_30 : decode m_LA_need.2.1 30 = .ok (.iconst 0, 1) := by decide +kernel
theorem d_LA_need_31 : decode m_LA_need.2.1 31 = .ok (.ireturn, 1) := by decide +kernel
theorem d_LA_single_0 : decode m_LA_single.2.1 0 = .ok (.aload 4, 2) := by decide +kernel
theorem d_LA_single_2 : decode m_LA_single.2.1 2 = .ok (.iconst 0, 1) := by decide +kernel
theorem d_LA_single_3 : decode m_LA_single.2.1 3 = .ok (.aload_n 0, 1) := by decide +kernel
theorem d_LA_single_4 : decode m_LA_single.2.1 4 = .ok (.iload_n 1, 1) := by decide +kernel
theorem d_LA_single_5 : decode m_LA_single.2.1 5 = .ok (.iload_n 2, 1) := by decide +kernel
theorem d_LA_single_6 : decode m_LA_single.2.1 6 = .ok (.iload_n 3, 1) := by decide +kernel
theorem d_LA_single_7 : decode m_LA_single.2.1 7 = .ok (.invokevirtual 38, 3) := by decide +kernel
theorem d_LA_single_10 : decode m_LA_single.2.1 10 = .ok (.ifCond .eq 7, 3) := by decide +kernel
theorem d_LA_single_13 : decode m_LA_single.2.1 13 = .ok (.lconst 1, 1) := by decide +kernel
theorem d_LA_single_14 : decode m_LA_single.2.1 14 = .ok (.goto 4, 3) := by decide +kernel
theorem d_LA_single_17 : decode m_LA_single.2.1 17 = .ok (.lconst 0, 1) := by decide +kernel
theorem d_LA_single_18 : decode m_LA_single.2.1 18 = .ok (.lastore, 1) := by decide +kernel
theorem d_LA_single_19 : decode m_LA_single.2.1 19 = .ok (.goto 11, 3) := by decide +kernel
theorem d_LA_single_22 : decode m_LA_single.2.1 22 = .ok (.astore 5, 2) := by decide +kernel
theorem d_LA_single_24 : decode m_LA_single.2.1 24 = .ok (.iconst 1, 1) := by decide +kernel
theorem d_LA_single_25 : decode m_LA_single.2.1 25 = .ok (.ireturn, 1) := by decide +kernel
theorem d_LA_single_26 : decode m_LA_single.2.1 26 = .ok (.astore 5, 2) := by decide +kernel
theorem d_LA_single_28 : decode m_LA_single.2.1 28 = .ok (.iconst 2, 1) := by decide +kernel
theorem d_LA_single_29 : decode m_LA_single.2.1 29 = .ok (.ireturn, 1) := by decide +kernel
theorem d_LA_single_30 : decode m_LA_single.2.1 30 = .ok (.iconst 0, 1) := by decide +kernel
theorem d_LA_single_31 : decode m_LA_single.2.1 31 = .ok (.ireturn, 1) := by decide +kernel
theorem d_LA_wouldLose_0 : decode m_LA_wouldLose.2.1 0 = .ok (.aload 5, 2) := by decide +kernel
theorem d_LA_wouldLose_2 : decode m_LA_wouldLose.2.1 2 = .ok (.iconst 0, 1) := by decide +kernel
theorem d_LA_wouldLose_3 : decode m_LA_wouldLose.2.1 3 = .ok (.aload_n 0, 1) := by decide +kernel
theorem d_LA_wouldLose_4 : decode m_LA_wouldLose.2.1 4 = .ok (.iload_n 1, 1) := by decide +kernel
theorem d_LA_wouldLose_5 : decode m_LA_wouldLose.2.1 5 = .ok (.iload_n 2, 1) := by decide +kernel
theorem d_LA_wouldLose_6 : decode m_LA_wouldLose.2.1 6 = .ok (.iload_n 3, 1) := by decide +kernel
theorem d_LA_wouldLose_7 : decode m_LA_wouldLose.2.1 7 = .ok (.iload 4, 2) := by decide +kernel
theorem d_LA_wouldLose_9 : decode m_LA_wouldLose.2.1 9 = .ok (.invokevirtual 41, 3) := by decide +kernel
theorem d_LA_wouldLose_12 : decode m_LA_wouldLose.2.1 12 = .ok (.i2l, 1) := by decide +kernel
theorem d_LA_wouldLose_13 : decode m_LA_wouldLose.2.1 13 = .ok (.lastore, 1) := by decide +kernel
theorem d_LA_wouldLose_14 : decode m_LA_wouldLose.2.1 14 = .ok (.goto 11, 3) := by decide +kernel
theorem d_LA_wouldLose_17 : decode m_LA_wouldLose.2.1 17 = .ok (.astore 6, 2) := by decide +kernel
theorem d_LA_wouldLose_19 : decode m_LA_wouldLose.2.1 19 = .ok (.iconst 1, 1) := by decide +kernel
theorem d_LA_wouldLose_20 : decode m_LA_wouldLose.2.1 20 = .ok (.ireturn, 1) := by decide +kernel
theorem d_LA_wouldLose_21 : decode m_LA_wouldLose.2.1 21 = .ok (.astore 6, 2) := by decide +kernel
theorem d_LA_wouldLose_23 : decode m_LA_wouldLose.2.1 23 = .ok (.iconst 2, 1) := by decide +kernel
theorem d_LA_wouldLose_24 : decode m_LA_wouldLose.2.1 24 = .ok (.ireturn, 1) := by decide +kernel
theorem d_LA_wouldLose_25 : decode m_LA_wouldLose.2.1 25 = .ok (.iconst 0, 1) := by decide +kernel
theorem d_LA_wouldLose_26 : decode m_LA_wouldLose.2.1 26 = .ok (.ireturn, 1) := by decide +kernel
theorem d_LA_narrow_0 : decode m_LA_narrow.2.1 0 = .ok (.aload 5, 2) := by decide +kernel
theorem d_LA_narrow_2 : decode m_LA_narrow.2.1 2 = .ok (.iconst 0, 1) := by decide +kernel
theorem d_LA_narrow_3 : decode m_LA_narrow.2.1 3 = .ok (.aload_n 0, 1) := by decide +kernel
theorem d_LA_narrow_4 : decode m_LA_narrow.2.1 4 = .ok (.iload_n 1, 1) := by decide +kernel
theorem d_LA_narrow_5 : decode m_LA_narrow.2.1 5 = .ok (.iload_n 2, 1) := by decide +kernel
theorem d_LA_narrow_6 : decode m_LA_narrow.2.1 6 = .ok (.iload_n 3, 1) := by decide +kernel
theorem d_LA_narrow_7 : decode m_LA_narrow.2.1 7 = .ok (.iload 4, 2) := by decide +kernel
theorem d_LA_narrow_9 : decode m_LA_narrow.2.1 9 = .ok (.invokevirtual 45, 3) := by decide +kernel
theorem d_LA_narrow_12 : decode m_LA_narrow.2.1 12 = .ok (.ifCond .eq 7, 3) := by decide +kernel
theorem d_LA_narrow_15 : decode m_LA_narrow.2.1 15 = .ok (.lconst 1, 1) := by decide +kernel
theorem d_LA_narrow_16 : decode m_LA_narrow.2.1 16 = .ok (.goto 4, 3) := by decide +kernel
theorem d_LA_narrow_19 : decode m_LA_narrow.2.1 19 = .ok (.lconst 0, 1) := by decide +kernel
theorem d_LA_narrow_20 : decode m_LA_narrow.2.1 20 = .ok (.lastore, 1) := by decide +kernel
theorem d_LA_narrow_21 : decode m_LA_narrow.2.1 21 = .ok (.goto 11, 3) := by decide +kernel
theorem d_LA_narrow_24 : decode m_LA_narrow.2.1 24 = .ok (.astore 6, 2) := by decide +kernel
theorem d_LA_narrow_26 : decode m_LA_narrow.2.1 26 = .ok (.iconst 1, 1) := by decide +kernel
theorem d_LA_narrow_27 : decode m_LA_narrow.2.1 27 = .ok (.ireturn, 1) := by decide +kernel
theorem d_LA_narrow_28 : decode m_LA_narrow.2.1 28 = .ok (.astore 6, 2) := by decide +kernel
theorem d_LA_narrow_30 : decode m_LA_narrow.2.1 30 = .ok (.iconst 2, 1) := by decide +kernel
theorem d_LA_narrow_31 : decode m_LA_narrow.2.1 31 = .ok (.ireturn, 1) := by decide +kernel
theorem d_LA_narrow_32 : decode m_LA_narrow.2.1 32 = .ok (.iconst 0, 1) := by decide +kernel
theorem d_LA_narrow_33 : decode m_LA_narrow.2.1 33 = .ok (.ireturn, 1) := by decide +kernel
theorem d_LA_wouldLoseAll_0 : decode m_LA_wouldLoseAll.2.1 0 = .ok (.aload_n 3, 1) := by decide +kernel
theorem d_LA_wouldLoseAll_1 : decode m_LA_wouldLoseAll.2.1 1 = .ok (.iconst 0, 1) := by decide +kernel
theorem d_LA_wouldLoseAll_2 : decode m_LA_wouldLoseAll.2.1 2 = .ok (.aload_n 0, 1) := by decide +kernel
theorem d_LA_wouldLoseAll_3 : decode m_LA_wouldLoseAll.2.1 3 = .ok (.iload_n 1, 1) := by decide +kernel
theorem d_LA_wouldLoseAll_4 : decode m_LA_wouldLoseAll.2.1 4 = .ok (.iload_n 2, 1) := by decide +kernel
theorem d_LA_wouldLoseAll_5 : decode m_LA_wouldLoseAll.2.1 5 = .ok (.invokevirtual 49, 3) := by decide +kernel
theorem d_LA_wouldLoseAll_8 : decode m_LA_wouldLoseAll.2.1 8 = .ok (.i2l, 1) := by decide +kernel
theorem d_LA_wouldLoseAll_9 : decode m_LA_wouldLoseAll.2.1 9 = .ok (.lastore, 1) := by decide +kernel
theorem d_LA_wouldLoseAll_10 : decode m_LA_wouldLoseAll.2.1 10 = .ok (.goto 7, 3) := by decide +kernel
theorem d_LA_wouldLoseAll_13 : decode m_LA_wouldLoseAll.2.1 13 = .ok (.astore 4, 2) := by decide +kernel
theorem d_LA_wouldLoseAll_15 : decode m_LA_wouldLoseAll.2.1 15 = .ok (.iconst 1, 1) := by decide +kernel
theorem d_LA_wouldLoseAll_16 : decode m_LA_wouldLoseAll.2.1 16 = .ok (.ireturn, 1) := by decide +kernel
theorem d_LA_wouldLoseAll_17 : decode m_LA_wouldLoseAll.2.1 17 = .ok (.iconst 0, 1) := by decide +kernel
theorem d_LA_wouldLoseAll_18 : decode m_LA_wouldLoseAll.2.1 18 = .ok (.ireturn, 1) := by decide +kernel
theorem d_LA_drop_0 : decode m_LA_drop.2.1 0 = .ok (.aload_n 3, 1) := by decide +kernel
theorem d_LA_drop_1 : decode m_LA_drop.2.1 1 = .ok (.iconst 0, 1) := by decide +kernel
theorem d_LA_drop_2 : decode m_LA_drop.2.1 2 = .ok (.aload_n 0, 1) := by decide +kernel
theorem d_LA_drop_3 : decode m_LA_drop.2.1 3 = .ok (.iload_n 1, 1) := by decide +kernel
theorem d_LA_drop_4 : decode m_LA_drop.2.1 4 = .ok (.iload_n 2, 1) := by decide +kernel
theorem d_LA_drop_5 : decode m_LA_drop.2.1 5 = .ok (.invokevirtual 53, 3) := by decide +kernel
theorem d_LA_drop_8 : decode m_LA_drop.2.1 8 = .ok (.ifCond .eq 7, 3) := by decide +kernel
theorem d_LA_drop_11 : decode m_LA_drop.2.1 11 = .ok (.lconst 1, 1) := by decide +kernel
theorem d_LA_drop_12 : decode m_LA_drop.2.1 12 = .ok (.goto 4, 3) := by decide +kernel
theorem d_LA_drop_15 : decode m_LA_drop.2.1 15 = .ok (.lconst 0, 1) := by decide +kernel
theorem d_LA_drop_16 : decode m_LA_drop.2.1 16 = .ok (.lastore, 1) := by decide +kernel
theorem d_LA_drop_17 : decode m_LA_drop.2.1 17 = .ok (.goto 11, 3) := by decide +kernel
theorem d_LA_drop_20 : decode m_LA_drop.2.1 20 = .ok (.astore 4, 2) := by decide +kernel
theorem d_LA_drop_22 : decode m_LA_drop.2.1 22 = .ok (.iconst 1, 1) := by decide +kernel
theorem d_LA_drop_23 : decode m_LA_drop.2.1 23 = .ok (.ireturn, 1) := by decide +kernel
theorem d_LA_drop_24 : decode m_LA_drop.2.1 24 = .ok (.astore 4, 2) := by decide +kernel
theorem d_LA_drop_26 : decode m_LA_drop.2.1 26 = .ok (.iconst 2, 1) := by decide +kernel
theorem d_LA_drop_27 : decode m_LA_drop.2.1 27 = .ok (.ireturn, 1) := by decide +kernel
theorem d_LA_drop_28 : decode m_LA_drop.2.1 28 = .ok (.iconst 0, 1) := by decide +kernel
theorem d_LA_drop_29 : decode m_LA_drop.2.1 29 = .ok (.ireturn, 1) := by decide +kernel
theorem d_LA_setRemoval_0 : decode m_LA_setRemoval.2.1 0 = .ok (.aload 4, 2) := by decide +kernel
theorem d_LA_setRemoval_2 : decode m_LA_setRemoval.2.1 2 = .ok (.iconst 0, 1) := by decide +kernel
theorem d_LA_setRemoval_3 : decode m_LA_setRemoval.2.1 3 = .ok (.aload_n 0, 1) := by decide +kernel
theorem d_LA_setRemoval_4 : decode m_LA_setRemoval.2.1 4 = .ok (.iload_n 1, 1) := by decide +kernel
theorem d_LA_setRemoval_5 : decode m_LA_setRemoval.2.1 5 = .ok (.iload_n 2, 1) := by decide +kernel
theorem d_LA_setRemoval_6 : decode m_LA_setRemoval.2.1 6 = .ok (.iload_n 3, 1) := by decide +kernel
theorem d_LA_setRemoval_7 : decode m_LA_setRemoval.2.1 7 = .ok (.invokevirtual 57, 3) := by decide +kernel
theorem d_LA_setRemoval_10 : decode m_LA_setRemoval.2.1 10 = .ok (.i2l, 1) := by decide +kernel
theorem d_LA_setRemoval_11 : decode m_LA_setRemoval.2.1 11 = .ok (.lastore, 1) := by decide +kernel
theorem d_LA_setRemoval_12 : decode m_LA_setRemoval.2.1 12 = .ok (.goto 11, 3) := by decide +kernel
theorem d_LA_setRemoval_15 : decode m_LA_setRemoval.2.1 15 = .ok (.astore 5, 2) := by decide +kernel
theorem d_LA_setRemoval_17 : decode m_LA_setRemoval.2.1 17 = .ok (.iconst 1, 1) := by decide +kernel
theorem d_LA_setRemoval_18 : decode m_LA_setRemoval.2.1 18 = .ok (.ireturn, 1) := by decide +kernel
theorem d_LA_setRemoval_19 : decode m_LA_setRemoval.2.1 19 = .ok (.astore 5, 2) := by decide +kernel
theorem d_LA_setRemoval_21 : decode m_LA_setRemoval.2.1 21 = .ok (.iconst 2, 1) := by decide +kernel
theorem d_LA_setRemoval_22 : decode m_LA_setRemoval.2.1 22 = .ok (.ireturn, 1) := by decide +kernel
theorem d_LA_setRemoval_23 : decode m_LA_setRemoval.2.1 23 = .ok (.iconst 0, 1) := by decide +kernel
theorem d_LA_setRemoval_24 : decode m_LA_setRemoval.2.1 24 = .ok (.ireturn, 1) := by decide +kernel
theorem d_LA_addRule_0 : decode m_LA_addRule.2.1 0 = .ok (.aload 6, 2) := by decide +kernel
theorem d_LA_addRule_2 : decode m_LA_addRule.2.1 2 = .ok (.iconst 0, 1) := by decide +kernel
theorem d_LA_addRule_3 : decode m_LA_addRule.2.1 3 = .ok (.aload_n 0, 1) := by decide +kernel
theorem d_LA_addRule_4 : decode m_LA_addRule.2.1 4 = .ok (.iload_n 1, 1) := by decide +kernel
theorem d_LA_addRule_5 : decode m_LA_addRule.2.1 5 = .ok (.iload_n 2, 1) := by decide +kernel
theorem d_LA_addRule_6 : decode m_LA_addRule.2.1 6 = .ok (.iload_n 3, 1) := by decide +kernel
theorem d_LA_addRule_7 : decode m_LA_addRule.2.1 7 = .ok (.iload 4, 2) := by decide +kernel
theorem d_LA_addRule_9 : decode m_LA_addRule.2.1 9 = .ok (.iload 5, 2) := by decide +kernel
theorem d_LA_addRule_11 : decode m_LA_addRule.2.1 11 = .ok (.invokevirtual 60, 3) := by decide +kernel
theorem d_LA_addRule_14 : decode m_LA_addRule.2.1 14 = .ok (.i2l, 1) := by decide +kernel
theorem d_LA_addRule_15 : decode m_LA_addRule.2.1 15 = .ok (.lastore, 1) := by decide +kernel
theorem d_LA_addRule_16 : decode m_LA_addRule.2.1 16 = .ok (.goto 15, 3) := by decide +kernel
theorem d_LA_addRule_19 : decode m_LA_addRule.2.1 19 = .ok (.astore 7, 2) := by decide +kernel
theorem d_LA_addRule_21 : decode m_LA_addRule.2.1 21 = .ok (.iconst 1, 1) := by decide +kernel
theorem d_LA_addRule_22 : decode m_LA_addRule.2.1 22 = .ok (.ireturn, 1) := by decide +kernel
theorem d_LA_addRule_23 : decode m_LA_addRule.2.1 23 = .ok (.astore 7, 2) := by decide +kernel
theorem d_LA_addRule_25 : decode m_LA_addRule.2.1 25 = .ok (.iconst 2, 1) := by decide +kernel
theorem d_LA_addRule_26 : decode m_LA_addRule.2.1 26 = .ok (.ireturn, 1) := by decide +kernel
theorem d_LA_addRule_27 : decode m_LA_addRule.2.1 27 = .ok (.astore 7, 2) := by decide +kernel
theorem d_LA_addRule_29 : decode m_LA_addRule.2.1 29 = .ok (.iconst 3, 1) := by decide +kernel
theorem d_LA_addRule_30 : decode m_LA_addRule.2.1 30 = .ok (.ireturn, 1) := by decide +kernel
theorem d_LA_addRule_31 : decode m_LA_addRule.2.1 31 = .ok (.iconst 0, 1) := by decide +kernel
theorem d_LA_addRule_32 : decode m_LA_addRule.2.1 32 = .ok (.ireturn, 1) := by decide +kernel
theorem d_LA_dropRule_0 : decode m_LA_dropRule.2.1 0 = .ok (.aload_n 0, 1) := by decide +kernel
theorem d_LA_dropRule_1 : decode m_LA_dropRule.2.1 1 = .ok (.iload_n 1, 1) := by decide +kernel
theorem d_LA_dropRule_2 : decode m_LA_dropRule.2.1 2 = .ok (.invokevirtual 63, 3) := by decide +kernel
theorem d_LA_dropRule_5 : decode m_LA_dropRule.2.1 5 = .ok (.goto 6, 3) := by decide +kernel
theorem d_LA_dropRule_8 : decode m_LA_dropRule.2.1 8 = .ok (.astore_n 2, 1) := by decide +kernel
theorem d_LA_dropRule_9 : decode m_LA_dropRule.2.1 9 = .ok (.iconst 1, 1) := by decide +kernel
theorem d_LA_dropRule_10 : decode m_LA_dropRule.2.1 10 = .ok (.ireturn, 1) := by decide +kernel
theorem d_LA_dropRule_11 : decode m_LA_dropRule.2.1 11 = .ok (.iconst 0, 1) := by decide +kernel
theorem d_LA_dropRule_12 : decode m_LA_dropRule.2.1 12 = .ok (.ireturn, 1) := by decide +kernel
theorem d_LA_order_0 : decode m_LA_order.2.1 0 = .ok (.aload_n 2, 1) := by decide +kernel
theorem d_LA_order_1 : decode m_LA_order.2.1 1 = .ok (.iconst 0, 1) := by decide +kernel
theorem d_LA_order_2 : decode m_LA_order.2.1 2 = .ok (.aload_n 0, 1) := by decide +kernel
theorem d_LA_order_3 : decode m_LA_order.2.1 3 = .ok (.iload_n 1, 1) := by decide +kernel
theorem d_LA_order_4 : decode m_LA_order.2.1 4 = .ok (.invokevirtual 67, 3) := by decide +kernel
theorem d_LA_order_7 : decode m_LA_order.2.1 7 = .ok (.i2l, 1) := by decide +kernel
theorem d_LA_order_8 : decode m_LA_order.2.1 8 = .ok (.lastore, 1) := by decide +kernel
theorem d_LA_order_9 : decode m_LA_order.2.1 9 = .ok (.goto 6, 3) := by decide +kernel
theorem d_LA_order_12 : decode m_LA_order.2.1 12 = .ok (.astore_n 3, 1) := by decide +kernel
theorem d_LA_order_13 : decode m_LA_order.2.1 13 = .ok (.iconst 1, 1) := by decide +kernel
theorem d_LA_order_14 : decode m_LA_order.2.1 14 = .ok (.ireturn, 1) := by decide +kernel
theorem d_LA_order_15 : decode m_LA_order.2.1 15 = .ok (.iconst 0, 1) := by decide +kernel
theorem d_LA_order_16 : decode m_LA_order.2.1 16 = .ok (.ireturn, 1) := by decide +kernel
theorem d_LA_type_0 : decode m_LA_type.2.1 0 = .ok (.aload_n 3, 1) := by decide +kernel
theorem d_LA_type_1 : decode m_LA_type.2.1 1 = .ok (.iconst 0, 1) := by decide +kernel
theorem d_LA_type_2 : decode m_LA_type.2.1 2 = .ok (.aload_n 0, 1) := by decide +kernel
theorem d_LA_type_3 : decode m_LA_type.2.1 3 = .ok (.iload_n 1, 1) := by decide +kernel
theorem d_LA_type_4 : decode m_LA_type.2.1 4 = .ok (.iload_n 2, 1) := by decide +kernel
theorem d_LA_type_5 : decode m_LA_type.2.1 5 = .ok (.invokevirtual 71, 3) := by decide +kernel
theorem d_LA_type_8 : decode m_LA_type.2.1 8 = .ok (.i2l, 1) := by decide +kernel
theorem d_LA_type_9 : decode m_LA_type.2.1 9 = .ok (.lastore, 1) := by decide +kernel
theorem d_LA_type_10 : decode m_LA_type.2.1 10 = .ok (.goto 7, 3) := by decide +kernel
theorem d_LA_type_13 : decode m_LA_type.2.1 13 = .ok (.astore 4, 2) := by decide +kernel
theorem d_LA_type_15 : decode m_LA_type.2.1 15 = .ok (.iconst 1, 1) := by decide +kernel
theorem d_LA_type_16 : decode m_LA_type.2.1 16 = .ok (.ireturn, 1) := by decide +kernel
theorem d_LA_type_17 : decode m_LA_type.2.1 17 = .ok (.iconst 0, 1) := by decide +kernel
theorem d_LA_type_18 : decode m_LA_type.2.1 18 = .ok (.ireturn, 1) := by decide +kernel
theorem d_LA_enter_0 : decode m_LA_enter.2.1 0 = .ok (.aload_n 2, 1) := by decide +kernel
theorem d_LA_enter_1 : decode m_LA_enter.2.1 1 = .ok (.iconst 0, 1) := by decide +kernel
theorem d_LA_enter_2 : decode m_LA_enter.2.1 2 = .ok (.aload_n 0, 1) := by decide +kernel
theorem d_LA_enter_3 : decode m_LA_enter.2.1 3 = .ok (.iload_n 1, 1) := by decide +kernel
theorem d_LA_enter_4 : decode m_LA_enter.2.1 4 = .ok (.invokevirtual 74, 3) := by decide +kernel
theorem d_LA_enter_7 : decode m_LA_enter.2.1 7 = .ok (.i2l, 1) := by decide +kernel
theorem d_LA_enter_8 : decode m_LA_enter.2.1 8 = .ok (.lastore, 1) := by decide +kernel
theorem d_LA_enter_9 : decode m_LA_enter.2.1 9 = .ok (.goto 9, 3) := by decide +kernel
theorem d_LA_enter_12 : decode m_LA_enter.2.1 12 = .ok (.astore_n 3, 1) := by decide +kernel
theorem d_LA_enter_13 : decode m_LA_enter.2.1 13 = .ok (.iconst 1, 1) := by decide +kernel
theorem d_LA_enter_14 : decode m_LA_enter.2.1 14 = .ok (.ireturn, 1) := by decide +kernel
theorem d_LA_enter_15 : decode m_LA_enter.2.1 15 = .ok (.astore_n 3, 1) := by decide +kernel
theorem d_LA_enter_16 : decode m_LA_enter.2.1 16 = .ok (.iconst 2, 1) := by decide +kernel
theorem d_LA_enter_17 : decode m_LA_enter.2.1 17 = .ok (.ireturn, 1) := by decide +kernel
theorem d_LA_enter_18 : decode m_LA_enter.2.1 18 = .ok (.iconst 0, 1) := by decide +kernel
theorem d_LA_enter_19 : decode m_LA_enter.2.1 19 = .ok (.ireturn, 1) := by decide +kernel
theorem d_LA_put_0 : decode m_LA_put.2.1 0 = .ok (.aload 5, 2) := by decide +kernel
theorem d_LA_put_2 : decode m_LA_put.2.1 2 = .ok (.iconst 0, 1) := by decide +kernel
theorem d_LA_put_3 : decode m_LA_put.2.1 3 = .ok (.aload_n 0, 1) := by decide +kernel
theorem d_LA_put_4 : decode m_LA_put.2.1 4 = .ok (.iload_n 1, 1) := by decide +kernel
theorem d_LA_put_5 : decode m_LA_put.2.1 5 = .ok (.iload_n 2, 1) := by decide +kernel
theorem d_LA_put_6 : decode m_LA_put.2.1 6 = .ok (.iload_n 3, 1) := by decide +kernel
theorem d_LA_put_7 : decode m_LA_put.2.1 7 = .ok (.iload 4, 2) := by decide +kernel
theorem d_LA_put_9 : decode m_LA_put.2.1 9 = .ok (.invokevirtual 77, 3) := by decide +kernel
theorem d_LA_put_12 : decode m_LA_put.2.1 12 = .ok (.ifCond .eq 7, 3) := by decide +kernel
theorem d_LA_put_15 : decode m_LA_put.2.1 15 = .ok (.lconst 1, 1) := by decide +kernel
theorem d_LA_put_16 : decode m_LA_put.2.1 16 = .ok (.goto 4, 3) := by decide +kernel
theorem d_LA_put_19 : decode m_LA_put.2.1 19 = .ok (.lconst 0, 1) := by decide +kernel
theorem d_LA_put_20 : decode m_LA_put.2.1 20 = .ok (.lastore, 1) := by decide +kernel
theorem d_LA_put_21 : decode m_LA_put.2.1 21 = .ok (.goto 11, 3) := by decide +kernel
theorem d_LA_put_24 : decode m_LA_put.2.1 24 = .ok (.astore 6, 2) := by decide +kernel
theorem d_LA_put_26 : decode m_LA_put.2.1 26 = .ok (.iconst 1, 1) := by decide +kernel
theorem d_LA_put_27 : decode m_LA_put.2.1 27 = .ok (.ireturn, 1) := by decide +kernel
theorem d_LA_put_28 : decode m_LA_put.2.1 28 = .ok (.astore 6, 2) := by decide +kernel
theorem d_LA_put_30 : decode m_LA_put.2.1 30 = .ok (.iconst 2, 1) := by decide +kernel
theorem d_LA_put_31 : decode m_LA_put.2.1 31 = .ok (.ireturn, 1) := by decide +kernel
theorem d_LA_put_32 : decode m_LA_put.2.1 32 = .ok (.iconst 0, 1) := by decide +kernel
theorem d_LA_put_33 : decode m_LA_put.2.1 33 = .ok (.ireturn, 1) := by decide +kernel
theorem d_LA_remove_0 : decode m_LA_remove.2.1 0 = .ok (.aload_n 3, 1) := by decide +kernel
theorem d_LA_remove_1 : decode m_LA_remove.2.1 1 = .ok (.iconst 0, 1) := by decide +kernel
theorem d_LA_remove_2 : decode m_LA_remove.2.1 2 = .ok (.aload_n 0, 1) := by decide +kernel
theorem d_LA_remove_3 : decode m_LA_remove.2.1 3 = .ok (.iload_n 1, 1) := by decide +kernel
theorem d_LA_remove_4 : decode m_LA_remove.2.1 4 = .ok (.iload_n 2, 1) := by decide +kernel
theorem d_LA_remove_5 : decode m_LA_remove.2.1 5 = .ok (.invokevirtual 80, 3) := by decide +kernel
theorem d_LA_remove_8 : decode m_LA_remove.2.1 8 = .ok (.ifCond .eq 7, 3) := by decide +kernel
theorem d_LA_remove_11 : decode m_LA_remove.2.1 11 = .ok (.lconst 1, 1) := by decide +kernel
theorem d_LA_remove_12 : decode m_LA_remove.2.1 12 = .ok (.goto 4, 3) := by decide +kernel
theorem d_LA_remove_15 : decode m_LA_remove.2.1 15 = .ok (.lconst 0, 1) := by decide +kernel
theorem d_LA_remove_16 : decode m_LA_remove.2.1 16 = .ok (.lastore, 1) := by decide +kernel
theorem d_LA_remove_17 : decode m_LA_remove.2.1 17 = .ok (.goto 7, 3) := by decide +kernel
theorem d_LA_remove_20 : decode m_LA_remove.2.1 20 = .ok (.astore 4, 2) := by decide +kernel
theorem d_LA_remove_22 : decode m_LA_remove.2.1 22 = .ok (.iconst 1, 1) := by decide +kernel
theorem d_LA_remove_23 : decode m_LA_remove.2.1 23 = .ok (.ireturn, 1) := by decide +kernel
theorem d_LA_remove_24 : decode m_LA_remove.2.1 24 = .ok (.iconst 0, 1) := by decide +kernel
theorem d_LA_remove_25 : decode m_LA_remove.2.1 25 = .ok (.ireturn, 1) := by decide +kernel
theorem d_LA_openForm_0 : decode m_LA_openForm.2.1 0 = .ok (.aload_n 0, 1) := by decide +kernel
theorem d_LA_openForm_1 : decode m_LA_openForm.2.1 1 = .ok (.iload_n 1, 1) := by decide +kernel
theorem d_LA_openForm_2 : decode m_LA_openForm.2.1 2 = .ok (.iload_n 2, 1) := by decide +kernel
theorem d_LA_openForm_3 : decode m_LA_openForm.2.1 3 = .ok (.invokevirtual 83, 3) := by decide +kernel
theorem d_LA_openForm_6 : decode m_LA_openForm.2.1 6 = .ok (.goto 6, 3) := by decide +kernel
theorem d_LA_openForm_9 : decode m_LA_openForm.2.1 9 = .ok (.astore_n 3, 1) := by decide +kernel
theorem d_LA_openForm_10 : decode m_LA_openForm.2.1 10 = .ok (.iconst 1, 1) := by decide +kernel
theorem d_LA_openForm_11 : decode m_LA_openForm.2.1 11 = .ok (.ireturn, 1) := by decide +kernel
theorem d_LA_openForm_12 : decode m_LA_openForm.2.1 12 = .ok (.iconst 0, 1) := by decide +kernel
theorem d_LA_openForm_13 : decode m_LA_openForm.2.1 13 = .ok (.ireturn, 1) := by decide +kernel
theorem d_LA_enterInside_0 : decode m_LA_enterInside.2.1 0 = .ok (.aload_n 3, 1) := by decide +kernel
theorem d_LA_enterInside_1 : decode m_LA_enterInside.2.1 1 = .ok (.iconst 0, 1) := by decide +kernel
theorem d_LA_enterInside_2 : decode m_LA_enterInside.2.1 2 = .ok (.aload_n 0, 1) := by decide +kernel
theorem d_LA_enterInside_3 : decode m_LA_enterInside.2.1 3 = .ok (.iload_n 1, 1) := by decide +kernel
theorem d_LA_enterInside_4 : decode m_LA_enterInside.2.1 4 = .ok (.iload_n 2, 1) := by decide +kernel
theorem d_LA_enterInside_5 : decode m_LA_enterInside.2.1 5 = .ok (.invokevirtual 87, 3) := by decide +kernel
theorem d_LA_enterInside_8 : decode m_LA_enterInside.2.1 8 = .ok (.i2l, 1) := by decide +kernel
theorem d_LA_enterInside_9 : decode m_LA_enterInside.2.1 9 = .ok (.lastore, 1) := by decide +kernel
theorem d_LA_enterInside_10 : decode m_LA_enterInside.2.1 10 = .ok (.goto 15, 3) := by decide +kernel
theorem d_LA_enterInside_13 : decode m_LA_enterInside.2.1 13 = .ok (.astore 4, 2) := by decide +kernel
theorem d_LA_enterInside_15 : decode m_LA_enterInside.2.1 15 = .ok (.iconst 1, 1) := by decide +kernel
theorem d_LA_enterInside_16 : decode m_LA_enterInside.2.1 16 = .ok (.ireturn, 1) := by decide +kernel
theorem d_LA_enterInside_17 : decode m_LA_enterInside.2.1 17 = .ok (.astore 4, 2) := by decide +kernel
theorem d_LA_enterInside_19 : decode m_LA_enterInside.2.1 19 = .ok (.iconst 2, 1) := by decide +kernel
theorem d_LA_enterInside_20 : decode m_LA_enterInside.2.1 20 = .ok (.ireturn, 1) := by decide +kernel
theorem d_LA_enterInside_21 : decode m_LA_enterInside.2.1 21 = .ok (.astore 4, 2) := by decide +kernel
theorem d_LA_enterInside_23 : decode m_LA_enterInside.2.1 23 = .ok (.iconst 3, 1) := by decide +kernel
theorem d_LA_enterInside_24 : decode m_LA_enterInside.2.1 24 = .ok (.ireturn, 1) := by decide +kernel
theorem d_LA_enterInside_25 : decode m_LA_enterInside.2.1 25 = .ok (.iconst 0, 1) := by decide +kernel
theorem d_LA_enterInside_26 : decode m_LA_enterInside.2.1 26 = .ok (.ireturn, 1) := by decide +kernel
theorem d_LA_choice_0 : decode m_LA_choice.2.1 0 = .ok (.aload 5, 2) := by decide +kernel
theorem d_LA_choice_2 : decode m_LA_choice.2.1 2 = .ok (.iconst 0, 1) := by decide +kernel
theorem d_LA_choice_3 : decode m_LA_choice.2.1 3 = .ok (.aload_n 0, 1) := by decide +kernel
theorem d_LA_choice_4 : decode m_LA_choice.2.1 4 = .ok (.iload_n 1, 1) := by decide +kernel
theorem d_LA_choice_5 : decode m_LA_choice.2.1 5 = .ok (.iload_n 2, 1) := by decide +kernel
theorem d_LA_choice_6 : decode m_LA_choice.2.1 6 = .ok (.iload_n 3, 1) := by decide +kernel
theorem d_LA_choice_7 : decode m_LA_choice.2.1 7 = .ok (.iload 4, 2) := by decide +kernel
theorem d_LA_choice_9 : decode m_LA_choice.2.1 9 = .ok (.invokevirtual 90, 3) := by decide +kernel
theorem d_LA_choice_12 : decode m_LA_choice.2.1 12 = .ok (.i2l, 1) := by decide +kernel
theorem d_LA_choice_13 : decode m_LA_choice.2.1 13 = .ok (.lastore, 1) := by decide +kernel
theorem d_LA_choice_14 : decode m_LA_choice.2.1 14 = .ok (.goto 11, 3) := by decide +kernel
theorem d_LA_choice_17 : decode m_LA_choice.2.1 17 = .ok (.astore 6, 2) := by decide +kernel
theorem d_LA_choice_19 : decode m_LA_choice.2.1 19 = .ok (.iconst 1, 1) := by decide +kernel
theorem d_LA_choice_20 : decode m_LA_choice.2.1 20 = .ok (.ireturn, 1) := by decide +kernel
theorem d_LA_choice_21 : decode m_LA_choice.2.1 21 = .ok (.astore 6, 2) := by decide +kernel
theorem d_LA_choice_23 : decode m_LA_choice.2.1 23 = .ok (.iconst 2, 1) := by decide +kernel
theorem d_LA_choice_24 : decode m_LA_choice.2.1 24 = .ok (.ireturn, 1) := by decide +kernel
theorem d_LA_choice_25 : decode m_LA_choice.2.1 25 = .ok (.iconst 0, 1) := by decide +kernel
theorem d_LA_choice_26 : decode m_LA_choice.2.1 26 = .ok (.ireturn, 1) := by decide +kernel
theorem d_LA_cell_0 : decode m_LA_cell.2.1 0 = .ok (.aload 4, 2) := by decide +kernel
theorem d_LA_cell_2 : decode m_LA_cell.2.1 2 = .ok (.iconst 0, 1) := by decide +kernel
theorem d_LA_cell_3 : decode m_LA_cell.2.1 3 = .ok (.aload_n 0, 1) := by decide +kernel
theorem d_LA_cell_4 : decode m_LA_cell.2.1 4 = .ok (.iload_n 1, 1) := by decide +kernel
theorem d_LA_cell_5 : decode m_LA_cell.2.1 5 = .ok (.iload_n 2, 1) := by decide +kernel
theorem d_LA_cell_6 : decode m_LA_cell.2.1 6 = .ok (.iload_n 3, 1) := by decide +kernel
theorem d_LA_cell_7 : decode m_LA_cell.2.1 7 = .ok (.invokevirtual 93, 3) := by decide +kernel
theorem d_LA_cell_10 : decode m_LA_cell.2.1 10 = .ok (.i2l, 1) := by decide +kernel
theorem d_LA_cell_11 : decode m_LA_cell.2.1 11 = .ok (.lastore, 1) := by decide +kernel
theorem d_LA_cell_12 : decode m_LA_cell.2.1 12 = .ok (.goto 7, 3) := by decide +kernel
theorem d_LA_cell_15 : decode m_LA_cell.2.1 15 = .ok (.astore 5, 2) := by decide +kernel
theorem d_LA_cell_17 : decode m_LA_cell.2.1 17 = .ok (.iconst 1, 1) := by decide +kernel
theorem d_LA_cell_18 : decode m_LA_cell.2.1 18 = .ok (.ireturn, 1) := by decide +kernel
theorem d_LA_cell_19 : decode m_LA_cell.2.1 19 = .ok (.iconst 0, 1) := by decide +kernel
theorem d_LA_cell_20 : decode m_LA_cell.2.1 20 = .ok (.ireturn, 1) := by decide +kernel
theorem d_LA_isThere_0 : decode m_LA_isThere.2.1 0 = .ok (.aload_n 3, 1) := by decide +kernel
theorem d_LA_isThere_1 : decode m_LA_isThere.2.1 1 = .ok (.iconst 0, 1) := by decide +kernel
theorem d_LA_isThere_2 : decode m_LA_isThere.2.1 2 = .ok (.aload_n 0, 1) := by decide +kernel
theorem d_LA_isThere_3 : decode m_LA_isThere.2.1 3 = .ok (.iload_n 1, 1) := by decide +kernel
theorem d_LA_isThere_4 : decode m_LA_isThere.2.1 4 = .ok (.iload_n 2, 1) := by decide +kernel
theorem d_LA_isThere_5 : decode m_LA_isThere.2.1 5 = .ok (.invokevirtual 96, 3) := by decide +kernel
theorem d_LA_isThere_8 : decode m_LA_isThere.2.1 8 = .ok (.ifCond .eq 7, 3) := by decide +kernel
theorem d_LA_isThere_11 : decode m_LA_isThere.2.1 11 = .ok (.lconst 1, 1) := by decide +kernel
theorem d_LA_isThere_12 : decode m_LA_isThere.2.1 12 = .ok (.goto 4, 3) := by decide +kernel
theorem d_LA_isThere_15 : decode m_LA_isThere.2.1 15 = .ok (.lconst 0, 1) := by decide +kernel
theorem d_LA_isThere_16 : decode m_LA_isThere.2.1 16 = .ok (.lastore, 1) := by decide +kernel
theorem d_LA_isThere_17 : decode m_LA_isThere.2.1 17 = .ok (.goto 7, 3) := by decide +kernel
theorem d_LA_isThere_20 : decode m_LA_isThere.2.1 20 = .ok (.astore 4, 2) := by decide +kernel
theorem d_LA_isThere_22 : decode m_LA_isThere.2.1 22 = .ok (.iconst 1, 1) := by decide +kernel
theorem d_LA_isThere_23 : decode m_LA_isThere.2.1 23 = .ok (.ireturn, 1) := by decide +kernel
theorem d_LA_isThere_24 : decode m_LA_isThere.2.1 24 = .ok (.iconst 0, 1) := by decide +kernel
theorem d_LA_isThere_25 : decode m_LA_isThere.2.1 25 = .ok (.ireturn, 1) := by decide +kernel
theorem d_LA_rows_0 : decode m_LA_rows.2.1 0 = .ok (.aload_n 2, 1) := by decide +kernel
theorem d_LA_rows_1 : decode m_LA_rows.2.1 1 = .ok (.iconst 0, 1) := by decide +kernel
theorem d_LA_rows_2 : decode m_LA_rows.2.1 2 = .ok (.aload_n 0, 1) := by decide +kernel
theorem d_LA_rows_3 : decode m_LA_rows.2.1 3 = .ok (.iload_n 1, 1) := by decide +kernel
theorem d_LA_rows_4 : decode m_LA_rows.2.1 4 = .ok (.invokevirtual 99, 3) := by decide +kernel
theorem d_LA_rows_7 : decode m_LA_rows.2.1 7 = .ok (.i2l, 1) := by decide +kernel
theorem d_LA_rows_8 : decode m_LA_rows.2.1 8 = .ok (.lastore, 1) := by decide +kernel
theorem d_LA_rows_9 : decode m_LA_rows.2.1 9 = .ok (.goto 6, 3) := by decide +kernel
theorem d_LA_rows_12 : decode m_LA_rows.2.1 12 = .ok (.astore_n 3, 1) := by decide +kernel
theorem d_LA_rows_13 : decode m_LA_rows.2.1 13 = .ok (.iconst 1, 1) := by decide +kernel
theorem d_LA_rows_14 : decode m_LA_rows.2.1 14 = .ok (.ireturn, 1) := by decide +kernel
theorem d_LA_rows_15 : decode m_LA_rows.2.1 15 = .ok (.iconst 0, 1) := by decide +kernel
theorem d_LA_rows_16 : decode m_LA_rows.2.1 16 = .ok (.ireturn, 1) := by decide +kernel
theorem d_LA_ask_0 : decode m_LA_ask.2.1 0 = .ok (.aload_n 3, 1) := by decide +kernel
theorem d_LA_ask_1 : decode m_LA_ask.2.1 1 = .ok (.iconst 0, 1) := by decide +kernel
theorem d_LA_ask_2 : decode m_LA_ask.2.1 2 = .ok (.aload_n 0, 1) := by decide +kernel
theorem d_LA_ask_3 : decode m_LA_ask.2.1 3 = .ok (.iload_n 1, 1) := by decide +kernel
theorem d_LA_ask_4 : decode m_LA_ask.2.1 4 = .ok (.iload_n 2, 1) := by decide +kernel
theorem d_LA_ask_5 : decode m_LA_ask.2.1 5 = .ok (.invokevirtual 102, 3) := by decide +kernel
theorem d_LA_ask_8 : decode m_LA_ask.2.1 8 = .ok (.i2l, 1) := by decide +kernel
theorem d_LA_ask_9 : decode m_LA_ask.2.1 9 = .ok (.lastore, 1) := by decide +kernel
theorem d_LA_ask_10 : decode m_LA_ask.2.1 10 = .ok (.goto 15, 3) := by decide +kernel
theorem d_LA_ask_13 : decode m_LA_ask.2.1 13 = .ok (.astore 4, 2) := by decide +kernel
theorem d_LA_ask_15 : decode m_LA_ask.2.1 15 = .ok (.iconst 1, 1) := by decide +kernel
theorem d_LA_ask_16 : decode m_LA_ask.2.1 16 = .ok (.ireturn, 1) := by decide +kernel
theorem d_LA_ask_17 : decode m_LA_ask.2.1 17 = .ok (.astore 4, 2) := by decide +kernel
theorem d_LA_ask_19 : decode m_LA_ask.2.1 19 = .ok (.iconst 2, 1) := by decide +kernel
theorem d_LA_ask_20 : decode m_LA_ask.2.1 20 = .ok (.ireturn, 1) := by decide +kernel
theorem d_LA_ask_21 : decode m_LA_ask.2.1 21 = .ok (.astore 4, 2) := by decide +kernel
theorem d_LA_ask_23 : decode m_LA_ask.2.1 23 = .ok (.iconst 3, 1) := by decide +kernel
theorem d_LA_ask_24 : decode m_LA_ask.2.1 24 = .ok (.ireturn, 1) := by decide +kernel
theorem d_LA_ask_25 : decode m_LA_ask.2.1 25 = .ok (.iconst 0, 1) := by decide +kernel
theorem d_LA_ask_26 : decode m_LA_ask.2.1 26 = .ok (.ireturn, 1) := by decide +kernel
theorem d_LA_condition_0 : decode m_LA_condition.2.1 0 = .ok (.aload 6, 2) := by decide +kernel
theorem d_LA_condition_2 : decode m_LA_condition.2.1 2 = .ok (.iconst 0, 1) := by decide +kernel
theorem d_LA_condition_3 : decode m_LA_condition.2.1 3 = .ok (.aload_n 0, 1) := by decide +kernel
theorem d_LA_condition_4 : decode m_LA_condition.2.1 4 = .ok (.iload_n 1, 1) := by decide +kernel
theorem d_LA_condition_5 : decode m_LA_condition.2.1 5 = .ok (.iload_n 2, 1) := by decide +kernel
theorem d_LA_condition_6 : decode m_LA_condition.2.1 6 = .ok (.iload_n 3, 1) := by decide +kernel
theorem d_LA_condition_7 : decode m_LA_condition.2.1 7 = .ok (.iload 4, 2) := by decide +kernel
theorem d_LA_condition_9 : decode m_LA_condition.2.1 9 = .ok (.iload 5, 2) := by decide +kernel
theorem d_LA_condition_11 : decode m_LA_condition.2.1 11 = .ok (.invokevirtual 105, 3) := by decide +kernel
theorem d_LA_condition_14 : decode m_LA_condition.2.1 14 = .ok (.i2l, 1) := by decide +kernel
theorem d_LA_condition_15 : decode m_LA_condition.2.1 15 = .ok (.lastore, 1) := by decide +kernel
theorem d_LA_condition_16 : decode m_LA_condition.2.1 16 = .ok (.goto 15, 3) := by decide +kernel
theorem d_LA_condition_19 : decode m_LA_condition.2.1 19 = .ok (.astore 7, 2) := by decide +kernel
theorem d_LA_condition_21 : decode m_LA_condition.2.1 21 = .ok (.iconst 1, 1) := by decide +kernel
theorem d_LA_condition_22 : decode m_LA_condition.2.1 22 = .ok (.ireturn, 1) := by decide +kernel
theorem d_LA_condition_23 : decode m_LA_condition.2.1 23 = .ok (.astore 7, 2) := by decide +kernel
theorem d_LA_condition_25 : decode m_LA_condition.2.1 25 = .ok (.iconst 2, 1) := by decide +kernel
theorem d_LA_condition_26 : decode m_LA_condition.2.1 26 = .ok (.ireturn, 1) := by decide +kernel
theorem d_LA_condition_27 : decode m_LA_condition.2.1 27 = .ok (.astore 7, 2) := by decide +kernel
theorem d_LA_condition_29 : decode m_LA_condition.2.1 29 = .ok (.iconst 3, 1) := by decide +kernel
theorem d_LA_condition_30 : decode m_LA_condition.2.1 30 = .ok (.ireturn, 1) := by decide +kernel
theorem d_LA_condition_31 : decode m_LA_condition.2.1 31 = .ok (.iconst 0, 1) := by decide +kernel
theorem d_LA_condition_32 : decode m_LA_condition.2.1 32 = .ok (.ireturn, 1) := by decide +kernel
theorem d_LA_askGroups_0 : decode m_LA_askGroups.2.1 0 = .ok (.aload 4, 2) := by decide +kernel
theorem d_LA_askGroups_2 : decode m_LA_askGroups.2.1 2 = .ok (.iconst 0, 1) := by decide +kernel
theorem d_LA_askGroups_3 : decode m_LA_askGroups.2.1 3 = .ok (.aload_n 0, 1) := by decide +kernel
theorem d_LA_askGroups_4 : decode m_LA_askGroups.2.1 4 = .ok (.iload_n 1, 1) := by decide +kernel
theorem d_LA_askGroups_5 : decode m_LA_askGroups.2.1 5 = .ok (.iload_n 2, 1) := by decide +kernel
theorem d_LA_askGroups_6 : decode m_LA_askGroups.2.1 6 = .ok (.iload_n 3, 1) := by decide +kernel
theorem d_LA_askGroups_7 : decode m_LA_askGroups.2.1 7 = .ok (.invokevirtual 108, 3) := by decide +kernel
theorem d_LA_askGroups_10 : decode m_LA_askGroups.2.1 10 = .ok (.i2l, 1) := by decide +kernel
theorem d_LA_askGroups_11 : decode m_LA_askGroups.2.1 11 = .ok (.lastore, 1) := by decide +kernel
theorem d_LA_askGroups_12 : decode m_LA_askGroups.2.1 12 = .ok (.goto 15, 3) := by decide +kernel
theorem d_LA_askGroups_15 : decode m_LA_askGroups.2.1 15 = .ok (.astore 5, 2) := by decide +kernel
theorem d_LA_askGroups_17 : decode m_LA_askGroups.2.1 17 = .ok (.iconst 1, 1) := by decide +kernel
theorem d_LA_askGroups_18 : decode m_LA_askGroups.2.1 18 = .ok (.ireturn, 1) := by decide +kernel
theorem d_LA_askGroups_19 : decode m_LA_askGroups.2.1 19 = .ok (.astore 5, 2) := by decide +kernel
theorem d_LA_askGroups_21 : decode m_LA_askGroups.2.1 21 = .ok (.iconst 2, 1) := by decide +kernel
theorem d_LA_askGroups_22 : decode m_LA_askGroups.2.1 22 = .ok (.ireturn, 1) := by decide +kernel
theorem d_LA_askGroups_23 : decode m_LA_askGroups.2.1 23 = .ok (.astore 5, 2) := by decide +kernel
theorem d_LA_askGroups_25 : decode m_LA_askGroups.2.1 25 = .ok (.iconst 3, 1) := by decide +kernel
theorem d_LA_askGroups_26 : decode m_LA_askGroups.2.1 26 = .ok (.ireturn, 1) := by decide +kernel
theorem d_LA_askGroups_27 : decode m_LA_askGroups.2.1 27 = .ok (.iconst 0, 1) := by decide +kernel
theorem d_LA_askGroups_28 : decode m_LA_askGroups.2.1 28 = .ok (.ireturn, 1) := by decide +kernel
theorem d_LA_askCross_0 : decode m_LA_askCross.2.1 0 = .ok (.aload 5, 2) := by decide +kernel
theorem d_LA_askCross_2 : decode m_LA_askCross.2.1 2 = .ok (.iconst 0, 1) := by decide +kernel
theorem d_LA_askCross_3 : decode m_LA_askCross.2.1 3 = .ok (.aload_n 0, 1) := by decide +kernel
theorem d_LA_askCross_4 : decode m_LA_askCross.2.1 4 = .ok (.iload_n 1, 1) := by decide +kernel
theorem d_LA_askCross_5 : decode m_LA_askCross.2.1 5 = .ok (.iload_n 2, 1) := by decide +kernel
theorem d_LA_askCross_6 : decode m_LA_askCross.2.1 6 = .ok (.iload_n 3, 1) := by decide +kernel
theorem d_LA_askCross_7 : decode m_LA_askCross.2.1 7 = .ok (.iload 4, 2) := by decide +kernel
theorem d_LA_askCross_9 : decode m_LA_askCross.2.1 9 = .ok (.invokevirtual 111, 3) := by decide +kernel
theorem d_LA_askCross_12 : decode m_LA_askCross.2.1 12 = .ok (.i2l, 1) := by decide +kernel
theorem d_LA_askCross_13 : decode m_LA_askCross.2.1 13 = .ok (.lastore, 1) := by decide +kernel
theorem d_LA_askCross_14 : decode m_LA_askCross.2.1 14 = .ok (.goto 15, 3) := by decide +kernel
theorem d_LA_askCross_17 : decode m_LA_askCross.2.1 17 = .ok (.astore 6, 2) := by decide +kernel
theorem d_LA_askCross_19 : decode m_LA_askCross.2.1 19 = .ok (.iconst 1, 1) := by decide +kernel
theorem d_LA_askCross_20 : decode m_LA_askCross.2.1 20 = .ok (.ireturn, 1) := by decide +kernel
theorem d_LA_askCross_21 : decode m_LA_askCross.2.1 21 = .ok (.astore 6, 2) := by decide +kernel
theorem d_LA_askCross_23 : decode m_LA_askCross.2.1 23 = .ok (.iconst 2, 1) := by decide +kernel
theorem d_LA_askCross_24 : decode m_LA_askCross.2.1 24 = .ok (.ireturn, 1) := by decide +kernel
theorem d_LA_askCross_25 : decode m_LA_askCross.2.1 25 = .ok (.astore 6, 2) := by decide +kernel
theorem d_LA_askCross_27 : decode m_LA_askCross.2.1 27 = .ok (.iconst 3, 1) := by decide +kernel
theorem d_LA_askCross_28 : decode m_LA_askCross.2.1 28 = .ok (.ireturn, 1) := by decide +kernel
theorem d_LA_askCross_29 : decode m_LA_askCross.2.1 29 = .ok (.iconst 0, 1) := by decide +kernel
theorem d_LA_askCross_30 : decode m_LA_askCross.2.1 30 = .ok (.ireturn, 1) := by decide +kernel
theorem d_LA_answers_0 : decode m_LA_answers.2.1 0 = .ok (.aload_n 2, 1) := by decide +kernel
theorem d_LA_answers_1 : decode m_LA_answers.2.1 1 = .ok (.iconst 0, 1) := by decide +kernel
theorem d_LA_answers_2 : decode m_LA_answers.2.1 2 = .ok (.aload_n 0, 1) := by decide +kernel
theorem d_LA_answers_3 : decode m_LA_answers.2.1 3 = .ok (.iload_n 1, 1) := by decide +kernel
theorem d_LA_answers_4 : decode m_LA_answers.2.1 4 = .ok (.invokevirtual 114, 3) := by decide +kernel
theorem d_LA_answers_7 : decode m_LA_answers.2.1 7 = .ok (.i2l, 1) := by decide +kernel
theorem d_LA_answers_8 : decode m_LA_answers.2.1 8 = .ok (.lastore, 1) := by decide +kernel
theorem d_LA_answers_9 : decode m_LA_answers.2.1 9 = .ok (.goto 6, 3) := by decide +kernel
theorem d_LA_answers_12 : decode m_LA_answers.2.1 12 = .ok (.astore_n 3, 1) := by decide +kernel
theorem d_LA_answers_13 : decode m_LA_answers.2.1 13 = .ok (.iconst 1, 1) := by decide +kernel
theorem d_LA_answers_14 : decode m_LA_answers.2.1 14 = .ok (.ireturn, 1) := by decide +kernel
theorem d_LA_answers_15 : decode m_LA_answers.2.1 15 = .ok (.iconst 0, 1) := by decide +kernel
theorem d_LA_answers_16 : decode m_LA_answers.2.1 16 = .ok (.ireturn, 1) := by decide +kernel
theorem d_LA_columns_0 : decode m_LA_columns.2.1 0 = .ok (.aload_n 2, 1) := by decide +kernel
theorem d_LA_columns_1 : decode m_LA_columns.2.1 1 = .ok (.iconst 0, 1) := by decide +kernel
theorem d_LA_columns_2 : decode m_LA_columns.2.1 2 = .ok (.aload_n 0, 1) := by decide +kernel
theorem d_LA_columns_3 : decode m_LA_columns.2.1 3 = .ok (.iload_n 1, 1) := by decide +kernel
theorem d_LA_columns_4 : decode m_LA_columns.2.1 4 = .ok (.invokevirtual 117, 3) := by decide +kernel
theorem d_LA_columns_7 : decode m_LA_columns.2.1 7 = .ok (.i2l, 1) := by decide +kernel
theorem d_LA_columns_8 : decode m_LA_columns.2.1 8 = .ok (.lastore, 1) := by decide +kernel
theorem d_LA_columns_9 : decode m_LA_columns.2.1 9 = .ok (.goto 6, 3) := by decide +kernel
theorem d_LA_columns_12 : decode m_LA_columns.2.1 12 = .ok (.astore_n 3, 1) := by decide +kernel
theorem d_LA_columns_13 : decode m_LA_columns.2.1 13 = .ok (.iconst 1, 1) := by decide +kernel
theorem d_LA_columns_14 : decode m_LA_columns.2.1 14 = .ok (.ireturn, 1) := by decide +kernel
theorem d_LA_columns_15 : decode m_LA_columns.2.1 15 = .ok (.iconst 0, 1) := by decide +kernel
theorem d_LA_columns_16 : decode m_LA_columns.2.1 16 = .ok (.ireturn, 1) := by decide +kernel
theorem d_LA_answer_0 : decode m_LA_answer.2.1 0 = .ok (.aload 4, 2) := by decide +kernel
theorem d_LA_answer_2 : decode m_LA_answer.2.1 2 = .ok (.iconst 0, 1) := by decide +kernel
theorem d_LA_answer_3 : decode m_LA_answer.2.1 3 = .ok (.aload_n 0, 1) := by decide +kernel
theorem d_LA_answer_4 : decode m_LA_answer.2.1 4 = .ok (.iload_n 1, 1) := by decide +kernel
theorem d_LA_answer_5 : decode m_LA_answer.2.1 5 = .ok (.iload_n 2, 1) := by decide +kernel
theorem d_LA_answer_6 : decode m_LA_answer.2.1 6 = .ok (.iload_n 3, 1) := by decide +kernel
theorem d_LA_answer_7 : decode m_LA_answer.2.1 7 = .ok (.invokevirtual 120, 3) := by decide +kernel
theorem d_LA_answer_10 : decode m_LA_answer.2.1 10 = .ok (.i2l, 1) := by decide +kernel
theorem d_LA_answer_11 : decode m_LA_answer.2.1 11 = .ok (.lastore, 1) := by decide +kernel
theorem d_LA_answer_12 : decode m_LA_answer.2.1 12 = .ok (.goto 7, 3) := by decide +kernel
theorem d_LA_answer_15 : decode m_LA_answer.2.1 15 = .ok (.astore 5, 2) := by decide +kernel
theorem d_LA_answer_17 : decode m_LA_answer.2.1 17 = .ok (.iconst 1, 1) := by decide +kernel
theorem d_LA_answer_18 : decode m_LA_answer.2.1 18 = .ok (.ireturn, 1) := by decide +kernel
theorem d_LA_answer_19 : decode m_LA_answer.2.1 19 = .ok (.iconst 0, 1) := by decide +kernel
theorem d_LA_answer_20 : decode m_LA_answer.2.1 20 = .ok (.ireturn, 1) := by decide +kernel
theorem d_LA_keyOf_0 : decode m_LA_keyOf.2.1 0 = .ok (.aload_n 3, 1) := by decide +kernel
theorem d_LA_keyOf_1 : decode m_LA_keyOf.2.1 1 = .ok (.iconst 0, 1) := by decide +kernel
theorem d_LA_keyOf_2 : decode m_LA_keyOf.2.1 2 = .ok (.aload_n 0, 1) := by decide +kernel
theorem d_LA_keyOf_3 : decode m_LA_keyOf.2.1 3 = .ok (.iload_n 1, 1) := by decide +kernel
theorem d_LA_keyOf_4 : decode m_LA_keyOf.2.1 4 = .ok (.iload_n 2, 1) := by decide +kernel
theorem d_LA_keyOf_5 : decode m_LA_keyOf.2.1 5 = .ok (.invokevirtual 123, 3) := by decide +kernel
theorem d_LA_keyOf_8 : decode m_LA_keyOf.2.1 8 = .ok (.i2l, 1) := by decide +kernel
theorem d_LA_keyOf_9 : decode m_LA_keyOf.2.1 9 = .ok (.lastore, 1) := by decide +kernel
theorem d_LA_keyOf_10 : decode m_LA_keyOf.2.1 10 = .ok (.goto 11, 3) := by decide +kernel
theorem d_LA_keyOf_13 : decode m_LA_keyOf.2.1 13 = .ok (.astore 4, 2) := by decide +kernel
theorem d_LA_keyOf_15 : decode m_LA_keyOf.2.1 15 = .ok (.iconst 1, 1) := by decide +kernel
theorem d_LA_keyOf_16 : decode m_LA_keyOf.2.1 16 = .ok (.ireturn, 1) := by decide +kernel
theorem d_LA_keyOf_17 : decode m_LA_keyOf.2.1 17 = .ok (.astore 4, 2) := by decide +kernel
theorem d_LA_keyOf_19 : decode m_LA_keyOf.2.1 19 = .ok (.iconst 2, 1) := by decide +kernel
theorem d_LA_keyOf_20 : decode m_LA_keyOf.2.1 20 = .ok (.ireturn, 1) := by decide +kernel
theorem d_LA_keyOf_21 : decode m_LA_keyOf.2.1 21 = .ok (.iconst 0, 1) := by decide +kernel
theorem d_LA_keyOf_22 : decode m_LA_keyOf.2.1 22 = .ok (.ireturn, 1) := by decide +kernel
theorem d_LA_target_0 : decode m_LA_target.2.1 0 = .ok (.aload 4, 2) := by decide +kernel
theorem d_LA_target_2 : decode m_LA_target.2.1 2 = .ok (.iconst 0, 1) := by decide +kernel
theorem d_LA_target_3 : decode m_LA_target.2.1 3 = .ok (.aload_n 0, 1) := by decide +kernel
theorem d_LA_target_4 : decode m_LA_target.2.1 4 = .ok (.iload_n 1, 1) := by decide +kernel
theorem d_LA_target_5 : decode m_LA_target.2.1 5 = .ok (.iload_n 2, 1) := by decide +kernel
theorem d_LA_target_6 : decode m_LA_target.2.1 6 = .ok (.iload_n 3, 1) := by decide +kernel
theorem d_LA_target_7 : decode m_LA_target.2.1 7 = .ok (.invokevirtual 126, 3) := by decide +kernel
theorem d_LA_target_10 : decode m_LA_target.2.1 10 = .ok (.i2l, 1) := by decide +kernel
theorem d_LA_target_11 : decode m_LA_target.2.1 11 = .ok (.lastore, 1) := by decide +kernel
theorem d_LA_target_12 : decode m_LA_target.2.1 12 = .ok (.goto 7, 3) := by decide +kernel
theorem d_LA_target_15 : decode m_LA_target.2.1 15 = .ok (.astore 5, 2) := by decide +kernel
theorem d_LA_target_17 : decode m_LA_target.2.1 17 = .ok (.iconst 1, 1) := by decide +kernel
theorem d_LA_target_18 : decode m_LA_target.2.1 18 = .ok (.ireturn, 1) := by decide +kernel
theorem d_LA_target_19 : decode m_LA_target.2.1 19 = .ok (.iconst 0, 1) := by decide +kernel
theorem d_LA_target_20 : decode m_LA_target.2.1 20 = .ok (.ireturn, 1) := by decide +kernel
theorem d_LA_write_0 : decode m_LA_write.2.1 0 = .ok (.aload 5, 2) := by decide +kernel
theorem d_LA_write_2 : decode m_LA_write.2.1 2 = .ok (.iconst 0, 1) := by decide +kernel
theorem d_LA_write_3 : decode m_LA_write.2.1 3 = .ok (.aload_n 0, 1) := by decide +kernel
theorem d_LA_write_4 : decode m_LA_write.2.1 4 = .ok (.iload_n 1, 1) := by decide +kernel
theorem d_LA_write_5 : decode m_LA_write.2.1 5 = .ok (.iload_n 2, 1) := by decide +kernel
theorem d_LA_write_6 : decode m_LA_write.2.1 6 = .ok (.iload_n 3, 1) := by decide +kernel
theorem d_LA_write_7 : decode m_LA_write.2.1 7 = .ok (.iload 4, 2) := by decide +kernel
theorem d_LA_write_9 : decode m_LA_write.2.1 9 = .ok (.invokevirtual 129, 3) := by decide +kernel
theorem d_LA_write_12 : decode m_LA_write.2.1 12 = .ok (.ifCond .eq 7, 3) := by decide +kernel
theorem d_LA_write_15 : decode m_LA_write.2.1 15 = .ok (.lconst 1, 1) := by decide +kernel
theorem d_LA_write_16 : decode m_LA_write.2.1 16 = .ok (.goto 4, 3) := by decide +kernel
theorem d_LA_write_19 : decode m_LA_write.2.1 19 = .ok (.lconst 0, 1) := by decide +kernel
theorem d_LA_write_20 : decode m_LA_write.2.1 20 = .ok (.lastore, 1) := by decide +kernel
theorem d_LA_write_21 : decode m_LA_write.2.1 21 = .ok (.goto 11, 3) := by decide +kernel
theorem d_LA_write_24 : decode m_LA_write.2.1 24 = .ok (.astore 6, 2) := by decide +kernel
theorem d_LA_write_26 : decode m_LA_write.2.1 26 = .ok (.iconst 1, 1) := by decide +kernel
theorem d_LA_write_27 : decode m_LA_write.2.1 27 = .ok (.ireturn, 1) := by decide +kernel
theorem d_LA_write_28 : decode m_LA_write.2.1 28 = .ok (.astore 6, 2) := by decide +kernel
theorem d_LA_write_30 : decode m_LA_write.2.1 30 = .ok (.iconst 2, 1) := by decide +kernel
theorem d_LA_write_31 : decode m_LA_write.2.1 31 = .ok (.ireturn, 1) := by decide +kernel
theorem d_LA_write_32 : decode m_LA_write.2.1 32 = .ok (.iconst 0, 1) := by decide +kernel
theorem d_LA_write_33 : decode m_LA_write.2.1 33 = .ok (.ireturn, 1) := by decide +kernel
theorem d_LA_addAct_0 : decode m_LA_addAct.2.1 0 = .ok (.aload_n 1, 1) := by decide +kernel
theorem d_LA_addAct_1 : decode m_LA_addAct.2.1 1 = .ok (.iconst 0, 1) := by decide +kernel
theorem d_LA_addAct_2 : decode m_LA_addAct.2.1 2 = .ok (.aload_n 0, 1) := by decide +kernel
theorem d_LA_addAct_3 : decode m_LA_addAct.2.1 3 = .ok (.invokevirtual 132, 3) := by decide +kernel
theorem d_LA_addAct_6 : decode m_LA_addAct.2.1 6 = .ok (.i2l, 1) := by decide +kernel
theorem d_LA_addAct_7 : decode m_LA_addAct.2.1 7 = .ok (.lastore, 1) := by decide +kernel
theorem d_LA_addAct_8 : decode m_LA_addAct.2.1 8 = .ok (.goto 6, 3) := by decide +kernel
theorem d_LA_addAct_11 : decode m_LA_addAct.2.1 11 = .ok (.astore_n 2, 1) := by decide +kernel
theorem d_LA_addAct_12 : decode m_LA_addAct.2.1 12 = .ok (.iconst 1, 1) := by decide +kernel
theorem d_LA_addAct_13 : decode m_LA_addAct.2.1 13 = .ok (.ireturn, 1) := by decide +kernel
theorem d_LA_addAct_14 : decode m_LA_addAct.2.1 14 = .ok (.iconst 0, 1) := by decide +kernel
theorem d_LA_addAct_15 : decode m_LA_addAct.2.1 15 = .ok (.ireturn, 1) := by decide +kernel
theorem d_LA_stepPut_0 : decode m_LA_stepPut.2.1 0 = .ok (.aload 5, 2) := by decide +kernel
theorem d_LA_stepPut_2 : decode m_LA_stepPut.2.1 2 = .ok (.iconst 0, 1) := by decide +kernel
theorem d_LA_stepPut_3 : decode m_LA_stepPut.2.1 3 = .ok (.aload_n 0, 1) := by decide +kernel
theorem d_LA_stepPut_4 : decode m_LA_stepPut.2.1 4 = .ok (.iload_n 1, 1) := by decide +kernel
theorem d_LA_stepPut_5 : decode m_LA_stepPut.2.1 5 = .ok (.iload_n 2, 1) := by decide +kernel
theorem d_LA_stepPut_6 : decode m_LA_stepPut.2.1 6 = .ok (.iload_n 3, 1) := by decide +kernel
theorem d_LA_stepPut_7 : decode m_LA_stepPut.2.1 7 = .ok (.iload 4, 2) := by decide +kernel
theorem d_LA_stepPut_9 : decode m_LA_stepPut.2.1 9 = .ok (.invokevirtual 135, 3) := by decide +kernel
theorem d_LA_stepPut_12 : decode m_LA_stepPut.2.1 12 = .ok (.i2l, 1) := by decide +kernel
theorem d_LA_stepPut_13 : decode m_LA_stepPut.2.1 13 = .ok (.lastore, 1) := by decide +kernel
theorem d_LA_stepPut_14 : decode m_LA_stepPut.2.1 14 = .ok (.goto 15, 3) := by decide +kernel
theorem d_LA_stepPut_17 : decode m_LA_stepPut.2.1 17 = .ok (.astore 6, 2) := by decide +kernel
theorem d_LA_stepPut_19 : decode m_LA_stepPut.2.1 19 = .ok (.iconst 1, 1) := by decide +kernel
theorem d_LA_stepPut_20 : decode m_LA_stepPut.2.1 20 = .ok (.ireturn, 1) := by decide +kernel
theorem d_LA_stepPut_21 : decode m_LA_stepPut.2.1 21 = .ok (.astore 6, 2) := by decide +kernel
theorem d_LA_stepPut_23 : decode m_LA_stepPut.2.1 23 = .ok (.iconst 2, 1) := by decide +kernel
theorem d_LA_stepPut_24 : decode m_LA_stepPut.2.1 24 = .ok (.ireturn, 1) := by decide +kernel
theorem d_LA_stepPut_25 : decode m_LA_stepPut.2.1 25 = .ok (.astore 6, 2) := by decide +kernel
theorem d_LA_stepPut_27 : decode m_LA_stepPut.2.1 27 = .ok (.iconst 3, 1) := by decide +kernel
theorem d_LA_stepPut_28 : decode m_LA_stepPut.2.1 28 = .ok (.ireturn, 1) := by decide +kernel
theorem d_LA_stepPut_29 : decode m_LA_stepPut.2.1 29 = .ok (.iconst 0, 1) := by decide +kernel
theorem d_LA_stepPut_30 : decode m_LA_stepPut.2.1 30 = .ok (.ireturn, 1) := by decide +kernel
theorem d_LA_stepAdd_0 : decode m_LA_stepAdd.2.1 0 = .ok (.aload_n 3, 1) := by decide +kernel
theorem d_LA_stepAdd_1 : decode m_LA_stepAdd.2.1 1 = .ok (.iconst 0, 1) := by decide +kernel
theorem d_LA_stepAdd_2 : decode m_LA_stepAdd.2.1 2 = .ok (.aload_n 0, 1) := by decide +kernel
theorem d_LA_stepAdd_3 : decode m_LA_stepAdd.2.1 3 = .ok (.iload_n 1, 1) := by decide +kernel
theorem d_LA_stepAdd_4 : decode m_LA_stepAdd.2.1 4 = .ok (.iload_n 2, 1) := by decide +kernel
theorem d_LA_stepAdd_5 : decode m_LA_stepAdd.2.1 5 = .ok (.invokevirtual 138, 3) := by decide +kernel
theorem d_LA_stepAdd_8 : decode m_LA_stepAdd.2.1 8 = .ok (.i2l, 1) := by decide +kernel
theorem d_LA_stepAdd_9 : decode m_LA_stepAdd.2.1 9 = .ok (.lastore, 1) := by decide +kernel
theorem d_LA_stepAdd_10 : decode m_LA_stepAdd.2.1 10 = .ok (.goto 11, 3) := by decide +kernel
theorem d_LA_stepAdd_13 : decode m_LA_stepAdd.2.1 13 = .ok (.astore 4, 2) := by decide +kernel
theorem d_LA_stepAdd_15 : decode m_LA_stepAdd.2.1 15 = .ok (.iconst 1, 1) := by decide +kernel
theorem d_LA_stepAdd_16 : decode m_LA_stepAdd.2.1 16 = .ok (.ireturn, 1) := by decide +kernel
theorem d_LA_stepAdd_17 : decode m_LA_stepAdd.2.1 17 = .ok (.astore 4, 2) := by decide +kernel
theorem d_LA_stepAdd_19 : decode m_LA_stepAdd.2.1 19 = .ok (.iconst 2, 1) := by decide +kernel
theorem d_LA_stepAdd_20 : decode m_LA_stepAdd.2.1 20 = .ok (.ireturn, 1) := by decide +kernel
theorem d_LA_stepAdd_21 : decode m_LA_stepAdd.2.1 21 = .ok (.iconst 0, 1) := by decide +kernel
theorem d_LA_stepAdd_22 : decode m_LA_stepAdd.2.1 22 = .ok (.ireturn, 1) := by decide +kernel
theorem d_LA_stepRemove_0 : decode m_LA_stepRemove.2.1 0 = .ok (.aload 4, 2) := by decide +kernel
theorem d_LA_stepRemove_2 : decode m_LA_stepRemove.2.1 2 = .ok (.iconst 0, 1) := by decide +kernel
theorem d_LA_stepRemove_3 : decode m_LA_stepRemove.2.1 3 = .ok (.aload_n 0, 1) := by decide +kernel
theorem d_LA_stepRemove_4 : decode m_LA_stepRemove.2.1 4 = .ok (.iload_n 1, 1) := by decide +kernel
theorem d_LA_stepRemove_5 : decode m_LA_stepRemove.2.1 5 = .ok (.iload_n 2, 1) := by decide +kernel
theorem d_LA_stepRemove_6 : decode m_LA_stepRemove.2.1 6 = .ok (.iload_n 3, 1) := by decide +kernel
theorem d_LA_stepRemove_7 : decode m_LA_stepRemove.2.1 7 = .ok (.invokevirtual 141, 3) := by decide +kernel
theorem d_LA_stepRemove_10 : decode m_LA_stepRemove.2.1 10 = .ok (.i2l, 1) := by decide +kernel
theorem d_LA_stepRemove_11 : decode m_LA_stepRemove.2.1 11 = .ok (.lastore, 1) := by decide +kernel
theorem d_LA_stepRemove_12 : decode m_LA_stepRemove.2.1 12 = .ok (.goto 15, 3) := by decide +kernel
theorem d_LA_stepRemove_15 : decode m_LA_stepRemove.2.1 15 = .ok (.astore 5, 2) := by decide +kernel
theorem d_LA_stepRemove_17 : decode m_LA_stepRemove.2.1 17 = .ok (.iconst 1, 1) := by decide +kernel
theorem d_LA_stepRemove_18 : decode m_LA_stepRemove.2.1 18 = .ok (.ireturn, 1) := by decide +kernel
theorem d_LA_stepRemove_19 : decode m_LA_stepRemove.2.1 19 = .ok (.astore 5, 2) := by decide +kernel
theorem d_LA_stepRemove_21 : decode m_LA_stepRemove.2.1 21 = .ok (.iconst 2, 1) := by decide +kernel
theorem d_LA_stepRemove_22 : decode m_LA_stepRemove.2.1 22 = .ok (.ireturn, 1) := by decide +kernel
theorem d_LA_stepRemove_23 : decode m_LA_stepRemove.2.1 23 = .ok (.astore 5, 2) := by decide +kernel
theorem d_LA_stepRemove_25 : decode m_LA_stepRemove.2.1 25 = .ok (.iconst 3, 1) := by decide +kernel
theorem d_LA_stepRemove_26 : decode m_LA_stepRemove.2.1 26 = .ok (.ireturn, 1) := by decide +kernel
theorem d_LA_stepRemove_27 : decode m_LA_stepRemove.2.1 27 = .ok (.iconst 0, 1) := by decide +kernel
theorem d_LA_stepRemove_28 : decode m_LA_stepRemove.2.1 28 = .ok (.ireturn, 1) := by decide +kernel
theorem d_LA_stepIf_0 : decode m_LA_stepIf.2.1 0 = .ok (.aload 4, 2) := by decide +kernel
theorem d_LA_stepIf_2 : decode m_LA_stepIf.2.1 2 = .ok (.iconst 0, 1) := by decide +kernel
theorem d_LA_stepIf_3 : decode m_LA_stepIf.2.1 3 = .ok (.aload_n 0, 1) := by decide +kernel
theorem d_LA_stepIf_4 : decode m_LA_stepIf.2.1 4 = .ok (.iload_n 1, 1) := by decide +kernel
theorem d_LA_stepIf_5 : decode m_LA_stepIf.2.1 5 = .ok (.iload_n 2, 1) := by decide +kernel
theorem d_LA_stepIf_6 : decode m_LA_stepIf.2.1 6 = .ok (.iload_n 3, 1) := by decide +kernel
theorem d_LA_stepIf_7 : decode m_LA_stepIf.2.1 7 = .ok (.invokevirtual 144, 3) := by decide +kernel
theorem d_LA_stepIf_10 : decode m_LA_stepIf.2.1 10 = .ok (.i2l, 1) := by decide +kernel
theorem d_LA_stepIf_11 : decode m_LA_stepIf.2.1 11 = .ok (.lastore, 1) := by decide +kernel
theorem d_LA_stepIf_12 : decode m_LA_stepIf.2.1 12 = .ok (.goto 15, 3) := by decide +kernel
theorem d_LA_stepIf_15 : decode m_LA_stepIf.2.1 15 = .ok (.astore 5, 2) := by decide +kernel
theorem d_LA_stepIf_17 : decode m_LA_stepIf.2.1 17 = .ok (.iconst 1, 1) := by decide +kernel
theorem d_LA_stepIf_18 : decode m_LA_stepIf.2.1 18 = .ok (.ireturn, 1) := by decide +kernel
theorem d_LA_stepIf_19 : decode m_LA_stepIf.2.1 19 = .ok (.astore 5, 2) := by decide +kernel
theorem d_LA_stepIf_21 : decode m_LA_stepIf.2.1 21 = .ok (.iconst 2, 1) := by decide +kernel
theorem d_LA_stepIf_22 : decode m_LA_stepIf.2.1 22 = .ok (.ireturn, 1) := by decide +kernel
theorem d_LA_stepIf_23 : decode m_LA_stepIf.2.1 23 = .ok (.astore 5, 2) := by decide +kernel
theorem d_LA_stepIf_25 : decode m_LA_stepIf.2.1 25 = .ok (.iconst 3, 1) := by decide +kernel
theorem d_LA_stepIf_26 : decode m_LA_stepIf.2.1 26 = .ok (.ireturn, 1) := by decide +kernel
theorem d_LA_stepIf_27 : decode m_LA_stepIf.2.1 27 = .ok (.iconst 0, 1) := by decide +kernel
theorem d_LA_stepIf_28 : decode m_LA_stepIf.2.1 28 = .ok (.ireturn, 1) := by decide +kernel
theorem d_LA_run_0 : decode m_LA_run.2.1 0 = .ok (.aload_n 2, 1) := by decide +kernel
theorem d_LA_run_1 : decode m_LA_run.2.1 1 = .ok (.iconst 0, 1) := by decide +kernel
theorem d_LA_run_2 : decode m_LA_run.2.1 2 = .ok (.aload_n 0, 1) := by decide +kernel
theorem d_LA_run_3 : decode m_LA_run.2.1 3 = .ok (.iload_n 1, 1) := by decide +kernel
theorem d_LA_run_4 : decode m_LA_run.2.1 4 = .ok (.invokevirtual 147, 3) := by decide +kernel
theorem d_LA_run_7 : decode m_LA_run.2.1 7 = .ok (.ifCond .eq 7, 3) := by decide +kernel
theorem d_LA_run_10 : decode m_LA_run.2.1 10 = .ok (.lconst 1, 1) := by decide +kernel
theorem d_LA_run_11 : decode m_LA_run.2.1 11 = .ok (.goto 4, 3) := by decide +kernel
theorem d_LA_run_14 : decode m_LA_run.2.1 14 = .ok (.lconst 0, 1) := by decide +kernel
theorem d_LA_run_15 : decode m_LA_run.2.1 15 = .ok (.lastore, 1) := by decide +kernel
theorem d_LA_run_16 : decode m_LA_run.2.1 16 = .ok (.goto 6, 3) := by decide +kernel
theorem d_LA_run_19 : decode m_LA_run.2.1 19 = .ok (.astore_n 3, 1) := by decide +kernel
theorem d_LA_run_20 : decode m_LA_run.2.1 20 = .ok (.iconst 1, 1) := by decide +kernel
theorem d_LA_run_21 : decode m_LA_run.2.1 21 = .ok (.ireturn, 1) := by decide +kernel
theorem d_LA_run_22 : decode m_LA_run.2.1 22 = .ok (.iconst 0, 1) := by decide +kernel
theorem d_LA_run_23 : decode m_LA_run.2.1 23 = .ok (.ireturn, 1) := by decide +kernel
theorem d_LA_undo_0 : decode m_LA_undo.2.1 0 = .ok (.aload_n 1, 1) := by decide +kernel
theorem d_LA_undo_1 : decode m_LA_undo.2.1 1 = .ok (.iconst 0, 1) := by decide +kernel
theorem d_LA_undo_2 : decode m_LA_undo.2.1 2 = .ok (.aload_n 0, 1) := by decide +kernel
theorem d_LA_undo_3 : decode m_LA_undo.2.1 3 = .ok (.invokevirtual 151, 3) := by decide +kernel
theorem d_LA_undo_6 : decode m_LA_undo.2.1 6 = .ok (.i2l, 1) := by decide +kernel
theorem d_LA_undo_7 : decode m_LA_undo.2.1 7 = .ok (.lastore, 1) := by decide +kernel
theorem d_LA_undo_8 : decode m_LA_undo.2.1 8 = .ok (.goto 6, 3) := by decide +kernel
theorem d_LA_undo_11 : decode m_LA_undo.2.1 11 = .ok (.astore_n 2, 1) := by decide +kernel
theorem d_LA_undo_12 : decode m_LA_undo.2.1 12 = .ok (.iconst 1, 1) := by decide +kernel
theorem d_LA_undo_13 : decode m_LA_undo.2.1 13 = .ok (.ireturn, 1) := by decide +kernel
theorem d_LA_undo_14 : decode m_LA_undo.2.1 14 = .ok (.iconst 0, 1) := by decide +kernel
theorem d_LA_undo_15 : decode m_LA_undo.2.1 15 = .ok (.ireturn, 1) := by decide +kernel

theorem d_JF_fill_0 : decode m_JF_fill.2.1 0 = .ok (.iconst 0, 1) := by decide +kernel
theorem d_JF_fill_1 : decode m_JF_fill.2.1 1 = .ok (.istore_n 2, 1) := by decide +kernel
theorem d_JF_fill_2 : decode m_JF_fill.2.1 2 = .ok (.aload_n 0, 1) := by decide +kernel
theorem d_JF_fill_3 : decode m_JF_fill.2.1 3 = .ok (.arraylength, 1) := by decide +kernel
theorem d_JF_fill_4 : decode m_JF_fill.2.1 4 = .ok (.istore_n 3, 1) := by decide +kernel
theorem d_JF_fill_5 : decode m_JF_fill.2.1 5 = .ok (.iload_n 2, 1) := by decide +kernel
theorem d_JF_fill_6 : decode m_JF_fill.2.1 6 = .ok (.iload_n 3, 1) := by decide +kernel
theorem d_JF_fill_7 : decode m_JF_fill.2.1 7 = .ok (.if_icmp .ge 13, 3) := by decide +kernel
theorem d_JF_fill_10 : decode m_JF_fill.2.1 10 = .ok (.aload_n 0, 1) := by decide +kernel
theorem d_JF_fill_11 : decode m_JF_fill.2.1 11 = .ok (.iload_n 2, 1) := by decide +kernel
theorem d_JF_fill_12 : decode m_JF_fill.2.1 12 = .ok (.iload_n 1, 1) := by decide +kernel
theorem d_JF_fill_13 : decode m_JF_fill.2.1 13 = .ok (.iastore, 1) := by decide +kernel
theorem d_JF_fill_14 : decode m_JF_fill.2.1 14 = .ok (.iinc 2 1, 3) := by decide +kernel
theorem d_JF_fill_17 : decode m_JF_fill.2.1 17 = .ok (.goto (-12), 3) := by decide +kernel
theorem d_JF_fill_20 : decode m_JF_fill.2.1 20 = .ok (.return_, 1) := by decide +kernel

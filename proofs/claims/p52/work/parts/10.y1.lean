noncomputable section
theorem cw_LH_sets_286 : am_cv m_LH_sets m_CB_wouldLoseAll 107 2 := ⟨⟨ok_CB_wouldLoseAll, rfl, by decide +kernel, by decide, by decide⟩, aw_4_157, aw_4_158, aw_4_159⟩
theorem cw_LH_sets_277 : am_cv m_LH_sets m_CB_wouldLose 104 4 := ⟨⟨ok_CB_wouldLose, rfl, by decide +kernel, by decide, by decide⟩, aw_4_149, aw_4_150, aw_4_151⟩
theorem cw_LH_sets_258 : am_cv m_LH_sets m_CB_cell 101 3 := ⟨⟨ok_CB_cell, rfl, by decide +kernel, by decide, by decide⟩, aw_4_144, aw_4_145, aw_4_146⟩
theorem cw_LH_sets_241 : am_cv m_LH_sets m_CB_choice 97 4 := ⟨⟨ok_CB_choice, rfl, by decide +kernel, by decide, by decide⟩, aw_4_135, aw_4_136, aw_4_137⟩
theorem cw_LH_sets_214 : am_cv m_LH_sets m_CB_put 94 4 := ⟨⟨ok_CB_put, rfl, by decide +kernel, by decide, by decide⟩, aw_4_131, aw_4_132, aw_4_133⟩
theorem cw_LH_sets_195 : am_cv m_LH_sets m_CB_addRule 91 5 := ⟨⟨ok_CB_addRule, rfl, by decide +kernel, by decide, by decide⟩, aw_4_119, aw_4_120, aw_4_121⟩
theorem cw_LH_sets_174 : am_cv m_LH_sets m_CB_setRemoval 88 3 := ⟨⟨ok_CB_setRemoval, rfl, by decide +kernel, by decide, by decide⟩, aw_4_115, aw_4_116, aw_4_117⟩
theorem cw_LH_sets_149 : am_cv m_LH_sets m_CB_drop 85 2 := ⟨⟨ok_CB_drop, rfl, by decide +kernel, by decide, by decide⟩, aw_4_81, aw_4_82, aw_4_83⟩
theorem cw_LH_sets_127 : am_cv m_LH_sets m_CB_narrow 81 4 := ⟨⟨ok_CB_narrow, rfl, by decide +kernel, by decide, by decide⟩, aw_4_69, aw_4_70, aw_4_71⟩
theorem cw_LH_sets_101 : am_cv m_LH_sets m_CB_single 78 3 := ⟨⟨ok_CB_single, rfl, by decide +kernel, by decide, by decide⟩, aw_4_61, aw_4_62, aw_4_63⟩
theorem cw_LH_sets_68 : am_cv m_LH_sets m_CB_need 74 3 := ⟨⟨ok_CB_need, rfl, by decide +kernel, by decide, by decide⟩, aw_4_48, aw_4_49, aw_4_50⟩
theorem cw_LH_sets_35 : am_cv m_LH_sets m_CB_reckonAnew 70 6 := ⟨⟨ok_CB_reckonAnew, rfl, by decide +kernel, by decide, by decide⟩, aw_4_40, aw_4_41, aw_4_42⟩
theorem cw_LH_sets_13 : am_cv m_LH_sets m_CB_addReckoned 66 5 := ⟨⟨ok_CB_addReckoned, rfl, by decide +kernel, by decide, by decide⟩, aw_3_224, aw_3_225, aw_3_226⟩
theorem hd_LH_sets_101_1 : am_hd m_LH_sets 101 (am_exn 1) 290 := ⟨[], ⟨0, 289, 290, 55⟩, [⟨0, 289, 295, 58⟩, ⟨0, 289, 300, 60⟩], rfl, by decide, rfl, by decide, aw_1_196, by decide +kernel, fun z h => absurd h List.not_mem_nil⟩
theorem hd_LH_sets_101_2 : am_hd m_LH_sets 101 (am_exn 2) 295 := ⟨[⟨0, 289, 290, 55⟩], ⟨0, 289, 295, 58⟩, [⟨0, 289, 300, 60⟩], rfl, by decide, rfl, by decide, aw_1_197, by decide +kernel, List.forall_mem_cons.mpr ⟨Or.inr ⟨by decide, "java/lang/IndexOutOfBoundsException", aw_1_196, by decide⟩, fun z h => absurd h List.not_mem_nil⟩⟩
theorem hd_LH_sets_101_3 : am_hd m_LH_sets 101 (am_exn 3) 300 := ⟨[⟨0, 289, 290, 55⟩, ⟨0, 289, 295, 58⟩], ⟨0, 289, 300, 60⟩, [], rfl, by decide, rfl, by decide, aw_1_198, by decide +kernel, List.forall_mem_cons.mpr ⟨Or.inr ⟨by decide, "java/lang/IndexOutOfBoundsException", aw_1_196, by decide⟩, List.forall_mem_cons.mpr ⟨Or.inr ⟨by decide, "java/lang/IllegalArgumentException", aw_1_197, by decide⟩, fun z h => absurd h List.not_mem_nil⟩⟩⟩
theorem hd_LH_sets_127_1 : am_hd m_LH_sets 127 (am_exn 1) 290 := ⟨[], ⟨0, 289, 290, 55⟩, [⟨0, 289, 295, 58⟩, ⟨0, 289, 300, 60⟩], rfl, by decide, rfl, by decide, aw_1_196, by decide +kernel, fun z h => absurd h List.not_mem_nil⟩
theorem hd_LH_sets_127_2 : am_hd m_LH_sets 127 (am_exn 2) 295 := ⟨[⟨0, 289, 290, 55⟩], ⟨0, 289, 295, 58⟩, [⟨0, 289, 300, 60⟩], rfl, by decide, rfl, by decide, aw_1_197, by decide +kernel, List.forall_mem_cons.mpr ⟨Or.inr ⟨by decide, "java/lang/IndexOutOfBoundsException", aw_1_196, by decide⟩, fun z h => absurd h List.not_mem_nil⟩⟩
theorem hd_LH_sets_127_3 : am_hd m_LH_sets 127 (am_exn 3) 300 := ⟨[⟨0, 289, 290, 55⟩, ⟨0, 289, 295, 58⟩], ⟨0, 289, 300, 60⟩, [], rfl, by decide, rfl, by decide, aw_1_198, by decide +kernel, List.forall_mem_cons.mpr ⟨Or.inr ⟨by decide, "java/lang/IndexOutOfBoundsException", aw_1_196, by decide⟩, List.forall_mem_cons.mpr ⟨Or.inr ⟨by decide, "java/lang/IllegalArgumentException", aw_1_197, by decide⟩, fun z h => absurd h List.not_mem_nil⟩⟩⟩
theorem hd_LH_sets_13_1 : am_hd m_LH_sets 13 (am_exn 1) 290 := ⟨[], ⟨0, 289, 290, 55⟩, [⟨0, 289, 295, 58⟩, ⟨0, 289, 300, 60⟩], rfl, by decide, rfl, by decide, aw_1_196, by decide +kernel, fun z h => absurd h List.not_mem_nil⟩
theorem hd_LH_sets_13_2 : am_hd m_LH_sets 13 (am_exn 2) 295 := ⟨[⟨0, 289, 290, 55⟩], ⟨0, 289, 295, 58⟩, [⟨0, 289, 300, 60⟩], rfl, by decide, rfl, by decide, aw_1_197, by decide +kernel, List.forall_mem_cons.mpr ⟨Or.inr ⟨by decide, "java/lang/IndexOutOfBoundsException", aw_1_196, by decide⟩, fun z h => absurd h List.not_mem_nil⟩⟩
theorem hd_LH_sets_13_3 : am_hd m_LH_sets 13 (am_exn 3) 300 := ⟨[⟨0, 289, 290, 55⟩, ⟨0, 289, 295, 58⟩], ⟨0, 289, 300, 60⟩, [], rfl, by decide, rfl, by decide, aw_1_198, by decide +kernel, List.forall_mem_cons.mpr ⟨Or.inr ⟨by decide, "java/lang/IndexOutOfBoundsException", aw_1_196, by decide⟩, List.forall_mem_cons.mpr ⟨Or.inr ⟨by decide, "java/lang/IllegalArgumentException", aw_1_197, by decide⟩, fun z h => absurd h List.not_mem_nil⟩⟩⟩
theorem hd_LH_sets_149_1 : am_hd m_LH_sets 149 (am_exn 1) 290 := ⟨[], ⟨0, 289, 290, 55⟩, [⟨0, 289, 295, 58⟩, ⟨0, 289, 300, 60⟩], rfl, by decide, rfl, by decide, aw_1_196, by decide +kernel, fun z h => absurd h List.not_mem_nil⟩
theorem hd_LH_sets_149_2 : am_hd m_LH_sets 149 (am_exn 2) 295 := ⟨[⟨0, 289, 290, 55⟩], ⟨0, 289, 295, 58⟩, [⟨0, 289, 300, 60⟩], rfl, by decide, rfl, by decide, aw_1_197, by decide +kernel, List.forall_mem_cons.mpr ⟨Or.inr ⟨by decide, "java/lang/IndexOutOfBoundsException", aw_1_196, by decide⟩, fun z h => absurd h List.not_mem_nil⟩⟩
theorem hd_LH_sets_149_3 : am_hd m_LH_sets 149 (am_exn 3) 300 := ⟨[⟨0, 289, 290, 55⟩, ⟨0, 289, 295, 58⟩], ⟨0, 289, 300, 60⟩, [], rfl, by decide, rfl, by decide, aw_1_198, by decide +kernel, List.forall_mem_cons.mpr ⟨Or.inr ⟨by decide, "java/lang/IndexOutOfBoundsException", aw_1_196, by decide⟩, List.forall_mem_cons.mpr ⟨Or.inr ⟨by decide, "java/lang/IllegalArgumentException", aw_1_197, by decide⟩, fun z h => absurd h List.not_mem_nil⟩⟩⟩
theorem hd_LH_sets_174_1 : am_hd m_LH_sets 174 (am_exn 1) 290 := ⟨[], ⟨0, 289, 290, 55⟩, [⟨0, 289, 295, 58⟩, ⟨0, 289, 300, 60⟩], rfl, by decide, rfl, by decide, aw_1_196, by decide +kernel, fun z h => absurd h List.not_mem_nil⟩
theorem hd_LH_sets_174_2 : am_hd m_LH_sets 174 (am_exn 2) 295 := ⟨[⟨0, 289, 290, 55⟩], ⟨0, 289, 295, 58⟩, [⟨0, 289, 300, 60⟩], rfl, by decide, rfl, by decide, aw_1_197, by decide +kernel, List.forall_mem_cons.mpr ⟨Or.inr ⟨by decide, "java/lang/IndexOutOfBoundsException", aw_1_196, by decide⟩, fun z h => absurd h List.not_mem_nil⟩⟩
theorem hd_LH_sets_174_3 : am_hd m_LH_sets 174 (am_exn 3) 300 := ⟨[⟨0, 289, 290, 55⟩, ⟨0, 289, 295, 58⟩], ⟨0, 289, 300, 60⟩, [], rfl, by decide, rfl, by decide, aw_1_198, by decide +kernel, List.forall_mem_cons.mpr ⟨Or.inr ⟨by decide, "java/lang/IndexOutOfBoundsException", aw_1_196, by decide⟩, List.forall_mem_cons.mpr ⟨Or.inr ⟨by decide, "java/lang/IllegalArgumentException", aw_1_197, by decide⟩, fun z h => absurd h List.not_mem_nil⟩⟩⟩
theorem hd_LH_sets_195_1 : am_hd m_LH_sets 195 (am_exn 1) 290 := ⟨[], ⟨0, 289, 290, 55⟩, [⟨0, 289, 295, 58⟩, ⟨0, 289, 300, 60⟩], rfl, by decide, rfl, by decide, aw_1_196, by decide +kernel, fun z h => absurd h List.not_mem_nil⟩
theorem hd_LH_sets_195_2 : am_hd m_LH_sets 195 (am_exn 2) 295 := ⟨[⟨0, 289, 290, 55⟩], ⟨0, 289, 295, 58⟩, [⟨0, 289, 300, 60⟩], rfl, by decide, rfl, by decide, aw_1_197, by decide +kernel, List.forall_mem_cons.mpr ⟨Or.inr ⟨by decide, "java/lang/IndexOutOfBoundsException", aw_1_196, by decide⟩, fun z h => absurd h List.not_mem_nil⟩⟩
theorem hd_LH_sets_195_3 : am_hd m_LH_sets 195 (am_exn 3) 300 := ⟨[⟨0, 289, 290, 55⟩, ⟨0, 289, 295, 58⟩], ⟨0, 289, 300, 60⟩, [], rfl, by decide, rfl, by decide, aw_1_198, by decide +kernel, List.forall_mem_cons.mpr ⟨Or.inr ⟨by decide, "java/lang/IndexOutOfBoundsException", aw_1_196, by decide⟩, List.forall_mem_cons.mpr ⟨Or.inr ⟨by decide, "java/lang/IllegalArgumentException", aw_1_197, by decide⟩, fun z h => absurd h List.not_mem_nil⟩⟩⟩
theorem hd_LH_sets_214_1 : am_hd m_LH_sets 214 (am_exn 1) 290 := ⟨[], ⟨0, 289, 290, 55⟩, [⟨0, 289, 295, 58⟩, ⟨0, 289, 300, 60⟩], rfl, by decide, rfl, by decide, aw_1_196, by decide +kernel, fun z h => absurd h List.not_mem_nil⟩
theorem hd_LH_sets_214_2 : am_hd m_LH_sets 214 (am_exn 2) 295 := ⟨[⟨0, 289, 290, 55⟩], ⟨0, 289, 295, 58⟩, [⟨0, 289, 300, 60⟩], rfl, by decide, rfl, by decide, aw_1_197, by decide +kernel, List.forall_mem_cons.mpr ⟨Or.inr ⟨by decide, "java/lang/IndexOutOfBoundsException", aw_1_196, by decide⟩, fun z h => absurd h List.not_mem_nil⟩⟩
theorem hd_LH_sets_214_3 : am_hd m_LH_sets 214 (am_exn 3) 300 := ⟨[⟨0, 289, 290, 55⟩, ⟨0, 289, 295, 58⟩], ⟨0, 289, 300, 60⟩, [], rfl, by decide, rfl, by decide, aw_1_198, by decide +kernel, List.forall_mem_cons.mpr ⟨Or.inr ⟨by decide, "java/lang/IndexOutOfBoundsException", aw_1_196, by decide⟩, List.forall_mem_cons.mpr ⟨Or.inr ⟨by decide, "java/lang/IllegalArgumentException", aw_1_197, by decide⟩, fun z h => absurd h List.not_mem_nil⟩⟩⟩
theorem hd_LH_sets_241_1 : am_hd m_LH_sets 241 (am_exn 1) 290 := ⟨[], ⟨0, 289, 290, 55⟩, [⟨0, 289, 295, 58⟩, ⟨0, 289, 300, 60⟩], rfl, by decide, rfl, by decide, aw_1_196, by decide +kernel, fun z h => absurd h List.not_mem_nil⟩
theorem hd_LH_sets_241_2 : am_hd m_LH_sets 241 (am_exn 2) 295 := ⟨[⟨0, 289, 290, 55⟩], ⟨0, 289, 295, 58⟩, [⟨0, 289, 300, 60⟩], rfl, by decide, rfl, by decide, aw_1_197, by decide +kernel, List.forall_mem_cons.mpr ⟨Or.inr ⟨by decide, "java/lang/IndexOutOfBoundsException", aw_1_196, by decide⟩, fun z h => absurd h List.not_mem_nil⟩⟩
theorem hd_LH_sets_241_3 : am_hd m_LH_sets 241 (am_exn 3) 300 := ⟨[⟨0, 289, 290, 55⟩, ⟨0, 289, 295, 58⟩], ⟨0, 289, 300, 60⟩, [], rfl, by decide, rfl, by decide, aw_1_198, by decide +kernel, List.forall_mem_cons.mpr ⟨Or.inr ⟨by decide, "java/lang/IndexOutOfBoundsException", aw_1_196, by decide⟩, List.forall_mem_cons.mpr ⟨Or.inr ⟨by decide, "java/lang/IllegalArgumentException", aw_1_197, by decide⟩, fun z h => absurd h List.not_mem_nil⟩⟩⟩
theorem hd_LH_sets_258_1 : am_hd m_LH_sets 258 (am_exn 1) 290 := ⟨[], ⟨0, 289, 290, 55⟩, [⟨0, 289, 295, 58⟩, ⟨0, 289, 300, 60⟩], rfl, by decide, rfl, by decide, aw_1_196, by decide +kernel, fun z h => absurd h List.not_mem_nil⟩
theorem hd_LH_sets_258_2 : am_hd m_LH_sets 258 (am_exn 2) 295 := ⟨[⟨0, 289, 290, 55⟩], ⟨0, 289, 295, 58⟩, [⟨0, 289, 300, 60⟩], rfl, by decide, rfl, by decide, aw_1_197, by decide +kernel, List.forall_mem_cons.mpr ⟨Or.inr ⟨by decide, "java/lang/IndexOutOfBoundsException", aw_1_196, by decide⟩, fun z h => absurd h List.not_mem_nil⟩⟩
theorem hd_LH_sets_258_3 : am_hd m_LH_sets 258 (am_exn 3) 300 := ⟨[⟨0, 289, 290, 55⟩, ⟨0, 289, 295, 58⟩], ⟨0, 289, 300, 60⟩, [], rfl, by decide, rfl, by decide, aw_1_198, by decide +kernel, List.forall_mem_cons.mpr ⟨Or.inr ⟨by decide, "java/lang/IndexOutOfBoundsException", aw_1_196, by decide⟩, List.forall_mem_cons.mpr ⟨Or.inr ⟨by decide, "java/lang/IllegalArgumentException", aw_1_197, by decide⟩, fun z h => absurd h List.not_mem_nil⟩⟩⟩
theorem hd_LH_sets_277_1 : am_hd m_LH_sets 277 (am_exn 1) 290 := ⟨[], ⟨0, 289, 290, 55⟩, [⟨0, 289, 295, 58⟩, ⟨0, 289, 300, 60⟩], rfl, by decide, rfl, by decide, aw_1_196, by decide +kernel, fun z h => absurd h List.not_mem_nil⟩
theorem hd_LH_sets_277_2 : am_hd m_LH_sets 277 (am_exn 2) 295 := ⟨[⟨0, 289, 290, 55⟩], ⟨0, 289, 295, 58⟩, [⟨0, 289, 300, 60⟩], rfl, by decide, rfl, by decide, aw_1_197, by decide +kernel, List.forall_mem_cons.mpr ⟨Or.inr ⟨by decide, "java/lang/IndexOutOfBoundsException", aw_1_196, by decide⟩, fun z h => absurd h List.not_mem_nil⟩⟩
theorem hd_LH_sets_277_3 : am_hd m_LH_sets 277 (am_exn 3) 300 := ⟨[⟨0, 289, 290, 55⟩, ⟨0, 289, 295, 58⟩], ⟨0, 289, 300, 60⟩, [], rfl, by decide, rfl, by decide, aw_1_198, by decide +kernel, List.forall_mem_cons.mpr ⟨Or.inr ⟨by decide, "java/lang/IndexOutOfBoundsException", aw_1_196, by decide⟩, List.forall_mem_cons.mpr ⟨Or.inr ⟨by decide, "java/lang/IllegalArgumentException", aw_1_197, by decide⟩, fun z h => absurd h List.not_mem_nil⟩⟩⟩
theorem hd_LH_sets_286_1 : am_hd m_LH_sets 286 (am_exn 1) 290 := ⟨[], ⟨0, 289, 290, 55⟩, [⟨0, 289, 295, 58⟩, ⟨0, 289, 300, 60⟩], rfl, by decide, rfl, by decide, aw_1_196, by decide +kernel, fun z h => absurd h List.not_mem_nil⟩
theorem hd_LH_sets_286_2 : am_hd m_LH_sets 286 (am_exn 2) 295 := ⟨[⟨0, 289, 290, 55⟩], ⟨0, 289, 295, 58⟩, [⟨0, 289, 300, 60⟩], rfl, by decide, rfl, by decide, aw_1_197, by decide +kernel, List.forall_mem_cons.mpr ⟨Or.inr ⟨by decide, "java/lang/IndexOutOfBoundsException", aw_1_196, by decide⟩, fun z h => absurd h List.not_mem_nil⟩⟩
theorem hd_LH_sets_286_3 : am_hd m_LH_sets 286 (am_exn 3) 300 := ⟨[⟨0, 289, 290, 55⟩, ⟨0, 289, 295, 58⟩], ⟨0, 289, 300, 60⟩, [], rfl, by decide, rfl, by decide, aw_1_198, by decide +kernel, List.forall_mem_cons.mpr ⟨Or.inr ⟨by decide, "java/lang/IndexOutOfBoundsException", aw_1_196, by decide⟩, List.forall_mem_cons.mpr ⟨Or.inr ⟨by decide, "java/lang/IllegalArgumentException", aw_1_197, by decide⟩, fun z h => absurd h List.not_mem_nil⟩⟩⟩
theorem hd_LH_sets_35_1 : am_hd m_LH_sets 35 (am_exn 1) 290 := ⟨[], ⟨0, 289, 290, 55⟩, [⟨0, 289, 295, 58⟩, ⟨0, 289, 300, 60⟩], rfl, by decide, rfl, by decide, aw_1_196, by decide +kernel, fun z h => absurd h List.not_mem_nil⟩
theorem hd_LH_sets_35_2 : am_hd m_LH_sets 35 (am_exn 2) 295 := ⟨[⟨0, 289, 290, 55⟩], ⟨0, 289, 295, 58⟩, [⟨0, 289, 300, 60⟩], rfl, by decide, rfl, by decide, aw_1_197, by decide +kernel, List.forall_mem_cons.mpr ⟨Or.inr ⟨by decide, "java/lang/IndexOutOfBoundsException", aw_1_196, by decide⟩, fun z h => absurd h List.not_mem_nil⟩⟩
theorem hd_LH_sets_35_3 : am_hd m_LH_sets 35 (am_exn 3) 300 := ⟨[⟨0, 289, 290, 55⟩, ⟨0, 289, 295, 58⟩], ⟨0, 289, 300, 60⟩, [], rfl, by decide, rfl, by decide, aw_1_198, by decide +kernel, List.forall_mem_cons.mpr ⟨Or.inr ⟨by decide, "java/lang/IndexOutOfBoundsException", aw_1_196, by decide⟩, List.forall_mem_cons.mpr ⟨Or.inr ⟨by decide, "java/lang/IllegalArgumentException", aw_1_197, by decide⟩, fun z h => absurd h List.not_mem_nil⟩⟩⟩
theorem hd_LH_sets_68_1 : am_hd m_LH_sets 68 (am_exn 1) 290 := ⟨[], ⟨0, 289, 290, 55⟩, [⟨0, 289, 295, 58⟩, ⟨0, 289, 300, 60⟩], rfl, by decide, rfl, by decide, aw_1_196, by decide +kernel, fun z h => absurd h List.not_mem_nil⟩
theorem hd_LH_sets_68_2 : am_hd m_LH_sets 68 (am_exn 2) 295 := ⟨[⟨0, 289, 290, 55⟩], ⟨0, 289, 295, 58⟩, [⟨0, 289, 300, 60⟩], rfl, by decide, rfl, by decide, aw_1_197, by decide +kernel, List.forall_mem_cons.mpr ⟨Or.inr ⟨by decide, "java/lang/IndexOutOfBoundsException", aw_1_196, by decide⟩, fun z h => absurd h List.not_mem_nil⟩⟩
theorem hd_LH_sets_68_3 : am_hd m_LH_sets 68 (am_exn 3) 300 := ⟨[⟨0, 289, 290, 55⟩, ⟨0, 289, 295, 58⟩], ⟨0, 289, 300, 60⟩, [], rfl, by decide, rfl, by decide, aw_1_198, by decide +kernel, List.forall_mem_cons.mpr ⟨Or.inr ⟨by decide, "java/lang/IndexOutOfBoundsException", aw_1_196, by decide⟩, List.forall_mem_cons.mpr ⟨Or.inr ⟨by decide, "java/lang/IllegalArgumentException", aw_1_197, by decide⟩, fun z h => absurd h List.not_mem_nil⟩⟩⟩
def f_LH_sets  (s : am_M) (x1 : Int32) (x2 : Int32) (x3 : Int32) (x4 : Int32) (x5 : Int32) (x6 : Int32) (x7 : Int32) : Int32 × am_M := (if x1 = 0 then (if (h_CB_addReckoned s x2 x3 x4 x5 x6).1 = 0 then ((h_CB_addReckoned s x2 x3 x4 x5 x6).2.1, (h_CB_addReckoned s x2 x3 x4 x5 x6).2.2) else (if (h_CB_addReckoned s x2 x3 x4 x5 x6).1 = 1 then ((-9999999 : Int32), (h_CB_addReckoned s x2 x3 x4 x5 x6).2.2) else (if (h_CB_addReckoned s x2 x3 x4 x5 x6).1 = 2 then ((-9999999 : Int32), (h_CB_addReckoned s x2 x3 x4 x5 x6).2.2) else ((-9999999 : Int32), (h_CB_addReckoned s x2 x3 x4 x5 x6).2.2)))) else (if x1 = (1 : Int32) then (if (h_CB_reckonAnew s x2 x3 x4 x5 x6 x7).1 = 0 then (if (h_CB_reckonAnew s x2 x3 x4 x5 x6 x7).2.1 = 0 then ((0 : Int32), (h_CB_reckonAnew s x2 x3 x4 x5 x6 x7).2.2) else ((1 : Int32), (h_CB_reckonAnew s x2 x3 x4 x5 x6 x7).2.2)) else (if (h_CB_reckonAnew s x2 x3 x4 x5 x6 x7).1 = 1 then ((-9999999 : Int32), (h_CB_reckonAnew s x2 x3 x4 x5 x6 x7).2.2) else (if (h_CB_reckonAnew s x2 x3 x4 x5 x6 x7).1 = 2 then ((-9999999 : Int32), (h_CB_reckonAnew s x2 x3 x4 x5 x6 x7).2.2) else ((-9999999 : Int32), (h_CB_reckonAnew s x2 x3 x4 x5 x6 x7).2.2)))) else (if x1 = (2 : Int32) then (if x4 = (1 : Int32) then (if (h_CB_need s x2 x3 (1 : Int32)).1 = 0 then (if (h_CB_need s x2 x3 (1 : Int32)).2.1 = 0 then ((0 : Int32), (h_CB_need s x2 x3 (1 : Int32)).2.2) else ((1 : Int32), (h_CB_need s x2 x3 (1 : Int32)).2.2)) else (if (h_CB_need s x2 x3 (1 : Int32)).1 = 1 then ((-9999999 : Int32), (h_CB_need s x2 x3 (1 : Int32)).2.2) else (if (h_CB_need s x2 x3 (1 : Int32)).1 = 2 then ((-9999999 : Int32), (h_CB_need s x2 x3 (1 : Int32)).2.2) else ((-9999999 : Int32), (h_CB_need s x2 x3 (1 : Int32)).2.2)))) else (if (h_CB_need s x2 x3 (0 : Int32)).1 = 0 then (if (h_CB_need s x2 x3 (0 : Int32)).2.1 = 0 then ((0 : Int32), (h_CB_need s x2 x3 (0 : Int32)).2.2) else ((1 : Int32), (h_CB_need s x2 x3 (0 : Int32)).2.2)) else (if (h_CB_need s x2 x3 (0 : Int32)).1 = 1 then ((-9999999 : Int32), (h_CB_need s x2 x3 (0 : Int32)).2.2) else (if (h_CB_need s x2 x3 (0 : Int32)).1 = 2 then ((-9999999 : Int32), (h_CB_need s x2 x3 (0 : Int32)).2.2) else ((-9999999 : Int32), (h_CB_need s x2 x3 (0 : Int32)).2.2))))) else (if x1 = (3 : Int32) then (if x4 = (1 : Int32) then (if (h_CB_single s x2 x3 (1 : Int32)).1 = 0 then (if (h_CB_single s x2 x3 (1 : Int32)).2.1 = 0 then ((0 : Int32), (h_CB_single s x2 x3 (1 : Int32)).2.2) else ((1 : Int32), (h_CB_single s x2 x3 (1 : Int32)).2.2)) else (if (h_CB_single s x2 x3 (1 : Int32)).1 = 1 then ((-9999999 : Int32), (h_CB_single s x2 x3 (1 : Int32)).2.2) else (if (h_CB_single s x2 x3 (1 : Int32)).1 = 2 then ((-9999999 : Int32), (h_CB_single s x2 x3 (1 : Int32)).2.2) else ((-9999999 : Int32), (h_CB_single s x2 x3 (1 : Int32)).2.2)))) else (if (h_CB_single s x2 x3 (0 : Int32)).1 = 0 then (if (h_CB_single s x2 x3 (0 : Int32)).2.1 = 0 then ((0 : Int32), (h_CB_single s x2 x3 (0 : Int32)).2.2) else ((1 : Int32), (h_CB_single s x2 x3 (0 : Int32)).2.2)) else (if (h_CB_single s x2 x3 (0 : Int32)).1 = 1 then ((-9999999 : Int32), (h_CB_single s x2 x3 (0 : Int32)).2.2) else (if (h_CB_single s x2 x3 (0 : Int32)).1 = 2 then ((-9999999 : Int32), (h_CB_single s x2 x3 (0 : Int32)).2.2) else ((-9999999 : Int32), (h_CB_single s x2 x3 (0 : Int32)).2.2))))) else (if x1 = (4 : Int32) then (if (h_CB_narrow s x2 x3 x4 x5).1 = 0 then (if (h_CB_narrow s x2 x3 x4 x5).2.1 = 0 then ((0 : Int32), (h_CB_narrow s x2 x3 x4 x5).2.2) else ((1 : Int32), (h_CB_narrow s x2 x3 x4 x5).2.2)) else (if (h_CB_narrow s x2 x3 x4 x5).1 = 1 then ((-9999999 : Int32), (h_CB_narrow s x2 x3 x4 x5).2.2) else (if (h_CB_narrow s x2 x3 x4 x5).1 = 2 then ((-9999999 : Int32), (h_CB_narrow s x2 x3 x4 x5).2.2) else ((-9999999 : Int32), (h_CB_narrow s x2 x3 x4 x5).2.2)))) else (if x1 = (5 : Int32) then (if (h_CB_drop s x2 x3).1 = 0 then (if (h_CB_drop s x2 x3).2.1 = 0 then ((0 : Int32), (h_CB_drop s x2 x3).2.2) else ((1 : Int32), (h_CB_drop s x2 x3).2.2)) else (if (h_CB_drop s x2 x3).1 = 1 then ((-9999999 : Int32), (h_CB_drop s x2 x3).2.2) else (if (h_CB_drop s x2 x3).1 = 2 then ((-9999999 : Int32), (h_CB_drop s x2 x3).2.2) else ((-9999999 : Int32), (h_CB_drop s x2 x3).2.2)))) else (if x1 = (6 : Int32) then (if (h_CB_setRemoval s x2 x3 x4).1 = 0 then ((h_CB_setRemoval s x2 x3 x4).2.1, (h_CB_setRemoval s x2 x3 x4).2.2) else (if (h_CB_setRemoval s x2 x3 x4).1 = 1 then ((-9999999 : Int32), (h_CB_setRemoval s x2 x3 x4).2.2) else (if (h_CB_setRemoval s x2 x3 x4).1 = 2 then ((-9999999 : Int32), (h_CB_setRemoval s x2 x3 x4).2.2) else ((-9999999 : Int32), (h_CB_setRemoval s x2 x3 x4).2.2)))) else (if x1 = (7 : Int32) then (if (h_CB_addRule s x2 x3 x4 x5 x6).1 = 0 then ((h_CB_addRule s x2 x3 x4 x5 x6).2.1, (h_CB_addRule s x2 x3 x4 x5 x6).2.2) else (if (h_CB_addRule s x2 x3 x4 x5 x6).1 = 1 then ((-9999999 : Int32), (h_CB_addRule s x2 x3 x4 x5 x6).2.2) else (if (h_CB_addRule s x2 x3 x4 x5 x6).1 = 2 then ((-9999999 : Int32), (h_CB_addRule s x2 x3 x4 x5 x6).2.2) else ((-9999999 : Int32), (h_CB_addRule s x2 x3 x4 x5 x6).2.2)))) else (if x1 = (8 : Int32) then (if (h_CB_put s x2 x3 x4 x5).1 = 0 then (if (h_CB_put s x2 x3 x4 x5).2.1 = 0 then ((0 : Int32), (h_CB_put s x2 x3 x4 x5).2.2) else ((1 : Int32), (h_CB_put s x2 x3 x4 x5).2.2)) else (if (h_CB_put s x2 x3 x4 x5).1 = 1 then ((-9999999 : Int32), (h_CB_put s x2 x3 x4 x5).2.2) else (if (h_CB_put s x2 x3 x4 x5).1 = 2 then ((-9999999 : Int32), (h_CB_put s x2 x3 x4 x5).2.2) else ((-9999999 : Int32), (h_CB_put s x2 x3 x4 x5).2.2)))) else (if x1 = (9 : Int32) then (if (h_CB_choice s x2 x3 x4 x5).1 = 0 then ((h_CB_choice s x2 x3 x4 x5).2.1, (h_CB_choice s x2 x3 x4 x5).2.2) else (if (h_CB_choice s x2 x3 x4 x5).1 = 1 then ((-9999999 : Int32), (h_CB_choice s x2 x3 x4 x5).2.2) else (if (h_CB_choice s x2 x3 x4 x5).1 = 2 then ((-9999999 : Int32), (h_CB_choice s x2 x3 x4 x5).2.2) else ((-9999999 : Int32), (h_CB_choice s x2 x3 x4 x5).2.2)))) else (if x1 = (10 : Int32) then (if (f_CB_cell s x2 x3 x4).1 = 0 then ((f_CB_cell s x2 x3 x4).2.1, (f_CB_cell s x2 x3 x4).2.2) else (if (f_CB_cell s x2 x3 x4).1 = 1 then ((-9999999 : Int32), (f_CB_cell s x2 x3 x4).2.2) else (if (f_CB_cell s x2 x3 x4).1 = 2 then ((-9999999 : Int32), (f_CB_cell s x2 x3 x4).2.2) else ((-9999999 : Int32), (f_CB_cell s x2 x3 x4).2.2)))) else (if x1 = (11 : Int32) then (if (f_CB_wouldLose s x2 x3 x4 x5).1 = 0 then ((f_CB_wouldLose s x2 x3 x4 x5).2.1, (f_CB_wouldLose s x2 x3 x4 x5).2.2) else (if (f_CB_wouldLose s x2 x3 x4 x5).1 = 1 then ((-9999999 : Int32), (f_CB_wouldLose s x2 x3 x4 x5).2.2) else (if (f_CB_wouldLose s x2 x3 x4 x5).1 = 2 then ((-9999999 : Int32), (f_CB_wouldLose s x2 x3 x4 x5).2.2) else ((-9999999 : Int32), (f_CB_wouldLose s x2 x3 x4 x5).2.2)))) else (if (f_CB_wouldLoseAll s x2 x3).1 = 0 then ((f_CB_wouldLoseAll s x2 x3).2.1, (f_CB_wouldLoseAll s x2 x3).2.2) else (if (f_CB_wouldLoseAll s x2 x3).1 = 1 then ((-9999999 : Int32), (f_CB_wouldLoseAll s x2 x3).2.2) else (if (f_CB_wouldLoseAll s x2 x3).1 = 2 then ((-9999999 : Int32), (f_CB_wouldLoseAll s x2 x3).2.2) else ((-9999999 : Int32), (f_CB_wouldLoseAll s x2 x3).2.2))))))))))))))))
def p_LH_sets  (s : am_M) (x1 : Int32) (x2 : Int32) (x3 : Int32) (x4 : Int32) (x5 : Int32) (x6 : Int32) (x7 : Int32) : Prop := ((x1 = 0) → p_CB_addReckoned s x2 x3 x4 x5 x6 ∧ (((h_CB_addReckoned s x2 x3 x4 x5 x6).1 = 0 ∨ (h_CB_addReckoned s x2 x3 x4 x5 x6).1 = 1 ∨ (h_CB_addReckoned s x2 x3 x4 x5 x6).1 = 2 ∨ (h_CB_addReckoned s x2 x3 x4 x5 x6).1 = 3) ∧ ((((h_CB_addReckoned s x2 x3 x4 x5 x6).1 = 0) → True) ∧ (¬ ((h_CB_addReckoned s x2 x3 x4 x5 x6).1 = 0) → (((h_CB_addReckoned s x2 x3 x4 x5 x6).1 = 1) → True) ∧ (¬ ((h_CB_addReckoned s x2 x3 x4 x5 x6).1 = 1) → (((h_CB_addReckoned s x2 x3 x4 x5 x6).1 = 2) → True) ∧ (¬ ((h_CB_addReckoned s x2 x3 x4 x5 x6).1 = 2) → True)))))) ∧ (¬ (x1 = 0) → ((x1 = (1 : Int32)) → p_CB_reckonAnew s x2 x3 x4 x5 x6 x7 ∧ (((h_CB_reckonAnew s x2 x3 x4 x5 x6 x7).1 = 0 ∨ (h_CB_reckonAnew s x2 x3 x4 x5 x6 x7).1 = 1 ∨ (h_CB_reckonAnew s x2 x3 x4 x5 x6 x7).1 = 2 ∨ (h_CB_reckonAnew s x2 x3 x4 x5 x6 x7).1 = 3) ∧ ((((h_CB_reckonAnew s x2 x3 x4 x5 x6 x7).1 = 0) → (((h_CB_reckonAnew s x2 x3 x4 x5 x6 x7).2.1 = 0) → True) ∧ (¬ ((h_CB_reckonAnew s x2 x3 x4 x5 x6 x7).2.1 = 0) → True)) ∧ (¬ ((h_CB_reckonAnew s x2 x3 x4 x5 x6 x7).1 = 0) → (((h_CB_reckonAnew s x2 x3 x4 x5 x6 x7).1 = 1) → True) ∧ (¬ ((h_CB_reckonAnew s x2 x3 x4 x5 x6 x7).1 = 1) → (((h_CB_reckonAnew s x2 x3 x4 x5 x6 x7).1 = 2) → True) ∧ (¬ ((h_CB_reckonAnew s x2 x3 x4 x5 x6 x7).1 = 2) → True)))))) ∧ (¬ (x1 = (1 : Int32)) → ((x1 = (2 : Int32)) → ((x4 = (1 : Int32)) → p_CB_need s x2 x3 (1 : Int32) ∧ (((h_CB_need s x2 x3 (1 : Int32)).1 = 0 ∨ (h_CB_need s x2 x3 (1 : Int32)).1 = 1 ∨ (h_CB_need s x2 x3 (1 : Int32)).1 = 2 ∨ (h_CB_need s x2 x3 (1 : Int32)).1 = 3) ∧ ((((h_CB_need s x2 x3 (1 : Int32)).1 = 0) → (((h_CB_need s x2 x3 (1 : Int32)).2.1 = 0) → True) ∧ (¬ ((h_CB_need s x2 x3 (1 : Int32)).2.1 = 0) → True)) ∧ (¬ ((h_CB_need s x2 x3 (1 : Int32)).1 = 0) → (((h_CB_need s x2 x3 (1 : Int32)).1 = 1) → True) ∧ (¬ ((h_CB_need s x2 x3 (1 : Int32)).1 = 1) → (((h_CB_need s x2 x3 (1 : Int32)).1 = 2) → True) ∧ (¬ ((h_CB_need s x2 x3 (1 : Int32)).1 = 2) → True)))))) ∧ (¬ (x4 = (1 : Int32)) → p_CB_need s x2 x3 (0 : Int32) ∧ (((h_CB_need s x2 x3 (0 : Int32)).1 = 0 ∨ (h_CB_need s x2 x3 (0 : Int32)).1 = 1 ∨ (h_CB_need s x2 x3 (0 : Int32)).1 = 2 ∨ (h_CB_need s x2 x3 (0 : Int32)).1 = 3) ∧ ((((h_CB_need s x2 x3 (0 : Int32)).1 = 0) → (((h_CB_need s x2 x3 (0 : Int32)).2.1 = 0) → True) ∧ (¬ ((h_CB_need s x2 x3 (0 : Int32)).2.1 = 0) → True)) ∧ (¬ ((h_CB_need s x2 x3 (0 : Int32)).1 = 0) → (((h_CB_need s x2 x3 (0 : Int32)).1 = 1) → True) ∧ (¬ ((h_CB_need s x2 x3 (0 : Int32)).1 = 1) → (((h_CB_need s x2 x3 (0 : Int32)).1 = 2) → True) ∧ (¬ ((h_CB_need s x2 x3 (0 : Int32)).1 = 2) → True))))))) ∧ (¬ (x1 = (2 : Int32)) → ((x1 = (3 : Int32)) → ((x4 = (1 : Int32)) → p_CB_single s x2 x3 (1 : Int32) ∧ (((h_CB_single s x2 x3 (1 : Int32)).1 = 0 ∨ (h_CB_single s x2 x3 (1 : Int32)).1 = 1 ∨ (h_CB_single s x2 x3 (1 : Int32)).1 = 2 ∨ (h_CB_single s x2 x3 (1 : Int32)).1 = 3) ∧ ((((h_CB_single s x2 x3 (1 : Int32)).1 = 0) → (((h_CB_single s x2 x3 (1 : Int32)).2.1 = 0) → True) ∧ (¬ ((h_CB_single s x2 x3 (1 : Int32)).2.1 = 0) → True)) ∧ (¬ ((h_CB_single s x2 x3 (1 : Int32)).1 = 0) → (((h_CB_single s x2 x3 (1 : Int32)).1 = 1) → True) ∧ (¬ ((h_CB_single s x2 x3 (1 : Int32)).1 = 1) → (((h_CB_single s x2 x3 (1 : Int32)).1 = 2) → True) ∧ (¬ ((h_CB_single s x2 x3 (1 : Int32)).1 = 2) → True)))))) ∧ (¬ (x4 = (1 : Int32)) → p_CB_single s x2 x3 (0 : Int32) ∧ (((h_CB_single s x2 x3 (0 : Int32)).1 = 0 ∨ (h_CB_single s x2 x3 (0 : Int32)).1 = 1 ∨ (h_CB_single s x2 x3 (0 : Int32)).1 = 2 ∨ (h_CB_single s x2 x3 (0 : Int32)).1 = 3) ∧ ((((h_CB_single s x2 x3 (0 : Int32)).1 = 0) → (((h_CB_single s x2 x3 (0 : Int32)).2.1 = 0) → True) ∧ (¬ ((h_CB_single s x2 x3 (0 : Int32)).2.1 = 0) → True)) ∧ (¬ ((h_CB_single s x2 x3 (0 : Int32)).1 = 0) → (((h_CB_single s x2 x3 (0 : Int32)).1 = 1) → True) ∧ (¬ ((h_CB_single s x2 x3 (0 : Int32)).1 = 1) → (((h_CB_single s x2 x3 (0 : Int32)).1 = 2) → True) ∧ (¬ ((h_CB_single s x2 x3 (0 : Int32)).1 = 2) → True))))))) ∧ (¬ (x1 = (3 : Int32)) → ((x1 = (4 : Int32)) → p_CB_narrow s x2 x3 x4 x5 ∧ (((h_CB_narrow s x2 x3 x4 x5).1 = 0 ∨ (h_CB_narrow s x2 x3 x4 x5).1 = 1 ∨ (h_CB_narrow s x2 x3 x4 x5).1 = 2 ∨ (h_CB_narrow s x2 x3 x4 x5).1 = 3) ∧ ((((h_CB_narrow s x2 x3 x4 x5).1 = 0) → (((h_CB_narrow s x2 x3 x4 x5).2.1 = 0) → True) ∧ (¬ ((h_CB_narrow s x2 x3 x4 x5).2.1 = 0) → True)) ∧ (¬ ((h_CB_narrow s x2 x3 x4 x5).1 = 0) → (((h_CB_narrow s x2 x3 x4 x5).1 = 1) → True) ∧ (¬ ((h_CB_narrow s x2 x3 x4 x5).1 = 1) → (((h_CB_narrow s x2 x3 x4 x5).1 = 2) → True) ∧ (¬ ((h_CB_narrow s x2 x3 x4 x5).1 = 2) → True)))))) ∧ (¬ (x1 = (4 : Int32)) → ((x1 = (5 : Int32)) → p_CB_drop s x2 x3 ∧ (((h_CB_drop s x2 x3).1 = 0 ∨ (h_CB_drop s x2 x3).1 = 1 ∨ (h_CB_drop s x2 x3).1 = 2 ∨ (h_CB_drop s x2 x3).1 = 3) ∧ ((((h_CB_drop s x2 x3).1 = 0) → (((h_CB_drop s x2 x3).2.1 = 0) → True) ∧ (¬ ((h_CB_drop s x2 x3).2.1 = 0) → True)) ∧ (¬ ((h_CB_drop s x2 x3).1 = 0) → (((h_CB_drop s x2 x3).1 = 1) → True) ∧ (¬ ((h_CB_drop s x2 x3).1 = 1) → (((h_CB_drop s x2 x3).1 = 2) → True) ∧ (¬ ((h_CB_drop s x2 x3).1 = 2) → True)))))) ∧ (¬ (x1 = (5 : Int32)) → ((x1 = (6 : Int32)) → p_CB_setRemoval s x2 x3 x4 ∧ (((h_CB_setRemoval s x2 x3 x4).1 = 0 ∨ (h_CB_setRemoval s x2 x3 x4).1 = 1 ∨ (h_CB_setRemoval s x2 x3 x4).1 = 2 ∨ (h_CB_setRemoval s x2 x3 x4).1 = 3) ∧ ((((h_CB_setRemoval s x2 x3 x4).1 = 0) → True) ∧ (¬ ((h_CB_setRemoval s x2 x3 x4).1 = 0) → (((h_CB_setRemoval s x2 x3 x4).1 = 1) → True) ∧ (¬ ((h_CB_setRemoval s x2 x3 x4).1 = 1) → (((h_CB_setRemoval s x2 x3 x4).1 = 2) → True) ∧ (¬ ((h_CB_setRemoval s x2 x3 x4).1 = 2) → True)))))) ∧ (¬ (x1 = (6 : Int32)) → ((x1 = (7 : Int32)) → p_CB_addRule s x2 x3 x4 x5 x6 ∧ (((h_CB_addRule s x2 x3 x4 x5 x6).1 = 0 ∨ (h_CB_addRule s x2 x3 x4 x5 x6).1 = 1 ∨ (h_CB_addRule s x2 x3 x4 x5 x6).1 = 2 ∨ (h_CB_addRule s x2 x3 x4 x5 x6).1 = 3) ∧ ((((h_CB_addRule s x2 x3 x4 x5 x6).1 = 0) → True) ∧ (¬ ((h_CB_addRule s x2 x3 x4 x5 x6).1 = 0) → (((h_CB_addRule s x2 x3 x4 x5 x6).1 = 1) → True) ∧ (¬ ((h_CB_addRule s x2 x3 x4 x5 x6).1 = 1) → (((h_CB_addRule s x2 x3 x4 x5 x6).1 = 2) → True) ∧ (¬ ((h_CB_addRule s x2 x3 x4 x5 x6).1 = 2) → True)))))) ∧ (¬ (x1 = (7 : Int32)) → ((x1 = (8 : Int32)) → p_CB_put s x2 x3 x4 x5 ∧ (((h_CB_put s x2 x3 x4 x5).1 = 0 ∨ (h_CB_put s x2 x3 x4 x5).1 = 1 ∨ (h_CB_put s x2 x3 x4 x5).1 = 2 ∨ (h_CB_put s x2 x3 x4 x5).1 = 3) ∧ ((((h_CB_put s x2 x3 x4 x5).1 = 0) → (((h_CB_put s x2 x3 x4 x5).2.1 = 0) → True) ∧ (¬ ((h_CB_put s x2 x3 x4 x5).2.1 = 0) → True)) ∧ (¬ ((h_CB_put s x2 x3 x4 x5).1 = 0) → (((h_CB_put s x2 x3 x4 x5).1 = 1) → True) ∧ (¬ ((h_CB_put s x2 x3 x4 x5).1 = 1) → (((h_CB_put s x2 x3 x4 x5).1 = 2) → True) ∧ (¬ ((h_CB_put s x2 x3 x4 x5).1 = 2) → True)))))) ∧ (¬ (x1 = (8 : Int32)) → ((x1 = (9 : Int32)) → p_CB_choice s x2 x3 x4 x5 ∧ (((h_CB_choice s x2 x3 x4 x5).1 = 0 ∨ (h_CB_choice s x2 x3 x4 x5).1 = 1 ∨ (h_CB_choice s x2 x3 x4 x5).1 = 2 ∨ (h_CB_choice s x2 x3 x4 x5).1 = 3) ∧ ((((h_CB_choice s x2 x3 x4 x5).1 = 0) → True) ∧ (¬ ((h_CB_choice s x2 x3 x4 x5).1 = 0) → (((h_CB_choice s x2 x3 x4 x5).1 = 1) → True) ∧ (¬ ((h_CB_choice s x2 x3 x4 x5).1 = 1) → (((h_CB_choice s x2 x3 x4 x5).1 = 2) → True) ∧ (¬ ((h_CB_choice s x2 x3 x4 x5).1 = 2) → True)))))) ∧ (¬ (x1 = (9 : Int32)) → ((x1 = (10 : Int32)) → p_CB_cell s x2 x3 x4 ∧ (((f_CB_cell s x2 x3 x4).1 = 0 ∨ (f_CB_cell s x2 x3 x4).1 = 1 ∨ (f_CB_cell s x2 x3 x4).1 = 2 ∨ (f_CB_cell s x2 x3 x4).1 = 3) ∧ ((((f_CB_cell s x2 x3 x4).1 = 0) → True) ∧ (¬ ((f_CB_cell s x2 x3 x4).1 = 0) → (((f_CB_cell s x2 x3 x4).1 = 1) → True) ∧ (¬ ((f_CB_cell s x2 x3 x4).1 = 1) → (((f_CB_cell s x2 x3 x4).1 = 2) → True) ∧ (¬ ((f_CB_cell s x2 x3 x4).1 = 2) → True)))))) ∧ (¬ (x1 = (10 : Int32)) → ((x1 = (11 : Int32)) → p_CB_wouldLose s x2 x3 x4 x5 ∧ (((f_CB_wouldLose s x2 x3 x4 x5).1 = 0 ∨ (f_CB_wouldLose s x2 x3 x4 x5).1 = 1 ∨ (f_CB_wouldLose s x2 x3 x4 x5).1 = 2 ∨ (f_CB_wouldLose s x2 x3 x4 x5).1 = 3) ∧ ((((f_CB_wouldLose s x2 x3 x4 x5).1 = 0) → True) ∧ (¬ ((f_CB_wouldLose s x2 x3 x4 x5).1 = 0) → (((f_CB_wouldLose s x2 x3 x4 x5).1 = 1) → True) ∧ (¬ ((f_CB_wouldLose s x2 x3 x4 x5).1 = 1) → (((f_CB_wouldLose s x2 x3 x4 x5).1 = 2) → True) ∧ (¬ ((f_CB_wouldLose s x2 x3 x4 x5).1 = 2) → True)))))) ∧ (¬ (x1 = (11 : Int32)) → p_CB_wouldLoseAll s x2 x3 ∧ (((f_CB_wouldLoseAll s x2 x3).1 = 0 ∨ (f_CB_wouldLoseAll s x2 x3).1 = 1 ∨ (f_CB_wouldLoseAll s x2 x3).1 = 2 ∨ (f_CB_wouldLoseAll s x2 x3).1 = 3) ∧ ((((f_CB_wouldLoseAll s x2 x3).1 = 0) → True) ∧ (¬ ((f_CB_wouldLoseAll s x2 x3).1 = 0) → (((f_CB_wouldLoseAll s x2 x3).1 = 1) → True) ∧ (¬ ((f_CB_wouldLoseAll s x2 x3).1 = 1) → (((f_CB_wouldLoseAll s x2 x3).1 = 2) → True) ∧ (¬ ((f_CB_wouldLoseAll s x2 x3).1 = 2) → True)))))))))))))))))
set_option maxRecDepth 8000 in
theorem w_LH_sets {l : Launch} {g : am_Gl} (hg : g.2.2.2.1 = true) {ad0 : Nat → Nat} {s : am_M} {x1 : Int32} {x2 : Int32} {x3 : Int32} {x4 : Int32} {x5 : Int32} {x6 : Int32} {x7 : Int32} (h : p_LH_sets s x1 x2 x3 x4 x5 x6 x7) : AW l g m_LH_sets 207 ad0 (am_oC (f_LH_sets s x1 x2 x3 x4 x5 x6 x7)) 0 0 207 s 0 [(0, .ref 0), (1, .int x1), (2, .int x2), (3, .int x3), (4, .int x4), (5, .int x5), (6, .int x6), (7, .int x7)] [] := by
  refine am_iload_n (j := 1) d_LH_sets_0 rfl rfl ?_
  refine ai_ne (F := am_oC) (tgt := 19) d_LH_sets_1 (by decide) (fun c => ?_) (fun c => ?_)
  · have h := h.2 c
    refine am_iload_n (j := 1) d_LH_sets_19 rfl rfl ?_
    refine am_iconst (v := (1 : Int32)) d_LH_sets_20 (by decide) ?_
    refine aj_ne (F := am_oC) (tgt := 49) d_LH_sets_21 (by decide) (fun c => ?_) (fun c => ?_)
    · have h := h.2 c
      refine am_iload_n (j := 1) d_LH_sets_49 rfl rfl ?_
      refine am_iconst (v := (2 : Int32)) d_LH_sets_50 (by decide) ?_
      refine aj_ne (F := am_oC) (tgt := 82) d_LH_sets_51 (by decide) (fun c => ?_) (fun c => ?_)
      · have h := h.2 c
        refine am_iload_n (j := 1) d_LH_sets_82 rfl rfl ?_
        refine am_iconst (v := (3 : Int32)) d_LH_sets_83 (by decide) ?_
        refine aj_ne (F := am_oC) (tgt := 115) d_LH_sets_84 (by decide) (fun c => ?_) (fun c => ?_)
        · have h := h.2 c
          refine am_iload_n (j := 1) d_LH_sets_115 rfl rfl ?_
          refine am_iconst (v := (4 : Int32)) d_LH_sets_116 (by decide) ?_
          refine aj_ne (F := am_oC) (tgt := 141) d_LH_sets_117 (by decide) (fun c => ?_) (fun c => ?_)
          · have h := h.2 c
            refine am_iload_n (j := 1) d_LH_sets_141 rfl rfl ?_
            refine am_iconst (v := (5 : Int32)) d_LH_sets_142 (by decide) ?_
            refine aj_ne (F := am_oC) (tgt := 163) d_LH_sets_143 (by decide) (fun c => ?_) (fun c => ?_)
            · have h := h.2 c
              refine am_iload_n (j := 1) d_LH_sets_163 rfl rfl ?_
              refine am_bipush (v := (6 : Int32)) d_LH_sets_164 (by decide) ?_
              refine aj_ne (F := am_oC) (tgt := 180) d_LH_sets_166 (by decide) (fun c => ?_) (fun c => ?_)
              · have h := h.2 c
                refine am_iload_n (j := 1) d_LH_sets_180 rfl rfl ?_
                refine am_bipush (v := (7 : Int32)) d_LH_sets_181 (by decide) ?_
                refine aj_ne (F := am_oC) (tgt := 201) d_LH_sets_183 (by decide) (fun c => ?_) (fun c => ?_)
                · have h := h.2 c
                  refine am_iload_n (j := 1) d_LH_sets_201 rfl rfl ?_
                  refine am_bipush (v := (8 : Int32)) d_LH_sets_202 (by decide) ?_
                  refine aj_ne (F := am_oC) (tgt := 228) d_LH_sets_204 (by decide) (fun c => ?_) (fun c => ?_)
                  · have h := h.2 c
                    refine am_iload_n (j := 1) d_LH_sets_228 rfl rfl ?_
                    refine am_bipush (v := (9 : Int32)) d_LH_sets_229 (by decide) ?_
                    refine aj_ne (F := am_oC) (tgt := 247) d_LH_sets_231 (by decide) (fun c => ?_) (fun c => ?_)
                    · have h := h.2 c
                      refine am_iload_n (j := 1) d_LH_sets_247 rfl rfl ?_
                      refine am_bipush (v := (10 : Int32)) d_LH_sets_248 (by decide) ?_
                      refine aj_ne (F := am_oC) (tgt := 264) d_LH_sets_250 (by decide) (fun c => ?_) (fun c => ?_)
                      · have h := h.2 c
                        refine am_iload_n (j := 1) d_LH_sets_264 rfl rfl ?_
                        refine am_bipush (v := (11 : Int32)) d_LH_sets_265 (by decide) ?_
                        refine aj_ne (F := am_oC) (tgt := 283) d_LH_sets_267 (by decide) (fun c => ?_) (fun c => ?_)
                        · have h := h.2 c
                          refine am_aload_n (j := 0) d_LH_sets_283 rfl rfl ?_
                          refine am_iload_n (j := 2) d_LH_sets_284 rfl rfl ?_
                          refine am_iload_n (j := 3) d_LH_sets_285 rfl rfl ?_
                          obtain ⟨hc, h⟩ := h
                          obtain ⟨hz, h⟩ := h
                          refine am_caseN (F := am_oC) (q := (f_CB_wouldLoseAll s x2 x3).1) (c := 0) (fun c0 => ?_) (fun c0 => ?_)
                          · have h := h.1 c0
                            refine ak_EH (as := [.int x2, .int x3]) (rest := []) d_LH_sets_286 cw_LH_sets_286 rfl (ct_CB_wouldLoseAll hg hc) rfl rfl (by decide) sh_0 rfl (Nat.le_of_ble_eq_true rfl) (by decide) (by decide) (fun n => absurd c0 n) (fun _ => ?_)
                            exact am_iret d_LH_sets_289 rfl rfl (by decide) (by decide) am_oC_ok
                          · have h := h.2 c0
                            refine am_caseN (F := am_oC) (q := (f_CB_wouldLoseAll s x2 x3).1) (c := 1) (fun c1 => ?_) (fun c1 => ?_)
                            · have h := h.1 c1
                              refine ak_EH (as := [.int x2, .int x3]) (rest := []) d_LH_sets_286 cw_LH_sets_286 rfl (ct_CB_wouldLoseAll hg hc) rfl rfl (by decide) sh_0 rfl (Nat.le_of_ble_eq_true rfl) (by decide) (by decide) (fun _ => ⟨290, by rw [c1]; exact hd_LH_sets_286_1, fun q9 => ?_⟩) (fun n => absurd n c0)
                              refine am_astoreS (lv2 := [(8, .retAddr q9), (0, .ref 0), (1, .int x1), (2, .int x2), (3, .int x3), (4, .int x4), (5, .int x5), (6, .int x6), (7, .int x7)]) d_LH_sets_290 (by decide) rfl ?_
                              refine am_ldc (v := (-9999999 : Int32)) d_LH_sets_292 aw_3_220 ?_
                              exact am_iret d_LH_sets_294 rfl rfl (by decide) (by decide) am_oC_ok
                            · have h := h.2 c1
                              refine am_caseN (F := am_oC) (q := (f_CB_wouldLoseAll s x2 x3).1) (c := 2) (fun c2 => ?_) (fun c2 => ?_)
                              · have h := h.1 c2
                                refine ak_EH (as := [.int x2, .int x3]) (rest := []) d_LH_sets_286 cw_LH_sets_286 rfl (ct_CB_wouldLoseAll hg hc) rfl rfl (by decide) sh_0 rfl (Nat.le_of_ble_eq_true rfl) (by decide) (by decide) (fun _ => ⟨295, by rw [c2]; exact hd_LH_sets_286_2, fun q9 => ?_⟩) (fun n => absurd n c0)
                                refine am_astoreS (lv2 := [(8, .retAddr q9), (0, .ref 0), (1, .int x1), (2, .int x2), (3, .int x3), (4, .int x4), (5, .int x5), (6, .int x6), (7, .int x7)]) d_LH_sets_295 (by decide) rfl ?_
                                refine am_ldc (v := (-9999999 : Int32)) d_LH_sets_297 aw_3_220 ?_
                                exact am_iret d_LH_sets_299 rfl rfl (by decide) (by decide) am_oC_ok
                              · have h := h.2 c2
                                have c3 : (f_CB_wouldLoseAll s x2 x3).1 = 3 := by rcases hz with z | z | z | z <;> first | exact z | exact absurd z c0 | exact absurd z c1 | exact absurd z c2
                                refine ak_EH (as := [.int x2, .int x3]) (rest := []) d_LH_sets_286 cw_LH_sets_286 rfl (ct_CB_wouldLoseAll hg hc) rfl rfl (by decide) sh_0 rfl (Nat.le_of_ble_eq_true rfl) (by decide) (by decide) (fun _ => ⟨300, by rw [c3]; exact hd_LH_sets_286_3, fun q9 => ?_⟩) (fun n => absurd n c0)
                                refine am_astoreS (lv2 := [(8, .retAddr q9), (0, .ref 0), (1, .int x1), (2, .int x2), (3, .int x3), (4, .int x4), (5, .int x5), (6, .int x6), (7, .int x7)]) d_LH_sets_300 (by decide) rfl ?_
                                refine am_ldc (v := (-9999999 : Int32)) d_LH_sets_302 aw_3_220 ?_
                                exact am_iret d_LH_sets_304 rfl rfl (by decide) (by decide) am_oC_ok
                        · have h := h.1 c
                          refine am_aload_n (j := 0) d_LH_sets_270 rfl rfl ?_
                          refine am_iload_n (j := 2) d_LH_sets_271 rfl rfl ?_
                          refine am_iload_n (j := 3) d_LH_sets_272 rfl rfl ?_
                          refine am_iload (j := 4) d_LH_sets_273 rfl ?_
                          refine am_iload (j := 5) d_LH_sets_275 rfl ?_
                          obtain ⟨hc, h⟩ := h
                          obtain ⟨hz, h⟩ := h
                          refine am_caseN (F := am_oC) (q := (f_CB_wouldLose s x2 x3 x4 x5).1) (c := 0) (fun c0 => ?_) (fun c0 => ?_)
                          · have h := h.1 c0
                            refine ak_EH (as := [.int x2, .int x3, .int x4, .int x5]) (rest := []) d_LH_sets_277 cw_LH_sets_277 rfl (ct_CB_wouldLose hg hc) rfl rfl (by decide) sh_0 rfl (Nat.le_of_ble_eq_true rfl) (by decide) (by decide) (fun n => absurd c0 n) (fun _ => ?_)
                            refine am_goto (tgt := 289) d_LH_sets_280 (by decide) ?_
                            exact am_iret d_LH_sets_289 rfl rfl (by decide) (by decide) am_oC_ok
                          · have h := h.2 c0
                            refine am_caseN (F := am_oC) (q := (f_CB_wouldLose s x2 x3 x4 x5).1) (c := 1) (fun c1 => ?_) (fun c1 => ?_)
                            · have h := h.1 c1
                              refine ak_EH (as := [.int x2, .int x3, .int x4, .int x5]) (rest := []) d_LH_sets_277 cw_LH_sets_277 rfl (ct_CB_wouldLose hg hc) rfl rfl (by decide) sh_0 rfl (Nat.le_of_ble_eq_true rfl) (by decide) (by decide) (fun _ => ⟨290, by rw [c1]; exact hd_LH_sets_277_1, fun q9 => ?_⟩) (fun n => absurd n c0)
                              refine am_astoreS (lv2 := [(8, .retAddr q9), (0, .ref 0), (1, .int x1), (2, .int x2), (3, .int x3), (4, .int x4), (5, .int x5), (6, .int x6), (7, .int x7)]) d_LH_sets_290 (by decide) rfl ?_
                              refine am_ldc (v := (-9999999 : Int32)) d_LH_sets_292 aw_3_220 ?_
                              exact am_iret d_LH_sets_294 rfl rfl (by decide) (by decide) am_oC_ok
                            · have h := h.2 c1
                              refine am_caseN (F := am_oC) (q := (f_CB_wouldLose s x2 x3 x4 x5).1) (c := 2) (fun c2 => ?_) (fun c2 => ?_)
                              · have h := h.1 c2
                                refine ak_EH (as := [.int x2, .int x3, .int x4, .int x5]) (rest := []) d_LH_sets_277 cw_LH_sets_277 rfl (ct_CB_wouldLose hg hc) rfl rfl (by decide) sh_0 rfl (Nat.le_of_ble_eq_true rfl) (by decide) (by decide) (fun _ => ⟨295, by rw [c2]; exact hd_LH_sets_277_2, fun q9 => ?_⟩) (fun n => absurd n c0)
                                refine am_astoreS (lv2 := [(8, .retAddr q9), (0, .ref 0), (1, .int x1), (2, .int x2), (3, .int x3), (4, .int x4), (5, .int x5), (6, .int x6), (7, .int x7)]) d_LH_sets_295 (by decide) rfl ?_
                                refine am_ldc (v := (-9999999 : Int32)) d_LH_sets_297 aw_3_220 ?_
                                exact am_iret d_LH_sets_299 rfl rfl (by decide) (by decide) am_oC_ok
                              · have h := h.2 c2
                                have c3 : (f_CB_wouldLose s x2 x3 x4 x5).1 = 3 := by rcases hz with z | z | z | z <;> first | exact z | exact absurd z c0 | exact absurd z c1 | exact absurd z c2
                                refine ak_EH (as := [.int x2, .int x3, .int x4, .int x5]) (rest := []) d_LH_sets_277 cw_LH_sets_277 rfl (ct_CB_wouldLose hg hc) rfl rfl (by decide) sh_0 rfl (Nat.le_of_ble_eq_true rfl) (by decide) (by decide) (fun _ => ⟨300, by rw [c3]; exact hd_LH_sets_277_3, fun q9 => ?_⟩) (fun n => absurd n c0)
                                refine am_astoreS (lv2 := [(8, .retAddr q9), (0, .ref 0), (1, .int x1), (2, .int x2), (3, .int x3), (4, .int x4), (5, .int x5), (6, .int x6), (7, .int x7)]) d_LH_sets_300 (by decide) rfl ?_
                                refine am_ldc (v := (-9999999 : Int32)) d_LH_sets_302 aw_3_220 ?_
                                exact am_iret d_LH_sets_304 rfl rfl (by decide) (by decide) am_oC_ok
                      · have h := h.1 c
                        refine am_aload_n (j := 0) d_LH_sets_253 rfl rfl ?_
                        refine am_iload_n (j := 2) d_LH_sets_254 rfl rfl ?_
                        refine am_iload_n (j := 3) d_LH_sets_255 rfl rfl ?_
                        refine am_iload (j := 4) d_LH_sets_256 rfl ?_
                        obtain ⟨hc, h⟩ := h
                        obtain ⟨hz, h⟩ := h
                        refine am_caseN (F := am_oC) (q := (f_CB_cell s x2 x3 x4).1) (c := 0) (fun c0 => ?_) (fun c0 => ?_)
                        · have h := h.1 c0
                          refine ak_EH (as := [.int x2, .int x3, .int x4]) (rest := []) d_LH_sets_258 cw_LH_sets_258 rfl (ct_CB_cell hg hc) rfl rfl (by decide) sh_0 rfl (Nat.le_of_ble_eq_true rfl) (by decide) (by decide) (fun n => absurd c0 n) (fun _ => ?_)
                          refine am_goto (tgt := 289) d_LH_sets_261 (by decide) ?_
                          exact am_iret d_LH_sets_289 rfl rfl (by decide) (by decide) am_oC_ok
                        · have h := h.2 c0
                          refine am_caseN (F := am_oC) (q := (f_CB_cell s x2 x3 x4).1) (c := 1) (fun c1 => ?_) (fun c1 => ?_)
                          · have h := h.1 c1
                            refine ak_EH (as := [.int x2, .int x3, .int x4]) (rest := []) d_LH_sets_258 cw_LH_sets_258 rfl (ct_CB_cell hg hc) rfl rfl (by decide) sh_0 rfl (Nat.le_of_ble_eq_true rfl) (by decide) (by decide) (fun _ => ⟨290, by rw [c1]; exact hd_LH_sets_258_1, fun q9 => ?_⟩) (fun n => absurd n c0)
                            refine am_astoreS (lv2 := [(8, .retAddr q9), (0, .ref 0), (1, .int x1), (2, .int x2), (3, .int x3), (4, .int x4), (5, .int x5), (6, .int x6), (7, .int x7)]) d_LH_sets_290 (by decide) rfl ?_
                            refine am_ldc (v := (-9999999 : Int32)) d_LH_sets_292 aw_3_220 ?_
                            exact am_iret d_LH_sets_294 rfl rfl (by decide) (by decide) am_oC_ok
                          · have h := h.2 c1
                            refine am_caseN (F := am_oC) (q := (f_CB_cell s x2 x3 x4).1) (c := 2) (fun c2 => ?_) (fun c2 => ?_)
                            · have h := h.1 c2
                              refine ak_EH (as := [.int x2, .int x3, .int x4]) (rest := []) d_LH_sets_258 cw_LH_sets_258 rfl (ct_CB_cell hg hc) rfl rfl (by decide) sh_0 rfl (Nat.le_of_ble_eq_true rfl) (by decide) (by decide) (fun _ => ⟨295, by rw [c2]; exact hd_LH_sets_258_2, fun q9 => ?_⟩) (fun n => absurd n c0)
                              refine am_astoreS (lv2 := [(8, .retAddr q9), (0, .ref 0), (1, .int x1), (2, .int x2), (3, .int x3), (4, .int x4), (5, .int x5), (6, .int x6), (7, .int x7)]) d_LH_sets_295 (by decide) rfl ?_
                              refine am_ldc (v := (-9999999 : Int32)) d_LH_sets_297 aw_3_220 ?_
                              exact am_iret d_LH_sets_299 rfl rfl (by decide) (by decide) am_oC_ok
                            · have h := h.2 c2
                              have c3 : (f_CB_cell s x2 x3 x4).1 = 3 := by rcases hz with z | z | z | z <;> first | exact z | exact absurd z c0 | exact absurd z c1 | exact absurd z c2
                              refine ak_EH (as := [.int x2, .int x3, .int x4]) (rest := []) d_LH_sets_258 cw_LH_sets_258 rfl (ct_CB_cell hg hc) rfl rfl (by decide) sh_0 rfl (Nat.le_of_ble_eq_true rfl) (by decide) (by decide) (fun _ => ⟨300, by rw [c3]; exact hd_LH_sets_258_3, fun q9 => ?_⟩) (fun n => absurd n c0)
                              refine am_astoreS (lv2 := [(8, .retAddr q9), (0, .ref 0), (1, .int x1), (2, .int x2), (3, .int x3), (4, .int x4), (5, .int x5), (6, .int x6), (7, .int x7)]) d_LH_sets_300 (by decide) rfl ?_
                              refine am_ldc (v := (-9999999 : Int32)) d_LH_sets_302 aw_3_220 ?_
                              exact am_iret d_LH_sets_304 rfl rfl (by decide) (by decide) am_oC_ok
                    · have h := h.1 c
                      refine am_aload_n (j := 0) d_LH_sets_234 rfl rfl ?_
                      refine am_iload_n (j := 2) d_LH_sets_235 rfl rfl ?_
                      refine am_iload_n (j := 3) d_LH_sets_236 rfl rfl ?_
                      refine am_iload (j := 4) d_LH_sets_237 rfl ?_
                      refine am_iload (j := 5) d_LH_sets_239 rfl ?_
                      obtain ⟨hc, h⟩ := h
                      obtain ⟨hz, h⟩ := h
                      refine am_caseN (F := am_oC) (q := (h_CB_choice s x2 x3 x4 x5).1) (c := 0) (fun c0 => ?_) (fun c0 => ?_)
                      · have h := h.1 c0
                        refine ak_EH (as := [.int x2, .int x3, .int x4, .int x5]) (rest := []) d_LH_sets_241 cw_LH_sets_241 rfl (ch_CB_choice hg hc) rfl rfl (by decide) sh_0 rfl (Nat.le_of_ble_eq_true rfl) (by decide) (by decide) (fun n => absurd c0 n) (fun _ => ?_)
                        refine am_goto (tgt := 289) d_LH_sets_244 (by decide) ?_
                        exact am_iret d_LH_sets_289 rfl rfl (by decide) (by decide) am_oC_ok
                      · have h := h.2 c0
                        refine am_caseN (F := am_oC) (q := (h_CB_choice s x2 x3 x4 x5).1) (c := 1) (fun c1 => ?_) (fun c1 => ?_)
                        · have h := h.1 c1
                          refine ak_EH (as := [.int x2, .int x3, .int x4, .int x5]) (rest := []) d_LH_sets_241 cw_LH_sets_241 rfl (ch_CB_choice hg hc) rfl rfl (by decide) sh_0 rfl (Nat.le_of_ble_eq_true rfl) (by decide) (by decide) (fun _ => ⟨290, by rw [c1]; exact hd_LH_sets_241_1, fun q9 => ?_⟩) (fun n => absurd n c0)
                          refine am_astoreS (lv2 := [(8, .retAddr q9), (0, .ref 0), (1, .int x1), (2, .int x2), (3, .int x3), (4, .int x4), (5, .int x5), (6, .int x6), (7, .int x7)]) d_LH_sets_290 (by decide) rfl ?_
                          refine am_ldc (v := (-9999999 : Int32)) d_LH_sets_292 aw_3_220 ?_
                          exact am_iret d_LH_sets_294 rfl rfl (by decide) (by decide) am_oC_ok
                        · have h := h.2 c1
                          refine am_caseN (F := am_oC) (q := (h_CB_choice s x2 x3 x4 x5).1) (c := 2) (fun c2 => ?_) (fun c2 => ?_)
                          · have h := h.1 c2
                            refine ak_EH (as := [.int x2, .int x3, .int x4, .int x5]) (rest := []) d_LH_sets_241 cw_LH_sets_241 rfl (ch_CB_choice hg hc) rfl rfl (by decide) sh_0 rfl (Nat.le_of_ble_eq_true rfl) (by decide) (by decide) (fun _ => ⟨295, by rw [c2]; exact hd_LH_sets_241_2, fun q9 => ?_⟩) (fun n => absurd n c0)
                            refine am_astoreS (lv2 := [(8, .retAddr q9), (0, .ref 0), (1, .int x1), (2, .int x2), (3, .int x3), (4, .int x4), (5, .int x5), (6, .int x6), (7, .int x7)]) d_LH_sets_295 (by decide) rfl ?_
                            refine am_ldc (v := (-9999999 : Int32)) d_LH_sets_297 aw_3_220 ?_
                            exact am_iret d_LH_sets_299 rfl rfl (by decide) (by decide) am_oC_ok
                          · have h := h.2 c2
                            have c3 : (h_CB_choice s x2 x3 x4 x5).1 = 3 := by rcases hz with z | z | z | z <;> first | exact z | exact absurd z c0 | exact absurd z c1 | exact absurd z c2
                            refine ak_EH (as := [.int x2, .int x3, .int x4, .int x5]) (rest := []) d_LH_sets_241 cw_LH_sets_241 rfl (ch_CB_choice hg hc) rfl rfl (by decide) sh_0 rfl (Nat.le_of_ble_eq_true rfl) (by decide) (by decide) (fun _ => ⟨300, by rw [c3]; exact hd_LH_sets_241_3, fun q9 => ?_⟩) (fun n => absurd n c0)
                            refine am_astoreS (lv2 := [(8, .retAddr q9), (0, .ref 0), (1, .int x1), (2, .int x2), (3, .int x3), (4, .int x4), (5, .int x5), (6, .int x6), (7, .int x7)]) d_LH_sets_300 (by decide) rfl ?_
                            refine am_ldc (v := (-9999999 : Int32)) d_LH_sets_302 aw_3_220 ?_
                            exact am_iret d_LH_sets_304 rfl rfl (by decide) (by decide) am_oC_ok
                  · have h := h.1 c
                    refine am_aload_n (j := 0) d_LH_sets_207 rfl rfl ?_
                    refine am_iload_n (j := 2) d_LH_sets_208 rfl rfl ?_
                    refine am_iload_n (j := 3) d_LH_sets_209 rfl rfl ?_
                    refine am_iload (j := 4) d_LH_sets_210 rfl ?_
                    refine am_iload (j := 5) d_LH_sets_212 rfl ?_
                    obtain ⟨hc, h⟩ := h
                    obtain ⟨hz, h⟩ := h
                    refine am_caseN (F := am_oC) (q := (h_CB_put s x2 x3 x4 x5).1) (c := 0) (fun c0 => ?_) (fun c0 => ?_)
                    · have h := h.1 c0
                      refine ak_EH (as := [.int x2, .int x3, .int x4, .int x5]) (rest := []) d_LH_sets_214 cw_LH_sets_214 rfl (ch_CB_put hg hc) rfl rfl (by decide) sh_0 rfl (Nat.le_of_ble_eq_true rfl) (by decide) (by decide) (fun n => absurd c0 n) (fun _ => ?_)
                      refine ai_eq (F := am_oC) (tgt := 224) d_LH_sets_217 (by decide) (fun c => ?_) (fun c => ?_)
                      · have h := h.1 c
                        refine am_iconst (v := (0 : Int32)) d_LH_sets_224 (by decide) ?_
                        refine am_goto (tgt := 289) d_LH_sets_225 (by decide) ?_
                        exact am_iret d_LH_sets_289 rfl rfl (by decide) (by decide) am_oC_ok
                      · have h := h.2 c
                        refine am_iconst (v := (1 : Int32)) d_LH_sets_220 (by decide) ?_
                        refine am_goto (tgt := 289) d_LH_sets_221 (by decide) ?_
                        exact am_iret d_LH_sets_289 rfl rfl (by decide) (by decide) am_oC_ok
                    · have h := h.2 c0
                      refine am_caseN (F := am_oC) (q := (h_CB_put s x2 x3 x4 x5).1) (c := 1) (fun c1 => ?_) (fun c1 => ?_)
                      · have h := h.1 c1
                        refine ak_EH (as := [.int x2, .int x3, .int x4, .int x5]) (rest := []) d_LH_sets_214 cw_LH_sets_214 rfl (ch_CB_put hg hc) rfl rfl (by decide) sh_0 rfl (Nat.le_of_ble_eq_true rfl) (by decide) (by decide) (fun _ => ⟨290, by rw [c1]; exact hd_LH_sets_214_1, fun q9 => ?_⟩) (fun n => absurd n c0)
                        refine am_astoreS (lv2 := [(8, .retAddr q9), (0, .ref 0), (1, .int x1), (2, .int x2), (3, .int x3), (4, .int x4), (5, .int x5), (6, .int x6), (7, .int x7)]) d_LH_sets_290 (by decide) rfl ?_
                        refine am_ldc (v := (-9999999 : Int32)) d_LH_sets_292 aw_3_220 ?_
                        exact am_iret d_LH_sets_294 rfl rfl (by decide) (by decide) am_oC_ok
                      · have h := h.2 c1
                        refine am_caseN (F := am_oC) (q := (h_CB_put s x2 x3 x4 x5).1) (c := 2) (fun c2 => ?_) (fun c2 => ?_)
                        · have h := h.1 c2
                          refine ak_EH (as := [.int x2, .int x3, .int x4, .int x5]) (rest := []) d_LH_sets_214 cw_LH_sets_214 rfl (ch_CB_put hg hc) rfl rfl (by decide) sh_0 rfl (Nat.le_of_ble_eq_true rfl) (by decide) (by decide) (fun _ => ⟨295, by rw [c2]; exact hd_LH_sets_214_2, fun q9 => ?_⟩) (fun n => absurd n c0)
                          refine am_astoreS (lv2 := [(8, .retAddr q9), (0, .ref 0), (1, .int x1), (2, .int x2), (3, .int x3), (4, .int x4), (5, .int x5), (6, .int x6), (7, .int x7)]) d_LH_sets_295 (by decide) rfl ?_
                          refine am_ldc (v := (-9999999 : Int32)) d_LH_sets_297 aw_3_220 ?_
                          exact am_iret d_LH_sets_299 rfl rfl (by decide) (by decide) am_oC_ok
                        · have h := h.2 c2
                          have c3 : (h_CB_put s x2 x3 x4 x5).1 = 3 := by rcases hz with z | z | z | z <;> first | exact z | exact absurd z c0 | exact absurd z c1 | exact absurd z c2
                          refine ak_EH (as := [.int x2, .int x3, .int x4, .int x5]) (rest := []) d_LH_sets_214 cw_LH_sets_214 rfl (ch_CB_put hg hc) rfl rfl (by decide) sh_0 rfl (Nat.le_of_ble_eq_true rfl) (by decide) (by decide) (fun _ => ⟨300, by rw [c3]; exact hd_LH_sets_214_3, fun q9 => ?_⟩) (fun n => absurd n c0)
                          refine am_astoreS (lv2 := [(8, .retAddr q9), (0, .ref 0), (1, .int x1), (2, .int x2), (3, .int x3), (4, .int x4), (5, .int x5), (6, .int x6), (7, .int x7)]) d_LH_sets_300 (by decide) rfl ?_
                          refine am_ldc (v := (-9999999 : Int32)) d_LH_sets_302 aw_3_220 ?_
                          exact am_iret d_LH_sets_304 rfl rfl (by decide) (by decide) am_oC_ok
                · have h := h.1 c
                  refine am_aload_n (j := 0) d_LH_sets_186 rfl rfl ?_
                  refine am_iload_n (j := 2) d_LH_sets_187 rfl rfl ?_
                  refine am_iload_n (j := 3) d_LH_sets_188 rfl rfl ?_
                  refine am_iload (j := 4) d_LH_sets_189 rfl ?_
                  refine am_iload (j := 5) d_LH_sets_191 rfl ?_
                  refine am_iload (j := 6) d_LH_sets_193 rfl ?_
                  obtain ⟨hc, h⟩ := h
                  obtain ⟨hz, h⟩ := h
                  refine am_caseN (F := am_oC) (q := (h_CB_addRule s x2 x3 x4 x5 x6).1) (c := 0) (fun c0 => ?_) (fun c0 => ?_)
                  · have h := h.1 c0
                    refine ak_EH (as := [.int x2, .int x3, .int x4, .int x5, .int x6]) (rest := []) d_LH_sets_195 cw_LH_sets_195 rfl (ch_CB_addRule hg hc) rfl rfl (by decide) sh_0 rfl (Nat.le_of_ble_eq_true rfl) (by decide) (by decide) (fun n => absurd c0 n) (fun _ => ?_)
                    refine am_goto (tgt := 289) d_LH_sets_198 (by decide) ?_
                    exact am_iret d_LH_sets_289 rfl rfl (by decide) (by decide) am_oC_ok
                  · have h := h.2 c0
                    refine am_caseN (F := am_oC) (q := (h_CB_addRule s x2 x3 x4 x5 x6).1) (c := 1) (fun c1 => ?_) (fun c1 => ?_)
                    · have h := h.1 c1
                      refine ak_EH (as := [.int x2, .int x3, .int x4, .int x5, .int x6]) (rest := []) d_LH_sets_195 cw_LH_sets_195 rfl (ch_CB_addRule hg hc) rfl rfl (by decide) sh_0 rfl (Nat.le_of_ble_eq_true rfl) (by decide) (by decide) (fun _ => ⟨290, by rw [c1]; exact hd_LH_sets_195_1, fun q9 => ?_⟩) (fun n => absurd n c0)
                      refine am_astoreS (lv2 := [(8, .retAddr q9), (0, .ref 0), (1, .int x1), (2, .int x2), (3, .int x3), (4, .int x4), (5, .int x5), (6, .int x6), (7, .int x7)]) d_LH_sets_290 (by decide) rfl ?_
                      refine am_ldc (v := (-9999999 : Int32)) d_LH_sets_292 aw_3_220 ?_
                      exact am_iret d_LH_sets_294 rfl rfl (by decide) (by decide) am_oC_ok
                    · have h := h.2 c1
                      refine am_caseN (F := am_oC) (q := (h_CB_addRule s x2 x3 x4 x5 x6).1) (c := 2) (fun c2 => ?_) (fun c2 => ?_)
                      · have h := h.1 c2
                        refine ak_EH (as := [.int x2, .int x3, .int x4, .int x5, .int x6]) (rest := []) d_LH_sets_195 cw_LH_sets_195 rfl (ch_CB_addRule hg hc) rfl rfl (by decide) sh_0 rfl (Nat.le_of_ble_eq_true rfl) (by decide) (by decide) (fun _ => ⟨295, by rw [c2]; exact hd_LH_sets_195_2, fun q9 => ?_⟩) (fun n => absurd n c0)
                        refine am_astoreS (lv2 := [(8, .retAddr q9), (0, .ref 0), (1, .int x1), (2, .int x2), (3, .int x3), (4, .int x4), (5, .int x5), (6, .int x6), (7, .int x7)]) d_LH_sets_295 (by decide) rfl ?_
                        refine am_ldc (v := (-9999999 : Int32)) d_LH_sets_297 aw_3_220 ?_
                        exact am_iret d_LH_sets_299 rfl rfl (by decide) (by decide) am_oC_ok
                      · have h := h.2 c2
                        have c3 : (h_CB_addRule s x2 x3 x4 x5 x6).1 = 3 := by rcases hz with z | z | z | z <;> first | exact z | exact absurd z c0 | exact absurd z c1 | exact absurd z c2
                        refine ak_EH (as := [.int x2, .int x3, .int x4, .int x5, .int x6]) (rest := []) d_LH_sets_195 cw_LH_sets_195 rfl (ch_CB_addRule hg hc) rfl rfl (by decide) sh_0 rfl (Nat.le_of_ble_eq_true rfl) (by decide) (by decide) (fun _ => ⟨300, by rw [c3]; exact hd_LH_sets_195_3, fun q9 => ?_⟩) (fun n => absurd n c0)
                        refine am_astoreS (lv2 := [(8, .retAddr q9), (0, .ref 0), (1, .int x1), (2, .int x2), (3, .int x3), (4, .int x4), (5, .int x5), (6, .int x6), (7, .int x7)]) d_LH_sets_300 (by decide) rfl ?_
                        refine am_ldc (v := (-9999999 : Int32)) d_LH_sets_302 aw_3_220 ?_
                        exact am_iret d_LH_sets_304 rfl rfl (by decide) (by decide) am_oC_ok
              · have h := h.1 c
                refine am_aload_n (j := 0) d_LH_sets_169 rfl rfl ?_
                refine am_iload_n (j := 2) d_LH_sets_170 rfl rfl ?_
                refine am_iload_n (j := 3) d_LH_sets_171 rfl rfl ?_
                refine am_iload (j := 4) d_LH_sets_172 rfl ?_
                obtain ⟨hc, h⟩ := h
                obtain ⟨hz, h⟩ := h
                refine am_caseN (F := am_oC) (q := (h_CB_setRemoval s x2 x3 x4).1) (c := 0) (fun c0 => ?_) (fun c0 => ?_)
                · have h := h.1 c0
                  refine ak_EH (as := [.int x2, .int x3, .int x4]) (rest := []) d_LH_sets_174 cw_LH_sets_174 rfl (ch_CB_setRemoval hg hc) rfl rfl (by decide) sh_0 rfl (Nat.le_of_ble_eq_true rfl) (by decide) (by decide) (fun n => absurd c0 n) (fun _ => ?_)
                  refine am_goto (tgt := 289) d_LH_sets_177 (by decide) ?_
                  exact am_iret d_LH_sets_289 rfl rfl (by decide) (by decide) am_oC_ok
                · have h := h.2 c0
                  refine am_caseN (F := am_oC) (q := (h_CB_setRemoval s x2 x3 x4).1) (c := 1) (fun c1 => ?_) (fun c1 => ?_)
                  · have h := h.1 c1
                    refine ak_EH (as := [.int x2, .int x3, .int x4]) (rest := []) d_LH_sets_174 cw_LH_sets_174 rfl (ch_CB_setRemoval hg hc) rfl rfl (by decide) sh_0 rfl (Nat.le_of_ble_eq_true rfl) (by decide) (by decide) (fun _ => ⟨290, by rw [c1]; exact hd_LH_sets_174_1, fun q9 => ?_⟩) (fun n => absurd n c0)
                    refine am_astoreS (lv2 := [(8, .retAddr q9), (0, .ref 0), (1, .int x1), (2, .int x2), (3, .int x3), (4, .int x4), (5, .int x5), (6, .int x6), (7, .int x7)]) d_LH_sets_290 (by decide) rfl ?_
                    refine am_ldc (v := (-9999999 : Int32)) d_LH_sets_292 aw_3_220 ?_
                    exact am_iret d_LH_sets_294 rfl rfl (by decide) (by decide) am_oC_ok
                  · have h := h.2 c1
                    refine am_caseN (F := am_oC) (q := (h_CB_setRemoval s x2 x3 x4).1) (c := 2) (fun c2 => ?_) (fun c2 => ?_)
                    · have h := h.1 c2
                      refine ak_EH (as := [.int x2, .int x3, .int x4]) (rest := []) d_LH_sets_174 cw_LH_sets_174 rfl (ch_CB_setRemoval hg hc) rfl rfl (by decide) sh_0 rfl (Nat.le_of_ble_eq_true rfl) (by decide) (by decide) (fun _ => ⟨295, by rw [c2]; exact hd_LH_sets_174_2, fun q9 => ?_⟩) (fun n => absurd n c0)
                      refine am_astoreS (lv2 := [(8, .retAddr q9), (0, .ref 0), (1, .int x1), (2, .int x2), (3, .int x3), (4, .int x4), (5, .int x5), (6, .int x6), (7, .int x7)]) d_LH_sets_295 (by decide) rfl ?_
                      refine am_ldc (v := (-9999999 : Int32)) d_LH_sets_297 aw_3_220 ?_
                      exact am_iret d_LH_sets_299 rfl rfl (by decide) (by decide) am_oC_ok
                    · have h := h.2 c2
                      have c3 : (h_CB_setRemoval s x2 x3 x4).1 = 3 := by rcases hz with z | z | z | z <;> first | exact z | exact absurd z c0 | exact absurd z c1 | exact absurd z c2
                      refine ak_EH (as := [.int x2, .int x3, .int x4]) (rest := []) d_LH_sets_174 cw_LH_sets_174 rfl (ch_CB_setRemoval hg hc) rfl rfl (by decide) sh_0 rfl (Nat.le_of_ble_eq_true rfl) (by decide) (by decide) (fun _ => ⟨300, by rw [c3]; exact hd_LH_sets_174_3, fun q9 => ?_⟩) (fun n => absurd n c0)
                      refine am_astoreS (lv2 := [(8, .retAddr q9), (0, .ref 0), (1, .int x1), (2, .int x2), (3, .int x3), (4, .int x4), (5, .int x5), (6, .int x6), (7, .int x7)]) d_LH_sets_300 (by decide) rfl ?_
                      refine am_ldc (v := (-9999999 : Int32)) d_LH_sets_302 aw_3_220 ?_
                      exact am_iret d_LH_sets_304 rfl rfl (by decide) (by decide) am_oC_ok
            · have h := h.1 c
              refine am_aload_n (j := 0) d_LH_sets_146 rfl rfl ?_
              refine am_iload_n (j := 2) d_LH_sets_147 rfl rfl ?_
              refine am_iload_n (j := 3) d_LH_sets_148 rfl rfl ?_
              obtain ⟨hc, h⟩ := h
              obtain ⟨hz, h⟩ := h
              refine am_caseN (F := am_oC) (q := (h_CB_drop s x2 x3).1) (c := 0) (fun c0 => ?_) (fun c0 => ?_)
              · have h := h.1 c0
                refine ak_EH (as := [.int x2, .int x3]) (rest := []) d_LH_sets_149 cw_LH_sets_149 rfl (ch_CB_drop hg hc) rfl rfl (by decide) sh_0 rfl (Nat.le_of_ble_eq_true rfl) (by decide) (by decide) (fun n => absurd c0 n) (fun _ => ?_)
                refine ai_eq (F := am_oC) (tgt := 159) d_LH_sets_152 (by decide) (fun c => ?_) (fun c => ?_)
                · have h := h.1 c
                  refine am_iconst (v := (0 : Int32)) d_LH_sets_159 (by decide) ?_
                  refine am_goto (tgt := 289) d_LH_sets_160 (by decide) ?_
                  exact am_iret d_LH_sets_289 rfl rfl (by decide) (by decide) am_oC_ok
                · have h := h.2 c
                  refine am_iconst (v := (1 : Int32)) d_LH_sets_155 (by decide) ?_
                  refine am_goto (tgt := 289) d_LH_sets_156 (by decide) ?_
                  exact am_iret d_LH_sets_289 rfl rfl (by decide) (by decide) am_oC_ok
              · have h := h.2 c0
                refine am_caseN (F := am_oC) (q := (h_CB_drop s x2 x3).1) (c := 1) (fun c1 => ?_) (fun c1 => ?_)
                · have h := h.1 c1
                  refine ak_EH (as := [.int x2, .int x3]) (rest := []) d_LH_sets_149 cw_LH_sets_149 rfl (ch_CB_drop hg hc) rfl rfl (by decide) sh_0 rfl (Nat.le_of_ble_eq_true rfl) (by decide) (by decide) (fun _ => ⟨290, by rw [c1]; exact hd_LH_sets_149_1, fun q9 => ?_⟩) (fun n => absurd n c0)
                  refine am_astoreS (lv2 := [(8, .retAddr q9), (0, .ref 0), (1, .int x1), (2, .int x2), (3, .int x3), (4, .int x4), (5, .int x5), (6, .int x6), (7, .int x7)]) d_LH_sets_290 (by decide) rfl ?_
                  refine am_ldc (v := (-9999999 : Int32)) d_LH_sets_292 aw_3_220 ?_
                  exact am_iret d_LH_sets_294 rfl rfl (by decide) (by decide) am_oC_ok
                · have h := h.2 c1
                  refine am_caseN (F := am_oC) (q := (h_CB_drop s x2 x3).1) (c := 2) (fun c2 => ?_) (fun c2 => ?_)
                  · have h := h.1 c2
                    refine ak_EH (as := [.int x2, .int x3]) (rest := []) d_LH_sets_149 cw_LH_sets_149 rfl (ch_CB_drop hg hc) rfl rfl (by decide) sh_0 rfl (Nat.le_of_ble_eq_true rfl) (by decide) (by decide) (fun _ => ⟨295, by rw [c2]; exact hd_LH_sets_149_2, fun q9 => ?_⟩) (fun n => absurd n c0)
                    refine am_astoreS (lv2 := [(8, .retAddr q9), (0, .ref 0), (1, .int x1), (2, .int x2), (3, .int x3), (4, .int x4), (5, .int x5), (6, .int x6), (7, .int x7)]) d_LH_sets_295 (by decide) rfl ?_
                    refine am_ldc (v := (-9999999 : Int32)) d_LH_sets_297 aw_3_220 ?_
                    exact am_iret d_LH_sets_299 rfl rfl (by decide) (by decide) am_oC_ok
                  · have h := h.2 c2
                    have c3 : (h_CB_drop s x2 x3).1 = 3 := by rcases hz with z | z | z | z <;> first | exact z | exact absurd z c0 | exact absurd z c1 | exact absurd z c2
                    refine ak_EH (as := [.int x2, .int x3]) (rest := []) d_LH_sets_149 cw_LH_sets_149 rfl (ch_CB_drop hg hc) rfl rfl (by decide) sh_0 rfl (Nat.le_of_ble_eq_true rfl) (by decide) (by decide) (fun _ => ⟨300, by rw [c3]; exact hd_LH_sets_149_3, fun q9 => ?_⟩) (fun n => absurd n c0)
                    refine am_astoreS (lv2 := [(8, .retAddr q9), (0, .ref 0), (1, .int x1), (2, .int x2), (3, .int x3), (4, .int x4), (5, .int x5), (6, .int x6), (7, .int x7)]) d_LH_sets_300 (by decide) rfl ?_
                    refine am_ldc (v := (-9999999 : Int32)) d_LH_sets_302 aw_3_220 ?_
                    exact am_iret d_LH_sets_304 rfl rfl (by decide) (by decide) am_oC_ok
          · have h := h.1 c
            refine am_aload_n (j := 0) d_LH_sets_120 rfl rfl ?_
            refine am_iload_n (j := 2) d_LH_sets_121 rfl rfl ?_
            refine am_iload_n (j := 3) d_LH_sets_122 rfl rfl ?_
            refine am_iload (j := 4) d_LH_sets_123 rfl ?_
            refine am_iload (j := 5) d_LH_sets_125 rfl ?_
            obtain ⟨hc, h⟩ := h
            obtain ⟨hz, h⟩ := h
            refine am_caseN (F := am_oC) (q := (h_CB_narrow s x2 x3 x4 x5).1) (c := 0) (fun c0 => ?_) (fun c0 => ?_)
            · have h := h.1 c0
              refine ak_EH (as := [.int x2, .int x3, .int x4, .int x5]) (rest := []) d_LH_sets_127 cw_LH_sets_127 rfl (ch_CB_narrow hg hc) rfl rfl (by decide) sh_0 rfl (Nat.le_of_ble_eq_true rfl) (by decide) (by decide) (fun n => absurd c0 n) (fun _ => ?_)
              refine ai_eq (F := am_oC) (tgt := 137) d_LH_sets_130 (by decide) (fun c => ?_) (fun c => ?_)
              · have h := h.1 c
                refine am_iconst (v := (0 : Int32)) d_LH_sets_137 (by decide) ?_
                refine am_goto (tgt := 289) d_LH_sets_138 (by decide) ?_
                exact am_iret d_LH_sets_289 rfl rfl (by decide) (by decide) am_oC_ok
              · have h := h.2 c
                refine am_iconst (v := (1 : Int32)) d_LH_sets_133 (by decide) ?_
                refine am_goto (tgt := 289) d_LH_sets_134 (by decide) ?_
                exact am_iret d_LH_sets_289 rfl rfl (by decide) (by decide) am_oC_ok
            · have h := h.2 c0
              refine am_caseN (F := am_oC) (q := (h_CB_narrow s x2 x3 x4 x5).1) (c := 1) (fun c1 => ?_) (fun c1 => ?_)
              · have h := h.1 c1
                refine ak_EH (as := [.int x2, .int x3, .int x4, .int x5]) (rest := []) d_LH_sets_127 cw_LH_sets_127 rfl (ch_CB_narrow hg hc) rfl rfl (by decide) sh_0 rfl (Nat.le_of_ble_eq_true rfl) (by decide) (by decide) (fun _ => ⟨290, by rw [c1]; exact hd_LH_sets_127_1, fun q9 => ?_⟩) (fun n => absurd n c0)
                refine am_astoreS (lv2 := [(8, .retAddr q9), (0, .ref 0), (1, .int x1), (2, .int x2), (3, .int x3), (4, .int x4), (5, .int x5), (6, .int x6), (7, .int x7)]) d_LH_sets_290 (by decide) rfl ?_
                refine am_ldc (v := (-9999999 : Int32)) d_LH_sets_292 aw_3_220 ?_
                exact am_iret d_LH_sets_294 rfl rfl (by decide) (by decide) am_oC_ok
              · have h := h.2 c1
                refine am_caseN (F := am_oC) (q := (h_CB_narrow s x2 x3 x4 x5).1) (c := 2) (fun c2 => ?_) (fun c2 => ?_)
                · have h := h.1 c2
                  refine ak_EH (as := [.int x2, .int x3, .int x4, .int x5]) (rest := []) d_LH_sets_127 cw_LH_sets_127 rfl (ch_CB_narrow hg hc) rfl rfl (by decide) sh_0 rfl (Nat.le_of_ble_eq_true rfl) (by decide) (by decide) (fun _ => ⟨295, by rw [c2]; exact hd_LH_sets_127_2, fun q9 => ?_⟩) (fun n => absurd n c0)
                  refine am_astoreS (lv2 := [(8, .retAddr q9), (0, .ref 0), (1, .int x1), (2, .int x2), (3, .int x3), (4, .int x4), (5, .int x5), (6, .int x6), (7, .int x7)]) d_LH_sets_295 (by decide) rfl ?_
                  refine am_ldc (v := (-9999999 : Int32)) d_LH_sets_297 aw_3_220 ?_
                  exact am_iret d_LH_sets_299 rfl rfl (by decide) (by decide) am_oC_ok
                · have h := h.2 c2
                  have c3 : (h_CB_narrow s x2 x3 x4 x5).1 = 3 := by rcases hz with z | z | z | z <;> first | exact z | exact absurd z c0 | exact absurd z c1 | exact absurd z c2
                  refine ak_EH (as := [.int x2, .int x3, .int x4, .int x5]) (rest := []) d_LH_sets_127 cw_LH_sets_127 rfl (ch_CB_narrow hg hc) rfl rfl (by decide) sh_0 rfl (Nat.le_of_ble_eq_true rfl) (by decide) (by decide) (fun _ => ⟨300, by rw [c3]; exact hd_LH_sets_127_3, fun q9 => ?_⟩) (fun n => absurd n c0)
                  refine am_astoreS (lv2 := [(8, .retAddr q9), (0, .ref 0), (1, .int x1), (2, .int x2), (3, .int x3), (4, .int x4), (5, .int x5), (6, .int x6), (7, .int x7)]) d_LH_sets_300 (by decide) rfl ?_
                  refine am_ldc (v := (-9999999 : Int32)) d_LH_sets_302 aw_3_220 ?_
                  exact am_iret d_LH_sets_304 rfl rfl (by decide) (by decide) am_oC_ok
        · have h := h.1 c
          refine am_aload_n (j := 0) d_LH_sets_87 rfl rfl ?_
          refine am_iload_n (j := 2) d_LH_sets_88 rfl rfl ?_
          refine am_iload_n (j := 3) d_LH_sets_89 rfl rfl ?_
          refine am_iload (j := 4) d_LH_sets_90 rfl ?_
          refine am_iconst (v := (1 : Int32)) d_LH_sets_92 (by decide) ?_
          refine aj_ne (F := am_oC) (tgt := 100) d_LH_sets_93 (by decide) (fun c => ?_) (fun c => ?_)
          · have h := h.2 c
            refine am_iconst (v := (0 : Int32)) d_LH_sets_100 (by decide) ?_
            obtain ⟨hc, h⟩ := h
            obtain ⟨hz, h⟩ := h
            refine am_caseN (F := am_oC) (q := (h_CB_single s x2 x3 (0 : Int32)).1) (c := 0) (fun c0 => ?_) (fun c0 => ?_)
            · have h := h.1 c0
              refine ak_EH (as := [.int x2, .int x3, .int (0 : Int32)]) (rest := []) d_LH_sets_101 cw_LH_sets_101 rfl (ch_CB_single hg hc) rfl rfl (by decide) sh_0 rfl (Nat.le_of_ble_eq_true rfl) (by decide) (by decide) (fun n => absurd c0 n) (fun _ => ?_)
              refine ai_eq (F := am_oC) (tgt := 111) d_LH_sets_104 (by decide) (fun c => ?_) (fun c => ?_)
              · have h := h.1 c
                refine am_iconst (v := (0 : Int32)) d_LH_sets_111 (by decide) ?_
                refine am_goto (tgt := 289) d_LH_sets_112 (by decide) ?_
                exact am_iret d_LH_sets_289 rfl rfl (by decide) (by decide) am_oC_ok
              · have h := h.2 c
                refine am_iconst (v := (1 : Int32)) d_LH_sets_107 (by decide) ?_
                refine am_goto (tgt := 289) d_LH_sets_108 (by decide) ?_
                exact am_iret d_LH_sets_289 rfl rfl (by decide) (by decide) am_oC_ok
            · have h := h.2 c0
              refine am_caseN (F := am_oC) (q := (h_CB_single s x2 x3 (0 : Int32)).1) (c := 1) (fun c1 => ?_) (fun c1 => ?_)
              · have h := h.1 c1
                refine ak_EH (as := [.int x2, .int x3, .int (0 : Int32)]) (rest := []) d_LH_sets_101 cw_LH_sets_101 rfl (ch_CB_single hg hc) rfl rfl (by decide) sh_0 rfl (Nat.le_of_ble_eq_true rfl) (by decide) (by decide) (fun _ => ⟨290, by rw [c1]; exact hd_LH_sets_101_1, fun q9 => ?_⟩) (fun n => absurd n c0)
                refine am_astoreS (lv2 := [(8, .retAddr q9), (0, .ref 0), (1, .int x1), (2, .int x2), (3, .int x3), (4, .int x4), (5, .int x5), (6, .int x6), (7, .int x7)]) d_LH_sets_290 (by decide) rfl ?_
                refine am_ldc (v := (-9999999 : Int32)) d_LH_sets_292 aw_3_220 ?_
                exact am_iret d_LH_sets_294 rfl rfl (by decide) (by decide) am_oC_ok
              · have h := h.2 c1
                refine am_caseN (F := am_oC) (q := (h_CB_single s x2 x3 (0 : Int32)).1) (c := 2) (fun c2 => ?_) (fun c2 => ?_)
                · have h := h.1 c2
                  refine ak_EH (as := [.int x2, .int x3, .int (0 : Int32)]) (rest := []) d_LH_sets_101 cw_LH_sets_101 rfl (ch_CB_single hg hc) rfl rfl (by decide) sh_0 rfl (Nat.le_of_ble_eq_true rfl) (by decide) (by decide) (fun _ => ⟨295, by rw [c2]; exact hd_LH_sets_101_2, fun q9 => ?_⟩) (fun n => absurd n c0)
                  refine am_astoreS (lv2 := [(8, .retAddr q9), (0, .ref 0), (1, .int x1), (2, .int x2), (3, .int x3), (4, .int x4), (5, .int x5), (6, .int x6), (7, .int x7)]) d_LH_sets_295 (by decide) rfl ?_
                  refine am_ldc (v := (-9999999 : Int32)) d_LH_sets_297 aw_3_220 ?_
                  exact am_iret d_LH_sets_299 rfl rfl (by decide) (by decide) am_oC_ok
                · have h := h.2 c2
                  have c3 : (h_CB_single s x2 x3 (0 : Int32)).1 = 3 := by rcases hz with z | z | z | z <;> first | exact z | exact absurd z c0 | exact absurd z c1 | exact absurd z c2
                  refine ak_EH (as := [.int x2, .int x3, .int (0 : Int32)]) (rest := []) d_LH_sets_101 cw_LH_sets_101 rfl (ch_CB_single hg hc) rfl rfl (by decide) sh_0 rfl (Nat.le_of_ble_eq_true rfl) (by decide) (by decide) (fun _ => ⟨300, by rw [c3]; exact hd_LH_sets_101_3, fun q9 => ?_⟩) (fun n => absurd n c0)
                  refine am_astoreS (lv2 := [(8, .retAddr q9), (0, .ref 0), (1, .int x1), (2, .int x2), (3, .int x3), (4, .int x4), (5, .int x5), (6, .int x6), (7, .int x7)]) d_LH_sets_300 (by decide) rfl ?_
                  refine am_ldc (v := (-9999999 : Int32)) d_LH_sets_302 aw_3_220 ?_
                  exact am_iret d_LH_sets_304 rfl rfl (by decide) (by decide) am_oC_ok
          · have h := h.1 c
            refine am_iconst (v := (1 : Int32)) d_LH_sets_96 (by decide) ?_
            refine am_goto (tgt := 101) d_LH_sets_97 (by decide) ?_
            obtain ⟨hc, h⟩ := h
            obtain ⟨hz, h⟩ := h
            refine am_caseN (F := am_oC) (q := (h_CB_single s x2 x3 (1 : Int32)).1) (c := 0) (fun c0 => ?_) (fun c0 => ?_)
            · have h := h.1 c0
              refine ak_EH (as := [.int x2, .int x3, .int (1 : Int32)]) (rest := []) d_LH_sets_101 cw_LH_sets_101 rfl (ch_CB_single hg hc) rfl rfl (by decide) sh_0 rfl (Nat.le_of_ble_eq_true rfl) (by decide) (by decide) (fun n => absurd c0 n) (fun _ => ?_)
              refine ai_eq (F := am_oC) (tgt := 111) d_LH_sets_104 (by decide) (fun c => ?_) (fun c => ?_)
              · have h := h.1 c
                refine am_iconst (v := (0 : Int32)) d_LH_sets_111 (by decide) ?_
                refine am_goto (tgt := 289) d_LH_sets_112 (by decide) ?_
                exact am_iret d_LH_sets_289 rfl rfl (by decide) (by decide) am_oC_ok
              · have h := h.2 c
                refine am_iconst (v := (1 : Int32)) d_LH_sets_107 (by decide) ?_
                refine am_goto (tgt := 289) d_LH_sets_108 (by decide) ?_
                exact am_iret d_LH_sets_289 rfl rfl (by decide) (by decide) am_oC_ok
            · have h := h.2 c0
              refine am_caseN (F := am_oC) (q := (h_CB_single s x2 x3 (1 : Int32)).1) (c := 1) (fun c1 => ?_) (fun c1 => ?_)
              · have h := h.1 c1
                refine ak_EH (as := [.int x2, .int x3, .int (1 : Int32)]) (rest := []) d_LH_sets_101 cw_LH_sets_101 rfl (ch_CB_single hg hc) rfl rfl (by decide) sh_0 rfl (Nat.le_of_ble_eq_true rfl) (by decide) (by decide) (fun _ => ⟨290, by rw [c1]; exact hd_LH_sets_101_1, fun q9 => ?_⟩) (fun n => absurd n c0)
                refine am_astoreS (lv2 := [(8, .retAddr q9), (0, .ref 0), (1, .int x1), (2, .int x2), (3, .int x3), (4, .int x4), (5, .int x5), (6, .int x6), (7, .int x7)]) d_LH_sets_290 (by decide) rfl ?_
                refine am_ldc (v := (-9999999 : Int32)) d_LH_sets_292 aw_3_220 ?_
                exact am_iret d_LH_sets_294 rfl rfl (by decide) (by decide) am_oC_ok
              · have h := h.2 c1
                refine am_caseN (F := am_oC) (q := (h_CB_single s x2 x3 (1 : Int32)).1) (c := 2) (fun c2 => ?_) (fun c2 => ?_)
                · have h := h.1 c2
                  refine ak_EH (as := [.int x2, .int x3, .int (1 : Int32)]) (rest := []) d_LH_sets_101 cw_LH_sets_101 rfl (ch_CB_single hg hc) rfl rfl (by decide) sh_0 rfl (Nat.le_of_ble_eq_true rfl) (by decide) (by decide) (fun _ => ⟨295, by rw [c2]; exact hd_LH_sets_101_2, fun q9 => ?_⟩) (fun n => absurd n c0)
                  refine am_astoreS (lv2 := [(8, .retAddr q9), (0, .ref 0), (1, .int x1), (2, .int x2), (3, .int x3), (4, .int x4), (5, .int x5), (6, .int x6), (7, .int x7)]) d_LH_sets_295 (by decide) rfl ?_
                  refine am_ldc (v := (-9999999 : Int32)) d_LH_sets_297 aw_3_220 ?_
                  exact am_iret d_LH_sets_299 rfl rfl (by decide) (by decide) am_oC_ok
                · have h := h.2 c2
                  have c3 : (h_CB_single s x2 x3 (1 : Int32)).1 = 3 := by rcases hz with z | z | z | z <;> first | exact z | exact absurd z c0 | exact absurd z c1 | exact absurd z c2
                  refine ak_EH (as := [.int x2, .int x3, .int (1 : Int32)]) (rest := []) d_LH_sets_101 cw_LH_sets_101 rfl (ch_CB_single hg hc) rfl rfl (by decide) sh_0 rfl (Nat.le_of_ble_eq_true rfl) (by decide) (by decide) (fun _ => ⟨300, by rw [c3]; exact hd_LH_sets_101_3, fun q9 => ?_⟩) (fun n => absurd n c0)
                  refine am_astoreS (lv2 := [(8, .retAddr q9), (0, .ref 0), (1, .int x1), (2, .int x2), (3, .int x3), (4, .int x4), (5, .int x5), (6, .int x6), (7, .int x7)]) d_LH_sets_300 (by decide) rfl ?_
                  refine am_ldc (v := (-9999999 : Int32)) d_LH_sets_302 aw_3_220 ?_
                  exact am_iret d_LH_sets_304 rfl rfl (by decide) (by decide) am_oC_ok
      · have h := h.1 c
        refine am_aload_n (j := 0) d_LH_sets_54 rfl rfl ?_
        refine am_iload_n (j := 2) d_LH_sets_55 rfl rfl ?_
        refine am_iload_n (j := 3) d_LH_sets_56 rfl rfl ?_
        refine am_iload (j := 4) d_LH_sets_57 rfl ?_
        refine am_iconst (v := (1 : Int32)) d_LH_sets_59 (by decide) ?_
        refine aj_ne (F := am_oC) (tgt := 67) d_LH_sets_60 (by decide) (fun c => ?_) (fun c => ?_)
        · have h := h.2 c
          refine am_iconst (v := (0 : Int32)) d_LH_sets_67 (by decide) ?_
          obtain ⟨hc, h⟩ := h
          obtain ⟨hz, h⟩ := h
          refine am_caseN (F := am_oC) (q := (h_CB_need s x2 x3 (0 : Int32)).1) (c := 0) (fun c0 => ?_) (fun c0 => ?_)
          · have h := h.1 c0
            refine ak_EH (as := [.int x2, .int x3, .int (0 : Int32)]) (rest := []) d_LH_sets_68 cw_LH_sets_68 rfl (ch_CB_need hg hc) rfl rfl (by decide) sh_0 rfl (Nat.le_of_ble_eq_true rfl) (by decide) (by decide) (fun n => absurd c0 n) (fun _ => ?_)
            refine ai_eq (F := am_oC) (tgt := 78) d_LH_sets_71 (by decide) (fun c => ?_) (fun c => ?_)
            · have h := h.1 c
              refine am_iconst (v := (0 : Int32)) d_LH_sets_78 (by decide) ?_
              refine am_goto (tgt := 289) d_LH_sets_79 (by decide) ?_
              exact am_iret d_LH_sets_289 rfl rfl (by decide) (by decide) am_oC_ok
            · have h := h.2 c
              refine am_iconst (v := (1 : Int32)) d_LH_sets_74 (by decide) ?_
              refine am_goto (tgt := 289) d_LH_sets_75 (by decide) ?_
              exact am_iret d_LH_sets_289 rfl rfl (by decide) (by decide) am_oC_ok
          · have h := h.2 c0
            refine am_caseN (F := am_oC) (q := (h_CB_need s x2 x3 (0 : Int32)).1) (c := 1) (fun c1 => ?_) (fun c1 => ?_)
            · have h := h.1 c1
              refine ak_EH (as := [.int x2, .int x3, .int (0 : Int32)]) (rest := []) d_LH_sets_68 cw_LH_sets_68 rfl (ch_CB_need hg hc) rfl rfl (by decide) sh_0 rfl (Nat.le_of_ble_eq_true rfl) (by decide) (by decide) (fun _ => ⟨290, by rw [c1]; exact hd_LH_sets_68_1, fun q9 => ?_⟩) (fun n => absurd n c0)
              refine am_astoreS (lv2 := [(8, .retAddr q9), (0, .ref 0), (1, .int x1), (2, .int x2), (3, .int x3), (4, .int x4), (5, .int x5), (6, .int x6), (7, .int x7)]) d_LH_sets_290 (by decide) rfl ?_
              refine am_ldc (v := (-9999999 : Int32)) d_LH_sets_292 aw_3_220 ?_
              exact am_iret d_LH_sets_294 rfl rfl (by decide) (by decide) am_oC_ok
            · have h := h.2 c1
              refine am_caseN (F := am_oC) (q := (h_CB_need s x2 x3 (0 : Int32)).1) (c := 2) (fun c2 => ?_) (fun c2 => ?_)
              · have h := h.1 c2
                refine ak_EH (as := [.int x2, .int x3, .int (0 : Int32)]) (rest := []) d_LH_sets_68 cw_LH_sets_68 rfl (ch_CB_need hg hc) rfl rfl (by decide) sh_0 rfl (Nat.le_of_ble_eq_true rfl) (by decide) (by decide) (fun _ => ⟨295, by rw [c2]; exact hd_LH_sets_68_2, fun q9 => ?_⟩) (fun n => absurd n c0)
                refine am_astoreS (lv2 := [(8, .retAddr q9), (0, .ref 0), (1, .int x1), (2, .int x2), (3, .int x3), (4, .int x4), (5, .int x5), (6, .int x6), (7, .int x7)]) d_LH_sets_295 (by decide) rfl ?_
                refine am_ldc (v := (-9999999 : Int32)) d_LH_sets_297 aw_3_220 ?_
                exact am_iret d_LH_sets_299 rfl rfl (by decide) (by decide) am_oC_ok
              · have h := h.2 c2
                have c3 : (h_CB_need s x2 x3 (0 : Int32)).1 = 3 := by rcases hz with z | z | z | z <;> first | exact z | exact absurd z c0 | exact absurd z c1 | exact absurd z c2
                refine ak_EH (as := [.int x2, .int x3, .int (0 : Int32)]) (rest := []) d_LH_sets_68 cw_LH_sets_68 rfl (ch_CB_need hg hc) rfl rfl (by decide) sh_0 rfl (Nat.le_of_ble_eq_true rfl) (by decide) (by decide) (fun _ => ⟨300, by rw [c3]; exact hd_LH_sets_68_3, fun q9 => ?_⟩) (fun n => absurd n c0)
                refine am_astoreS (lv2 := [(8, .retAddr q9), (0, .ref 0), (1, .int x1), (2, .int x2), (3, .int x3), (4, .int x4), (5, .int x5), (6, .int x6), (7, .int x7)]) d_LH_sets_300 (by decide) rfl ?_
                refine am_ldc (v := (-9999999 : Int32)) d_LH_sets_302 aw_3_220 ?_
                exact am_iret d_LH_sets_304 rfl rfl (by decide) (by decide) am_oC_ok
        · have h := h.1 c
          refine am_iconst (v := (1 : Int32)) d_LH_sets_63 (by decide) ?_
          refine am_goto (tgt := 68) d_LH_sets_64 (by decide) ?_
          obtain ⟨hc, h⟩ := h
          obtain ⟨hz, h⟩ := h
          refine am_caseN (F := am_oC) (q := (h_CB_need s x2 x3 (1 : Int32)).1) (c := 0) (fun c0 => ?_) (fun c0 => ?_)
          · have h := h.1 c0
            refine ak_EH (as := [.int x2, .int x3, .int (1 : Int32)]) (rest := []) d_LH_sets_68 cw_LH_sets_68 rfl (ch_CB_need hg hc) rfl rfl (by decide) sh_0 rfl (Nat.le_of_ble_eq_true rfl) (by decide) (by decide) (fun n => absurd c0 n) (fun _ => ?_)
            refine ai_eq (F := am_oC) (tgt := 78) d_LH_sets_71 (by decide) (fun c => ?_) (fun c => ?_)
            · have h := h.1 c
              refine am_iconst (v := (0 : Int32)) d_LH_sets_78 (by decide) ?_
              refine am_goto (tgt := 289) d_LH_sets_79 (by decide) ?_
              exact am_iret d_LH_sets_289 rfl rfl (by decide) (by decide) am_oC_ok
            · have h := h.2 c
              refine am_iconst (v := (1 : Int32)) d_LH_sets_74 (by decide) ?_
              refine am_goto (tgt := 289) d_LH_sets_75 (by decide) ?_
              exact am_iret d_LH_sets_289 rfl rfl (by decide) (by decide) am_oC_ok
          · have h := h.2 c0
            refine am_caseN (F := am_oC) (q := (h_CB_need s x2 x3 (1 : Int32)).1) (c := 1) (fun c1 => ?_) (fun c1 => ?_)
            · have h := h.1 c1
              refine ak_EH (as := [.int x2, .int x3, .int (1 : Int32)]) (rest := []) d_LH_sets_68 cw_LH_sets_68 rfl (ch_CB_need hg hc) rfl rfl (by decide) sh_0 rfl (Nat.le_of_ble_eq_true rfl) (by decide) (by decide) (fun _ => ⟨290, by rw [c1]; exact hd_LH_sets_68_1, fun q9 => ?_⟩) (fun n => absurd n c0)
              refine am_astoreS (lv2 := [(8, .retAddr q9), (0, .ref 0), (1, .int x1), (2, .int x2), (3, .int x3), (4, .int x4), (5, .int x5), (6, .int x6), (7, .int x7)]) d_LH_sets_290 (by decide) rfl ?_
              refine am_ldc (v := (-9999999 : Int32)) d_LH_sets_292 aw_3_220 ?_
              exact am_iret d_LH_sets_294 rfl rfl (by decide) (by decide) am_oC_ok
            · have h := h.2 c1
              refine am_caseN (F := am_oC) (q := (h_CB_need s x2 x3 (1 : Int32)).1) (c := 2) (fun c2 => ?_) (fun c2 => ?_)
              · have h := h.1 c2
                refine ak_EH (as := [.int x2, .int x3, .int (1 : Int32)]) (rest := []) d_LH_sets_68 cw_LH_sets_68 rfl (ch_CB_need hg hc) rfl rfl (by decide) sh_0 rfl (Nat.le_of_ble_eq_true rfl) (by decide) (by decide) (fun _ => ⟨295, by rw [c2]; exact hd_LH_sets_68_2, fun q9 => ?_⟩) (fun n => absurd n c0)
                refine am_astoreS (lv2 := [(8, .retAddr q9), (0, .ref 0), (1, .int x1), (2, .int x2), (3, .int x3), (4, .int x4), (5, .int x5), (6, .int x6), (7, .int x7)]) d_LH_sets_295 (by decide) rfl ?_
                refine am_ldc (v := (-9999999 : Int32)) d_LH_sets_297 aw_3_220 ?_
                exact am_iret d_LH_sets_299 rfl rfl (by decide) (by decide) am_oC_ok
              · have h := h.2 c2
                have c3 : (h_CB_need s x2 x3 (1 : Int32)).1 = 3 := by rcases hz with z | z | z | z <;> first | exact z | exact absurd z c0 | exact absurd z c1 | exact absurd z c2
                refine ak_EH (as := [.int x2, .int x3, .int (1 : Int32)]) (rest := []) d_LH_sets_68 cw_LH_sets_68 rfl (ch_CB_need hg hc) rfl rfl (by decide) sh_0 rfl (Nat.le_of_ble_eq_true rfl) (by decide) (by decide) (fun _ => ⟨300, by rw [c3]; exact hd_LH_sets_68_3, fun q9 => ?_⟩) (fun n => absurd n c0)
                refine am_astoreS (lv2 := [(8, .retAddr q9), (0, .ref 0), (1, .int x1), (2, .int x2), (3, .int x3), (4, .int x4), (5, .int x5), (6, .int x6), (7, .int x7)]) d_LH_sets_300 (by decide) rfl ?_
                refine am_ldc (v := (-9999999 : Int32)) d_LH_sets_302 aw_3_220 ?_
                exact am_iret d_LH_sets_304 rfl rfl (by decide) (by decide) am_oC_ok
    · have h := h.1 c
      refine am_aload_n (j := 0) d_LH_sets_24 rfl rfl ?_
      refine am_iload_n (j := 2) d_LH_sets_25 rfl rfl ?_
      refine am_iload_n (j := 3) d_LH_sets_26 rfl rfl ?_
      refine am_iload (j := 4) d_LH_sets_27 rfl ?_
      refine am_iload (j := 5) d_LH_sets_29 rfl ?_
      refine am_iload (j := 6) d_LH_sets_31 rfl ?_
      refine am_iload (j := 7) d_LH_sets_33 rfl ?_
      obtain ⟨hc, h⟩ := h
      obtain ⟨hz, h⟩ := h
      refine am_caseN (F := am_oC) (q := (h_CB_reckonAnew s x2 x3 x4 x5 x6 x7).1) (c := 0) (fun c0 => ?_) (fun c0 => ?_)
      · have h := h.1 c0
        refine ak_EH (as := [.int x2, .int x3, .int x4, .int x5, .int x6, .int x7]) (rest := []) d_LH_sets_35 cw_LH_sets_35 rfl (ch_CB_reckonAnew hg hc) rfl rfl (by decide) sh_0 rfl (Nat.le_of_ble_eq_true rfl) (by decide) (by decide) (fun n => absurd c0 n) (fun _ => ?_)
        refine ai_eq (F := am_oC) (tgt := 45) d_LH_sets_38 (by decide) (fun c => ?_) (fun c => ?_)
        · have h := h.1 c
          refine am_iconst (v := (0 : Int32)) d_LH_sets_45 (by decide) ?_
          refine am_goto (tgt := 289) d_LH_sets_46 (by decide) ?_
          exact am_iret d_LH_sets_289 rfl rfl (by decide) (by decide) am_oC_ok
        · have h := h.2 c
          refine am_iconst (v := (1 : Int32)) d_LH_sets_41 (by decide) ?_
          refine am_goto (tgt := 289) d_LH_sets_42 (by decide) ?_
          exact am_iret d_LH_sets_289 rfl rfl (by decide) (by decide) am_oC_ok
      · have h := h.2 c0
        refine am_caseN (F := am_oC) (q := (h_CB_reckonAnew s x2 x3 x4 x5 x6 x7).1) (c := 1) (fun c1 => ?_) (fun c1 => ?_)
        · have h := h.1 c1
          refine ak_EH (as := [.int x2, .int x3, .int x4, .int x5, .int x6, .int x7]) (rest := []) d_LH_sets_35 cw_LH_sets_35 rfl (ch_CB_reckonAnew hg hc) rfl rfl (by decide) sh_0 rfl (Nat.le_of_ble_eq_true rfl) (by decide) (by decide) (fun _ => ⟨290, by rw [c1]; exact hd_LH_sets_35_1, fun q9 => ?_⟩) (fun n => absurd n c0)
          refine am_astoreS (lv2 := [(8, .retAddr q9), (0, .ref 0), (1, .int x1), (2, .int x2), (3, .int x3), (4, .int x4), (5, .int x5), (6, .int x6), (7, .int x7)]) d_LH_sets_290 (by decide) rfl ?_
          refine am_ldc (v := (-9999999 : Int32)) d_LH_sets_292 aw_3_220 ?_
          exact am_iret d_LH_sets_294 rfl rfl (by decide) (by decide) am_oC_ok
        · have h := h.2 c1
          refine am_caseN (F := am_oC) (q := (h_CB_reckonAnew s x2 x3 x4 x5 x6 x7).1) (c := 2) (fun c2 => ?_) (fun c2 => ?_)
          · have h := h.1 c2
            refine ak_EH (as := [.int x2, .int x3, .int x4, .int x5, .int x6, .int x7]) (rest := []) d_LH_sets_35 cw_LH_sets_35 rfl (ch_CB_reckonAnew hg hc) rfl rfl (by decide) sh_0 rfl (Nat.le_of_ble_eq_true rfl) (by decide) (by decide) (fun _ => ⟨295, by rw [c2]; exact hd_LH_sets_35_2, fun q9 => ?_⟩) (fun n => absurd n c0)
            refine am_astoreS (lv2 := [(8, .retAddr q9), (0, .ref 0), (1, .int x1), (2, .int x2), (3, .int x3), (4, .int x4), (5, .int x5), (6, .int x6), (7, .int x7)]) d_LH_sets_295 (by decide) rfl ?_
            refine am_ldc (v := (-9999999 : Int32)) d_LH_sets_297 aw_3_220 ?_
            exact am_iret d_LH_sets_299 rfl rfl (by decide) (by decide) am_oC_ok
          · have h := h.2 c2
            have c3 : (h_CB_reckonAnew s x2 x3 x4 x5 x6 x7).1 = 3 := by rcases hz with z | z | z | z <;> first | exact z | exact absurd z c0 | exact absurd z c1 | exact absurd z c2
            refine ak_EH (as := [.int x2, .int x3, .int x4, .int x5, .int x6, .int x7]) (rest := []) d_LH_sets_35 cw_LH_sets_35 rfl (ch_CB_reckonAnew hg hc) rfl rfl (by decide) sh_0 rfl (Nat.le_of_ble_eq_true rfl) (by decide) (by decide) (fun _ => ⟨300, by rw [c3]; exact hd_LH_sets_35_3, fun q9 => ?_⟩) (fun n => absurd n c0)
            refine am_astoreS (lv2 := [(8, .retAddr q9), (0, .ref 0), (1, .int x1), (2, .int x2), (3, .int x3), (4, .int x4), (5, .int x5), (6, .int x6), (7, .int x7)]) d_LH_sets_300 (by decide) rfl ?_
            refine am_ldc (v := (-9999999 : Int32)) d_LH_sets_302 aw_3_220 ?_
            exact am_iret d_LH_sets_304 rfl rfl (by decide) (by decide) am_oC_ok
  · have h := h.1 c
    refine am_aload_n (j := 0) d_LH_sets_4 rfl rfl ?_
    refine am_iload_n (j := 2) d_LH_sets_5 rfl rfl ?_
    refine am_iload_n (j := 3) d_LH_sets_6 rfl rfl ?_
    refine am_iload (j := 4) d_LH_sets_7 rfl ?_
    refine am_iload (j := 5) d_LH_sets_9 rfl ?_
    refine am_iload (j := 6) d_LH_sets_11 rfl ?_
    obtain ⟨hc, h⟩ := h
    obtain ⟨hz, h⟩ := h
    refine am_caseN (F := am_oC) (q := (h_CB_addReckoned s x2 x3 x4 x5 x6).1) (c := 0) (fun c0 => ?_) (fun c0 => ?_)
    · have h := h.1 c0
      refine ak_EH (as := [.int x2, .int x3, .int x4, .int x5, .int x6]) (rest := []) d_LH_sets_13 cw_LH_sets_13 rfl (ch_CB_addReckoned hg hc) rfl rfl (by decide) sh_0 rfl (Nat.le_of_ble_eq_true rfl) (by decide) (by decide) (fun n => absurd c0 n) (fun _ => ?_)
      refine am_goto (tgt := 289) d_LH_sets_16 (by decide) ?_
      exact am_iret d_LH_sets_289 rfl rfl (by decide) (by decide) am_oC_ok
    · have h := h.2 c0
      refine am_caseN (F := am_oC) (q := (h_CB_addReckoned s x2 x3 x4 x5 x6).1) (c := 1) (fun c1 => ?_) (fun c1 => ?_)
      · have h := h.1 c1
        refine ak_EH (as := [.int x2, .int x3, .int x4, .int x5, .int x6]) (rest := []) d_LH_sets_13 cw_LH_sets_13 rfl (ch_CB_addReckoned hg hc) rfl rfl (by decide) sh_0 rfl (Nat.le_of_ble_eq_true rfl) (by decide) (by decide) (fun _ => ⟨290, by rw [c1]; exact hd_LH_sets_13_1, fun q9 => ?_⟩) (fun n => absurd n c0)
        refine am_astoreS (lv2 := [(8, .retAddr q9), (0, .ref 0), (1, .int x1), (2, .int x2), (3, .int x3), (4, .int x4), (5, .int x5), (6, .int x6), (7, .int x7)]) d_LH_sets_290 (by decide) rfl ?_
        refine am_ldc (v := (-9999999 : Int32)) d_LH_sets_292 aw_3_220 ?_
        exact am_iret d_LH_sets_294 rfl rfl (by decide) (by decide) am_oC_ok
      · have h := h.2 c1
        refine am_caseN (F := am_oC) (q := (h_CB_addReckoned s x2 x3 x4 x5 x6).1) (c := 2) (fun c2 => ?_) (fun c2 => ?_)
        · have h := h.1 c2
          refine ak_EH (as := [.int x2, .int x3, .int x4, .int x5, .int x6]) (rest := []) d_LH_sets_13 cw_LH_sets_13 rfl (ch_CB_addReckoned hg hc) rfl rfl (by decide) sh_0 rfl (Nat.le_of_ble_eq_true rfl) (by decide) (by decide) (fun _ => ⟨295, by rw [c2]; exact hd_LH_sets_13_2, fun q9 => ?_⟩) (fun n => absurd n c0)
          refine am_astoreS (lv2 := [(8, .retAddr q9), (0, .ref 0), (1, .int x1), (2, .int x2), (3, .int x3), (4, .int x4), (5, .int x5), (6, .int x6), (7, .int x7)]) d_LH_sets_295 (by decide) rfl ?_
          refine am_ldc (v := (-9999999 : Int32)) d_LH_sets_297 aw_3_220 ?_
          exact am_iret d_LH_sets_299 rfl rfl (by decide) (by decide) am_oC_ok
        · have h := h.2 c2
          have c3 : (h_CB_addReckoned s x2 x3 x4 x5 x6).1 = 3 := by rcases hz with z | z | z | z <;> first | exact z | exact absurd z c0 | exact absurd z c1 | exact absurd z c2
          refine ak_EH (as := [.int x2, .int x3, .int x4, .int x5, .int x6]) (rest := []) d_LH_sets_13 cw_LH_sets_13 rfl (ch_CB_addReckoned hg hc) rfl rfl (by decide) sh_0 rfl (Nat.le_of_ble_eq_true rfl) (by decide) (by decide) (fun _ => ⟨300, by rw [c3]; exact hd_LH_sets_13_3, fun q9 => ?_⟩) (fun n => absurd n c0)
          refine am_astoreS (lv2 := [(8, .retAddr q9), (0, .ref 0), (1, .int x1), (2, .int x2), (3, .int x3), (4, .int x4), (5, .int x5), (6, .int x6), (7, .int x7)]) d_LH_sets_300 (by decide) rfl ?_
          refine am_ldc (v := (-9999999 : Int32)) d_LH_sets_302 aw_3_220 ?_
          exact am_iret d_LH_sets_304 rfl rfl (by decide) (by decide) am_oC_ok
theorem ct_LH_sets {l : Launch} {g : am_Gl} (hg : g.2.2.2.1 = true) {s : am_M} {x1 : Int32} {x2 : Int32} {x3 : Int32} {x4 : Int32} {x5 : Int32} {x6 : Int32} {x7 : Int32} (h : p_LH_sets s x1 x2 x3 x4 x5 x6 x7) : AC l g m_LH_sets 207 s [.ref 0, .int x1, .int x2, .int x3, .int x4, .int x5, .int x6, .int x7] (am_oC (f_LH_sets s x1 x2 x3 x4 x5 x6 x7)) := am_enterH ok_LH_sets rfl rfl (Nat.le_of_ble_eq_true rfl) rfl (fun ad0 => w_LH_sets hg h)
theorem cw_LH_sets10_258 : am_cv m_LH_sets10 m_CB_cell 101 3 := ⟨⟨ok_CB_cell, rfl, by decide +kernel, by decide, by decide⟩, aw_4_144, aw_4_145, aw_4_146⟩
theorem hd_LH_sets10_258_1 : am_hd m_LH_sets10 258 (am_exn 1) 290 := ⟨[], ⟨0, 289, 290, 55⟩, [⟨0, 289, 295, 58⟩, ⟨0, 289, 300, 60⟩], rfl, by decide, rfl, by decide, aw_1_196, by decide +kernel, fun z h => absurd h List.not_mem_nil⟩
theorem hd_LH_sets10_258_2 : am_hd m_LH_sets10 258 (am_exn 2) 295 := ⟨[⟨0, 289, 290, 55⟩], ⟨0, 289, 295, 58⟩, [⟨0, 289, 300, 60⟩], rfl, by decide, rfl, by decide, aw_1_197, by decide +kernel, List.forall_mem_cons.mpr ⟨Or.inr ⟨by decide, "java/lang/IndexOutOfBoundsException", aw_1_196, by decide⟩, fun z h => absurd h List.not_mem_nil⟩⟩
theorem hd_LH_sets10_258_3 : am_hd m_LH_sets10 258 (am_exn 3) 300 := ⟨[⟨0, 289, 290, 55⟩, ⟨0, 289, 295, 58⟩], ⟨0, 289, 300, 60⟩, [], rfl, by decide, rfl, by decide, aw_1_198, by decide +kernel, List.forall_mem_cons.mpr ⟨Or.inr ⟨by decide, "java/lang/IndexOutOfBoundsException", aw_1_196, by decide⟩, List.forall_mem_cons.mpr ⟨Or.inr ⟨by decide, "java/lang/IllegalArgumentException", aw_1_197, by decide⟩, fun z h => absurd h List.not_mem_nil⟩⟩⟩
theorem ok_LH_sets10 : am_ok m_LH_sets10 := ok_LH_sets
def f_LH_sets10 (s : am_M) (x2 : Int32) (x3 : Int32) (x4 : Int32) (x5 : Int32) (x6 : Int32) (x7 : Int32) : Int32 × am_M := (if (f_CB_cell s x2 x3 x4).1 = 0 then ((f_CB_cell s x2 x3 x4).2.1, (f_CB_cell s x2 x3 x4).2.2) else (if (f_CB_cell s x2 x3 x4).1 = 1 then ((-9999999 : Int32), (f_CB_cell s x2 x3 x4).2.2) else (if (f_CB_cell s x2 x3 x4).1 = 2 then ((-9999999 : Int32), (f_CB_cell s x2 x3 x4).2.2) else ((-9999999 : Int32), (f_CB_cell s x2 x3 x4).2.2))))
def p_LH_sets10 (s : am_M) (x2 : Int32) (x3 : Int32) (x4 : Int32) (x5 : Int32) (x6 : Int32) (x7 : Int32) : Prop := p_CB_cell s x2 x3 x4 ∧ (((f_CB_cell s x2 x3 x4).1 = 0 ∨ (f_CB_cell s x2 x3 x4).1 = 1 ∨ (f_CB_cell s x2 x3 x4).1 = 2 ∨ (f_CB_cell s x2 x3 x4).1 = 3) ∧ ((((f_CB_cell s x2 x3 x4).1 = 0) → True) ∧ (¬ ((f_CB_cell s x2 x3 x4).1 = 0) → (((f_CB_cell s x2 x3 x4).1 = 1) → True) ∧ (¬ ((f_CB_cell s x2 x3 x4).1 = 1) → (((f_CB_cell s x2 x3 x4).1 = 2) → True) ∧ (¬ ((f_CB_cell s x2 x3 x4).1 = 2) → True)))))
set_option maxRecDepth 100000 in
theorem w_LH_sets10 {l : Launch} {g : am_Gl} (hg : g.2.2.2.1 = true) {ad0 : Nat → Nat} {s : am_M} {x2 : Int32} {x3 : Int32} {x4 : Int32} {x5 : Int32} {x6 : Int32} {x7 : Int32} (h : p_LH_sets10 s x2 x3 x4 x5 x6 x7) : AW l g m_LH_sets10 207 ad0 (am_oC (f_LH_sets10 s x2 x3 x4 x5 x6 x7)) 0 0 207 s 0 [(0, .ref 0), (1, .int (10 : Int32)), (2, .int x2), (3, .int x3), (4, .int x4), (5, .int x5), (6, .int x6), (7, .int x7)] [] := by
  refine am_iload_n (j := 1) d_LH_sets_0 rfl rfl ?_
  refine am_if_ne (tgt := 19) d_LH_sets_1 (by decide) (fun _ => ?_) (fun c => absurd c (by decide))
  refine am_iload_n (j := 1) d_LH_sets_19 rfl rfl ?_
  refine am_iconst (v := (1 : Int32)) d_LH_sets_20 (by decide) ?_
  refine am_icmp_ne (tgt := 49) d_LH_sets_21 (by decide) (fun _ => ?_) (fun c => absurd c (by decide))
  refine am_iload_n (j := 1) d_LH_sets_49 rfl rfl ?_
  refine am_iconst (v := (2 : Int32)) d_LH_sets_50 (by decide) ?_
  refine am_icmp_ne (tgt := 82) d_LH_sets_51 (by decide) (fun _ => ?_) (fun c => absurd c (by decide))
  refine am_iload_n (j := 1) d_LH_sets_82 rfl rfl ?_
  refine am_iconst (v := (3 : Int32)) d_LH_sets_83 (by decide) ?_
  refine am_icmp_ne (tgt := 115) d_LH_sets_84 (by decide) (fun _ => ?_) (fun c => absurd c (by decide))
  refine am_iload_n (j := 1) d_LH_sets_115 rfl rfl ?_
  refine am_iconst (v := (4 : Int32)) d_LH_sets_116 (by decide) ?_
  refine am_icmp_ne (tgt := 141) d_LH_sets_117 (by decide) (fun _ => ?_) (fun c => absurd c (by decide))
  refine am_iload_n (j := 1) d_LH_sets_141 rfl rfl ?_
  refine am_iconst (v := (5 : Int32)) d_LH_sets_142 (by decide) ?_
  refine am_icmp_ne (tgt := 163) d_LH_sets_143 (by decide) (fun _ => ?_) (fun c => absurd c (by decide))
  refine am_iload_n (j := 1) d_LH_sets_163 rfl rfl ?_
  refine am_bipush (v := (6 : Int32)) d_LH_sets_164 (by decide) ?_
  refine am_icmp_ne (tgt := 180) d_LH_sets_166 (by decide) (fun _ => ?_) (fun c => absurd c (by decide))
  refine am_iload_n (j := 1) d_LH_sets_180 rfl rfl ?_
  refine am_bipush (v := (7 : Int32)) d_LH_sets_181 (by decide) ?_
  refine am_icmp_ne (tgt := 201) d_LH_sets_183 (by decide) (fun _ => ?_) (fun c => absurd c (by decide))
  refine am_iload_n (j := 1) d_LH_sets_201 rfl rfl ?_
  refine am_bipush (v := (8 : Int32)) d_LH_sets_202 (by decide) ?_
  refine am_icmp_ne (tgt := 228) d_LH_sets_204 (by decide) (fun _ => ?_) (fun c => absurd c (by decide))
  refine am_iload_n (j := 1) d_LH_sets_228 rfl rfl ?_
  refine am_bipush (v := (9 : Int32)) d_LH_sets_229 (by decide) ?_
  refine am_icmp_ne (tgt := 247) d_LH_sets_231 (by decide) (fun _ => ?_) (fun c => absurd c (by decide))
  refine am_iload_n (j := 1) d_LH_sets_247 rfl rfl ?_
  refine am_bipush (v := (10 : Int32)) d_LH_sets_248 (by decide) ?_
  refine am_icmp_ne (tgt := 264) d_LH_sets_250 (by decide) (fun c => absurd c (by decide)) (fun _ => ?_)
  refine am_aload_n (j := 0) d_LH_sets_253 rfl rfl ?_
  refine am_iload_n (j := 2) d_LH_sets_254 rfl rfl ?_
  refine am_iload_n (j := 3) d_LH_sets_255 rfl rfl ?_
  refine am_iload (j := 4) d_LH_sets_256 rfl ?_
  obtain ⟨hc, h⟩ := h
  obtain ⟨hz, h⟩ := h
  refine am_caseN (F := am_oC) (q := (f_CB_cell s x2 x3 x4).1) (c := 0) (fun c0 => ?_) (fun c0 => ?_)
  · have h := h.1 c0
    refine ak_EH (as := [.int x2, .int x3, .int x4]) (rest := []) d_LH_sets_258 cw_LH_sets10_258 rfl (ct_CB_cell hg hc) rfl rfl (by decide) sh_0 rfl (Nat.le_of_ble_eq_true rfl) (by decide) (by decide) (fun n => absurd c0 n) (fun _ => ?_)
    refine am_goto (tgt := 289) d_LH_sets_261 (by decide) ?_
    exact am_iret d_LH_sets_289 rfl rfl (by decide) (by decide) am_oC_ok
  · have h := h.2 c0
    refine am_caseN (F := am_oC) (q := (f_CB_cell s x2 x3 x4).1) (c := 1) (fun c1 => ?_) (fun c1 => ?_)
    · have h := h.1 c1
      refine ak_EH (as := [.int x2, .int x3, .int x4]) (rest := []) d_LH_sets_258 cw_LH_sets10_258 rfl (ct_CB_cell hg hc) rfl rfl (by decide) sh_0 rfl (Nat.le_of_ble_eq_true rfl) (by decide) (by decide) (fun _ => ⟨290, by rw [c1]; exact hd_LH_sets10_258_1, fun q9 => ?_⟩) (fun n => absurd n c0)
      refine am_astoreS (lv2 := [(8, .retAddr q9), (0, .ref 0), (1, .int (10 : Int32)), (2, .int x2), (3, .int x3), (4, .int x4), (5, .int x5), (6, .int x6), (7, .int x7)]) d_LH_sets_290 (by decide) rfl ?_
      refine am_ldc (v := (-9999999 : Int32)) d_LH_sets_292 aw_3_220 ?_
      exact am_iret d_LH_sets_294 rfl rfl (by decide) (by decide) am_oC_ok
    · have h := h.2 c1
      refine am_caseN (F := am_oC) (q := (f_CB_cell s x2 x3 x4).1) (c := 2) (fun c2 => ?_) (fun c2 => ?_)
      · have h := h.1 c2
        refine ak_EH (as := [.int x2, .int x3, .int x4]) (rest := []) d_LH_sets_258 cw_LH_sets10_258 rfl (ct_CB_cell hg hc) rfl rfl (by decide) sh_0 rfl (Nat.le_of_ble_eq_true rfl) (by decide) (by decide) (fun _ => ⟨295, by rw [c2]; exact hd_LH_sets10_258_2, fun q9 => ?_⟩) (fun n => absurd n c0)
        refine am_astoreS (lv2 := [(8, .retAddr q9), (0, .ref 0), (1, .int (10 : Int32)), (2, .int x2), (3, .int x3), (4, .int x4), (5, .int x5), (6, .int x6), (7, .int x7)]) d_LH_sets_295 (by decide) rfl ?_
        refine am_ldc (v := (-9999999 : Int32)) d_LH_sets_297 aw_3_220 ?_
        exact am_iret d_LH_sets_299 rfl rfl (by decide) (by decide) am_oC_ok
      · have h := h.2 c2
        have c3 : (f_CB_cell s x2 x3 x4).1 = 3 := by rcases hz with z | z | z | z <;> first | exact z | exact absurd z c0 | exact absurd z c1 | exact absurd z c2
        refine ak_EH (as := [.int x2, .int x3, .int x4]) (rest := []) d_LH_sets_258 cw_LH_sets10_258 rfl (ct_CB_cell hg hc) rfl rfl (by decide) sh_0 rfl (Nat.le_of_ble_eq_true rfl) (by decide) (by decide) (fun _ => ⟨300, by rw [c3]; exact hd_LH_sets10_258_3, fun q9 => ?_⟩) (fun n => absurd n c0)
        refine am_astoreS (lv2 := [(8, .retAddr q9), (0, .ref 0), (1, .int (10 : Int32)), (2, .int x2), (3, .int x3), (4, .int x4), (5, .int x5), (6, .int x6), (7, .int x7)]) d_LH_sets_300 (by decide) rfl ?_
        refine am_ldc (v := (-9999999 : Int32)) d_LH_sets_302 aw_3_220 ?_
        exact am_iret d_LH_sets_304 rfl rfl (by decide) (by decide) am_oC_ok
theorem ct_LH_sets10 {l : Launch} {g : am_Gl} (hg : g.2.2.2.1 = true) {s : am_M} {x2 : Int32} {x3 : Int32} {x4 : Int32} {x5 : Int32} {x6 : Int32} {x7 : Int32} (h : p_LH_sets10 s x2 x3 x4 x5 x6 x7) : AC l g m_LH_sets10 207 s [.ref 0, .int (10 : Int32), .int x2, .int x3, .int x4, .int x5, .int x6, .int x7] (am_oC (f_LH_sets10 s x2 x3 x4 x5 x6 x7)) := am_enterH ok_LH_sets10 rfl rfl (Nat.le_of_ble_eq_true rfl) rfl (fun ad0 => w_LH_sets10 hg h)
theorem cw_LH_asks_197 : am_cv m_LH_asks m_CB_keyOf 143 2 := ⟨⟨ok_CB_keyOf, rfl, by decide +kernel, by decide, by decide⟩, aw_5_63, aw_5_64, aw_5_65⟩
theorem cw_LH_asks_188 : am_cv m_LH_asks m_CB_stepIf 140 3 := ⟨⟨ok_CB_stepIf, rfl, by decide +kernel, by decide, by decide⟩, aw_5_59, aw_5_60, aw_5_61⟩
theorem cw_LH_asks_171 : am_cv m_LH_asks m_CB_stepRemove 137 3 := ⟨⟨ok_CB_stepRemove, rfl, by decide +kernel, by decide, by decide⟩, aw_5_55, aw_5_56, aw_5_57⟩
theorem cw_LH_asks_154 : am_cv m_LH_asks m_CB_stepAdd 134 2 := ⟨⟨ok_CB_stepAdd, rfl, by decide +kernel, by decide, by decide⟩, aw_5_46, aw_5_47, aw_5_48⟩
theorem cw_LH_asks_139 : am_cv m_LH_asks m_CB_stepPut 131 4 := ⟨⟨ok_CB_stepPut, rfl, by decide +kernel, by decide, by decide⟩, aw_5_34, aw_5_35, aw_5_36⟩
theorem cw_LH_asks_112 : am_cv m_LH_asks m_CB_write 128 4 := ⟨⟨ok_CB_write, rfl, by decide +kernel, by decide, by decide⟩, aw_5_30, aw_5_31, aw_5_32⟩
theorem cw_LH_asks_93 : am_cv m_LH_asks m_CB_target 125 3 := ⟨⟨ok_CB_target, rfl, by decide +kernel, by decide, by decide⟩, aw_5_25, aw_5_26, aw_5_27⟩
theorem cw_LH_asks_77 : am_cv m_LH_asks m_CB_answer 122 3 := ⟨⟨ok_CB_answer, rfl, by decide +kernel, by decide, by decide⟩, aw_5_16, aw_5_17, aw_5_18⟩
theorem cw_LH_asks_61 : am_cv m_LH_asks m_CB_askCross 119 4 := ⟨⟨ok_CB_askCross, rfl, by decide +kernel, by decide, by decide⟩, aw_5_12, aw_5_13, aw_5_14⟩
theorem cw_LH_asks_43 : am_cv m_LH_asks m_CB_askGroups 116 3 := ⟨⟨ok_CB_askGroups, rfl, by decide +kernel, by decide, by decide⟩, aw_5_4, aw_5_5, aw_5_6⟩
theorem cw_LH_asks_27 : am_cv m_LH_asks m_CB_condition 113 5 := ⟨⟨ok_CB_condition, rfl, by decide +kernel, by decide, by decide⟩, aw_4_226, aw_4_227, aw_4_228⟩
theorem cw_LH_asks_7 : am_cv m_LH_asks m_CB_ask 110 2 := ⟨⟨ok_CB_ask, rfl, by decide +kernel, by decide, by decide⟩, aw_4_172, aw_4_173, aw_4_174⟩
theorem hd_LH_asks_112_1 : am_hd m_LH_asks 112 (am_exn 1) 201 := ⟨[], ⟨0, 200, 201, 55⟩, [⟨0, 200, 206, 58⟩, ⟨0, 200, 211, 60⟩], rfl, by decide, rfl, by decide, aw_1_196, by decide +kernel, fun z h => absurd h List.not_mem_nil⟩
theorem hd_LH_asks_112_2 : am_hd m_LH_asks 112 (am_exn 2) 206 := ⟨[⟨0, 200, 201, 55⟩], ⟨0, 200, 206, 58⟩, [⟨0, 200, 211, 60⟩], rfl, by decide, rfl, by decide, aw_1_197, by decide +kernel, List.forall_mem_cons.mpr ⟨Or.inr ⟨by decide, "java/lang/IndexOutOfBoundsException", aw_1_196, by decide⟩, fun z h => absurd h List.not_mem_nil⟩⟩
theorem hd_LH_asks_112_3 : am_hd m_LH_asks 112 (am_exn 3) 211 := ⟨[⟨0, 200, 201, 55⟩, ⟨0, 200, 206, 58⟩], ⟨0, 200, 211, 60⟩, [], rfl, by decide, rfl, by decide, aw_1_198, by decide +kernel, List.forall_mem_cons.mpr ⟨Or.inr ⟨by decide, "java/lang/IndexOutOfBoundsException", aw_1_196, by decide⟩, List.forall_mem_cons.mpr ⟨Or.inr ⟨by decide, "java/lang/IllegalArgumentException", aw_1_197, by decide⟩, fun z h => absurd h List.not_mem_nil⟩⟩⟩
theorem hd_LH_asks_139_1 : am_hd m_LH_asks 139 (am_exn 1) 201 := ⟨[], ⟨0, 200, 201, 55⟩, [⟨0, 200, 206, 58⟩, ⟨0, 200, 211, 60⟩], rfl, by decide, rfl, by decide, aw_1_196, by decide +kernel, fun z h => absurd h List.not_mem_nil⟩
theorem hd_LH_asks_139_2 : am_hd m_LH_asks 139 (am_exn 2) 206 := ⟨[⟨0, 200, 201, 55⟩], ⟨0, 200, 206, 58⟩, [⟨0, 200, 211, 60⟩], rfl, by decide, rfl, by decide, aw_1_197, by decide +kernel, List.forall_mem_cons.mpr ⟨Or.inr ⟨by decide, "java/lang/IndexOutOfBoundsException", aw_1_196, by decide⟩, fun z h => absurd h List.not_mem_nil⟩⟩
theorem hd_LH_asks_139_3 : am_hd m_LH_asks 139 (am_exn 3) 211 := ⟨[⟨0, 200, 201, 55⟩, ⟨0, 200, 206, 58⟩], ⟨0, 200, 211, 60⟩, [], rfl, by decide, rfl, by decide, aw_1_198, by decide +kernel, List.forall_mem_cons.mpr ⟨Or.inr ⟨by decide, "java/lang/IndexOutOfBoundsException", aw_1_196, by decide⟩, List.forall_mem_cons.mpr ⟨Or.inr ⟨by decide, "java/lang/IllegalArgumentException", aw_1_197, by decide⟩, fun z h => absurd h List.not_mem_nil⟩⟩⟩
theorem hd_LH_asks_154_1 : am_hd m_LH_asks 154 (am_exn 1) 201 := ⟨[], ⟨0, 200, 201, 55⟩, [⟨0, 200, 206, 58⟩, ⟨0, 200, 211, 60⟩], rfl, by decide, rfl, by decide, aw_1_196, by decide +kernel, fun z h => absurd h List.not_mem_nil⟩
theorem hd_LH_asks_154_2 : am_hd m_LH_asks 154 (am_exn 2) 206 := ⟨[⟨0, 200, 201, 55⟩], ⟨0, 200, 206, 58⟩, [⟨0, 200, 211, 60⟩], rfl, by decide, rfl, by decide, aw_1_197, by decide +kernel, List.forall_mem_cons.mpr ⟨Or.inr ⟨by decide, "java/lang/IndexOutOfBoundsException", aw_1_196, by decide⟩, fun z h => absurd h List.not_mem_nil⟩⟩
theorem hd_LH_asks_154_3 : am_hd m_LH_asks 154 (am_exn 3) 211 := ⟨[⟨0, 200, 201, 55⟩, ⟨0, 200, 206, 58⟩], ⟨0, 200, 211, 60⟩, [], rfl, by decide, rfl, by decide, aw_1_198, by decide +kernel, List.forall_mem_cons.mpr ⟨Or.inr ⟨by decide, "java/lang/IndexOutOfBoundsException", aw_1_196, by decide⟩, List.forall_mem_cons.mpr ⟨Or.inr ⟨by decide, "java/lang/IllegalArgumentException", aw_1_197, by decide⟩, fun z h => absurd h List.not_mem_nil⟩⟩⟩
theorem hd_LH_asks_171_1 : am_hd m_LH_asks 171 (am_exn 1) 201 := ⟨[], ⟨0, 200, 201, 55⟩, [⟨0, 200, 206, 58⟩, ⟨0, 200, 211, 60⟩], rfl, by decide, rfl, by decide, aw_1_196, by decide +kernel, fun z h => absurd h List.not_mem_nil⟩
theorem hd_LH_asks_171_2 : am_hd m_LH_asks 171 (am_exn 2) 206 := ⟨[⟨0, 200, 201, 55⟩], ⟨0, 200, 206, 58⟩, [⟨0, 200, 211, 60⟩], rfl, by decide, rfl, by decide, aw_1_197, by decide +kernel, List.forall_mem_cons.mpr ⟨Or.inr ⟨by decide, "java/lang/IndexOutOfBoundsException", aw_1_196, by decide⟩, fun z h => absurd h List.not_mem_nil⟩⟩
theorem hd_LH_asks_171_3 : am_hd m_LH_asks 171 (am_exn 3) 211 := ⟨[⟨0, 200, 201, 55⟩, ⟨0, 200, 206, 58⟩], ⟨0, 200, 211, 60⟩, [], rfl, by decide, rfl, by decide, aw_1_198, by decide +kernel, List.forall_mem_cons.mpr ⟨Or.inr ⟨by decide, "java/lang/IndexOutOfBoundsException", aw_1_196, by decide⟩, List.forall_mem_cons.mpr ⟨Or.inr ⟨by decide, "java/lang/IllegalArgumentException", aw_1_197, by decide⟩, fun z h => absurd h List.not_mem_nil⟩⟩⟩
theorem hd_LH_asks_188_1 : am_hd m_LH_asks 188 (am_exn 1) 201 := ⟨[], ⟨0, 200, 201, 55⟩, [⟨0, 200, 206, 58⟩, ⟨0, 200, 211, 60⟩], rfl, by decide, rfl, by decide, aw_1_196, by decide +kernel, fun z h => absurd h List.not_mem_nil⟩
theorem hd_LH_asks_188_2 : am_hd m_LH_asks 188 (am_exn 2) 206 := ⟨[⟨0, 200, 201, 55⟩], ⟨0, 200, 206, 58⟩, [⟨0, 200, 211, 60⟩], rfl, by decide, rfl, by decide, aw_1_197, by decide +kernel, List.forall_mem_cons.mpr ⟨Or.inr ⟨by decide, "java/lang/IndexOutOfBoundsException", aw_1_196, by decide⟩, fun z h => absurd h List.not_mem_nil⟩⟩
theorem hd_LH_asks_188_3 : am_hd m_LH_asks 188 (am_exn 3) 211 := ⟨[⟨0, 200, 201, 55⟩, ⟨0, 200, 206, 58⟩], ⟨0, 200, 211, 60⟩, [], rfl, by decide, rfl, by decide, aw_1_198, by decide +kernel, List.forall_mem_cons.mpr ⟨Or.inr ⟨by decide, "java/lang/IndexOutOfBoundsException", aw_1_196, by decide⟩, List.forall_mem_cons.mpr ⟨Or.inr ⟨by decide, "java/lang/IllegalArgumentException", aw_1_197, by decide⟩, fun z h => absurd h List.not_mem_nil⟩⟩⟩
theorem hd_LH_asks_197_1 : am_hd m_LH_asks 197 (am_exn 1) 201 := ⟨[], ⟨0, 200, 201, 55⟩, [⟨0, 200, 206, 58⟩, ⟨0, 200, 211, 60⟩], rfl, by decide, rfl, by decide, aw_1_196, by decide +kernel, fun z h => absurd h List.not_mem_nil⟩
theorem hd_LH_asks_197_2 : am_hd m_LH_asks 197 (am_exn 2) 206 := ⟨[⟨0, 200, 201, 55⟩], ⟨0, 200, 206, 58⟩, [⟨0, 200, 211, 60⟩], rfl, by decide, rfl, by decide, aw_1_197, by decide +kernel, List.forall_mem_cons.mpr ⟨Or.inr ⟨by decide, "java/lang/IndexOutOfBoundsException", aw_1_196, by decide⟩, fun z h => absurd h List.not_mem_nil⟩⟩
theorem hd_LH_asks_197_3 : am_hd m_LH_asks 197 (am_exn 3) 211 := ⟨[⟨0, 200, 201, 55⟩, ⟨0, 200, 206, 58⟩], ⟨0, 200, 211, 60⟩, [], rfl, by decide, rfl, by decide, aw_1_198, by decide +kernel, List.forall_mem_cons.mpr ⟨Or.inr ⟨by decide, "java/lang/IndexOutOfBoundsException", aw_1_196, by decide⟩, List.forall_mem_cons.mpr ⟨Or.inr ⟨by decide, "java/lang/IllegalArgumentException", aw_1_197, by decide⟩, fun z h => absurd h List.not_mem_nil⟩⟩⟩
theorem hd_LH_asks_27_1 : am_hd m_LH_asks 27 (am_exn 1) 201 := ⟨[], ⟨0, 200, 201, 55⟩, [⟨0, 200, 206, 58⟩, ⟨0, 200, 211, 60⟩], rfl, by decide, rfl, by decide, aw_1_196, by decide +kernel, fun z h => absurd h List.not_mem_nil⟩
theorem hd_LH_asks_27_2 : am_hd m_LH_asks 27 (am_exn 2) 206 := ⟨[⟨0, 200, 201, 55⟩], ⟨0, 200, 206, 58⟩, [⟨0, 200, 211, 60⟩], rfl, by decide, rfl, by decide, aw_1_197, by decide +kernel, List.forall_mem_cons.mpr ⟨Or.inr ⟨by decide, "java/lang/IndexOutOfBoundsException", aw_1_196, by decide⟩, fun z h => absurd h List.not_mem_nil⟩⟩
theorem hd_LH_asks_27_3 : am_hd m_LH_asks 27 (am_exn 3) 211 := ⟨[⟨0, 200, 201, 55⟩, ⟨0, 200, 206, 58⟩], ⟨0, 200, 211, 60⟩, [], rfl, by decide, rfl, by decide, aw_1_198, by decide +kernel, List.forall_mem_cons.mpr ⟨Or.inr ⟨by decide, "java/lang/IndexOutOfBoundsException", aw_1_196, by decide⟩, List.forall_mem_cons.mpr ⟨Or.inr ⟨by decide, "java/lang/IllegalArgumentException", aw_1_197, by decide⟩, fun z h => absurd h List.not_mem_nil⟩⟩⟩
theorem hd_LH_asks_43_1 : am_hd m_LH_asks 43 (am_exn 1) 201 := ⟨[], ⟨0, 200, 201, 55⟩, [⟨0, 200, 206, 58⟩, ⟨0, 200, 211, 60⟩], rfl, by decide, rfl, by decide, aw_1_196, by decide +kernel, fun z h => absurd h List.not_mem_nil⟩
theorem hd_LH_asks_43_2 : am_hd m_LH_asks 43 (am_exn 2) 206 := ⟨[⟨0, 200, 201, 55⟩], ⟨0, 200, 206, 58⟩, [⟨0, 200, 211, 60⟩], rfl, by decide, rfl, by decide, aw_1_197, by decide +kernel, List.forall_mem_cons.mpr ⟨Or.inr ⟨by decide, "java/lang/IndexOutOfBoundsException", aw_1_196, by decide⟩, fun z h => absurd h List.not_mem_nil⟩⟩
theorem hd_LH_asks_43_3 : am_hd m_LH_asks 43 (am_exn 3) 211 := ⟨[⟨0, 200, 201, 55⟩, ⟨0, 200, 206, 58⟩], ⟨0, 200, 211, 60⟩, [], rfl, by decide, rfl, by decide, aw_1_198, by decide +kernel, List.forall_mem_cons.mpr ⟨Or.inr ⟨by decide, "java/lang/IndexOutOfBoundsException", aw_1_196, by decide⟩, List.forall_mem_cons.mpr ⟨Or.inr ⟨by decide, "java/lang/IllegalArgumentException", aw_1_197, by decide⟩, fun z h => absurd h List.not_mem_nil⟩⟩⟩
theorem hd_LH_asks_61_1 : am_hd m_LH_asks 61 (am_exn 1) 201 := ⟨[], ⟨0, 200, 201, 55⟩, [⟨0, 200, 206, 58⟩, ⟨0, 200, 211, 60⟩], rfl, by decide, rfl, by decide, aw_1_196, by decide +kernel, fun z h => absurd h List.not_mem_nil⟩
theorem hd_LH_asks_61_2 : am_hd m_LH_asks 61 (am_exn 2) 206 := ⟨[⟨0, 200, 201, 55⟩], ⟨0, 200, 206, 58⟩, [⟨0, 200, 211, 60⟩], rfl, by decide, rfl, by decide, aw_1_197, by decide +kernel, List.forall_mem_cons.mpr ⟨Or.inr ⟨by decide, "java/lang/IndexOutOfBoundsException", aw_1_196, by decide⟩, fun z h => absurd h List.not_mem_nil⟩⟩
theorem hd_LH_asks_61_3 : am_hd m_LH_asks 61 (am_exn 3) 211 := ⟨[⟨0, 200, 201, 55⟩, ⟨0, 200, 206, 58⟩], ⟨0, 200, 211, 60⟩, [], rfl, by decide, rfl, by decide, aw_1_198, by decide +kernel, List.forall_mem_cons.mpr ⟨Or.inr ⟨by decide, "java/lang/IndexOutOfBoundsException", aw_1_196, by decide⟩, List.forall_mem_cons.mpr ⟨Or.inr ⟨by decide, "java/lang/IllegalArgumentException", aw_1_197, by decide⟩, fun z h => absurd h List.not_mem_nil⟩⟩⟩
theorem hd_LH_asks_77_1 : am_hd m_LH_asks 77 (am_exn 1) 201 := ⟨[], ⟨0, 200, 201, 55⟩, [⟨0, 200, 206, 58⟩, ⟨0, 200, 211, 60⟩], rfl, by decide, rfl, by decide, aw_1_196, by decide +kernel, fun z h => absurd h List.not_mem_nil⟩
theorem hd_LH_asks_77_2 : am_hd m_LH_asks 77 (am_exn 2) 206 := ⟨[⟨0, 200, 201, 55⟩], ⟨0, 200, 206, 58⟩, [⟨0, 200, 211, 60⟩], rfl, by decide, rfl, by decide, aw_1_197, by decide +kernel, List.forall_mem_cons.mpr ⟨Or.inr ⟨by decide, "java/lang/IndexOutOfBoundsException", aw_1_196, by decide⟩, fun z h => absurd h List.not_mem_nil⟩⟩
theorem hd_LH_asks_77_3 : am_hd m_LH_asks 77 (am_exn 3) 211 := ⟨[⟨0, 200, 201, 55⟩, ⟨0, 200, 206, 58⟩], ⟨0, 200, 211, 60⟩, [], rfl, by decide, rfl, by decide, aw_1_198, by decide +kernel, List.forall_mem_cons.mpr ⟨Or.inr ⟨by decide, "java/lang/IndexOutOfBoundsException", aw_1_196, by decide⟩, List.forall_mem_cons.mpr ⟨Or.inr ⟨by decide, "java/lang/IllegalArgumentException", aw_1_197, by decide⟩, fun z h => absurd h List.not_mem_nil⟩⟩⟩
theorem hd_LH_asks_7_1 : am_hd m_LH_asks 7 (am_exn 1) 201 := ⟨[], ⟨0, 200, 201, 55⟩, [⟨0, 200, 206, 58⟩, ⟨0, 200, 211, 60⟩], rfl, by decide, rfl, by decide, aw_1_196, by decide +kernel, fun z h => absurd h List.not_mem_nil⟩
theorem hd_LH_asks_7_2 : am_hd m_LH_asks 7 (am_exn 2) 206 := ⟨[⟨0, 200, 201, 55⟩], ⟨0, 200, 206, 58⟩, [⟨0, 200, 211, 60⟩], rfl, by decide, rfl, by decide, aw_1_197, by decide +kernel, List.forall_mem_cons.mpr ⟨Or.inr ⟨by decide, "java/lang/IndexOutOfBoundsException", aw_1_196, by decide⟩, fun z h => absurd h List.not_mem_nil⟩⟩
theorem hd_LH_asks_7_3 : am_hd m_LH_asks 7 (am_exn 3) 211 := ⟨[⟨0, 200, 201, 55⟩, ⟨0, 200, 206, 58⟩], ⟨0, 200, 211, 60⟩, [], rfl, by decide, rfl, by decide, aw_1_198, by decide +kernel, List.forall_mem_cons.mpr ⟨Or.inr ⟨by decide, "java/lang/IndexOutOfBoundsException", aw_1_196, by decide⟩, List.forall_mem_cons.mpr ⟨Or.inr ⟨by decide, "java/lang/IllegalArgumentException", aw_1_197, by decide⟩, fun z h => absurd h List.not_mem_nil⟩⟩⟩
theorem hd_LH_asks_93_1 : am_hd m_LH_asks 93 (am_exn 1) 201 := ⟨[], ⟨0, 200, 201, 55⟩, [⟨0, 200, 206, 58⟩, ⟨0, 200, 211, 60⟩], rfl, by decide, rfl, by decide, aw_1_196, by decide +kernel, fun z h => absurd h List.not_mem_nil⟩
theorem hd_LH_asks_93_2 : am_hd m_LH_asks 93 (am_exn 2) 206 := ⟨[⟨0, 200, 201, 55⟩], ⟨0, 200, 206, 58⟩, [⟨0, 200, 211, 60⟩], rfl, by decide, rfl, by decide, aw_1_197, by decide +kernel, List.forall_mem_cons.mpr ⟨Or.inr ⟨by decide, "java/lang/IndexOutOfBoundsException", aw_1_196, by decide⟩, fun z h => absurd h List.not_mem_nil⟩⟩
theorem hd_LH_asks_93_3 : am_hd m_LH_asks 93 (am_exn 3) 211 := ⟨[⟨0, 200, 201, 55⟩, ⟨0, 200, 206, 58⟩], ⟨0, 200, 211, 60⟩, [], rfl, by decide, rfl, by decide, aw_1_198, by decide +kernel, List.forall_mem_cons.mpr ⟨Or.inr ⟨by decide, "java/lang/IndexOutOfBoundsException", aw_1_196, by decide⟩, List.forall_mem_cons.mpr ⟨Or.inr ⟨by decide, "java/lang/IllegalArgumentException", aw_1_197, by decide⟩, fun z h => absurd h List.not_mem_nil⟩⟩⟩
def f_LH_asks  (s : am_M) (x1 : Int32) (x2 : Int32) (x3 : Int32) (x4 : Int32) (x5 : Int32) (x6 : Int32) : Int32 × am_M := (if x1 = 0 then (if (h_CB_ask s x2 x3).1 = 0 then ((h_CB_ask s x2 x3).2.1, (h_CB_ask s x2 x3).2.2) else (if (h_CB_ask s x2 x3).1 = 1 then ((-9999999 : Int32), (h_CB_ask s x2 x3).2.2) else (if (h_CB_ask s x2 x3).1 = 2 then ((-9999999 : Int32), (h_CB_ask s x2 x3).2.2) else ((-9999999 : Int32), (h_CB_ask s x2 x3).2.2)))) else (if x1 = (1 : Int32) then (if (h_CB_condition s x2 x3 x4 x5 x6).1 = 0 then ((h_CB_condition s x2 x3 x4 x5 x6).2.1, (h_CB_condition s x2 x3 x4 x5 x6).2.2) else (if (h_CB_condition s x2 x3 x4 x5 x6).1 = 1 then ((-9999999 : Int32), (h_CB_condition s x2 x3 x4 x5 x6).2.2) else (if (h_CB_condition s x2 x3 x4 x5 x6).1 = 2 then ((-9999999 : Int32), (h_CB_condition s x2 x3 x4 x5 x6).2.2) else ((-9999999 : Int32), (h_CB_condition s x2 x3 x4 x5 x6).2.2)))) else (if x1 = (2 : Int32) then (if (h_CB_askGroups s x2 x3 x4).1 = 0 then ((h_CB_askGroups s x2 x3 x4).2.1, (h_CB_askGroups s x2 x3 x4).2.2) else (if (h_CB_askGroups s x2 x3 x4).1 = 1 then ((-9999999 : Int32), (h_CB_askGroups s x2 x3 x4).2.2) else (if (h_CB_askGroups s x2 x3 x4).1 = 2 then ((-9999999 : Int32), (h_CB_askGroups s x2 x3 x4).2.2) else ((-9999999 : Int32), (h_CB_askGroups s x2 x3 x4).2.2)))) else (if x1 = (3 : Int32) then (if (h_CB_askCross s x2 x3 x4 x5).1 = 0 then ((h_CB_askCross s x2 x3 x4 x5).2.1, (h_CB_askCross s x2 x3 x4 x5).2.2) else (if (h_CB_askCross s x2 x3 x4 x5).1 = 1 then ((-9999999 : Int32), (h_CB_askCross s x2 x3 x4 x5).2.2) else (if (h_CB_askCross s x2 x3 x4 x5).1 = 2 then ((-9999999 : Int32), (h_CB_askCross s x2 x3 x4 x5).2.2) else ((-9999999 : Int32), (h_CB_askCross s x2 x3 x4 x5).2.2)))) else (if x1 = (4 : Int32) then (if (f_CB_answer s x2 x3 x4).1 = 0 then ((f_CB_answer s x2 x3 x4).2.1, (f_CB_answer s x2 x3 x4).2.2) else (if (f_CB_answer s x2 x3 x4).1 = 1 then ((-9999999 : Int32), (f_CB_answer s x2 x3 x4).2.2) else (if (f_CB_answer s x2 x3 x4).1 = 2 then ((-9999999 : Int32), (f_CB_answer s x2 x3 x4).2.2) else ((-9999999 : Int32), (f_CB_answer s x2 x3 x4).2.2)))) else (if x1 = (5 : Int32) then (if (f_CB_target s x2 x3 x4).1 = 0 then ((f_CB_target s x2 x3 x4).2.1, (f_CB_target s x2 x3 x4).2.2) else (if (f_CB_target s x2 x3 x4).1 = 1 then ((-9999999 : Int32), (f_CB_target s x2 x3 x4).2.2) else (if (f_CB_target s x2 x3 x4).1 = 2 then ((-9999999 : Int32), (f_CB_target s x2 x3 x4).2.2) else ((-9999999 : Int32), (f_CB_target s x2 x3 x4).2.2)))) else (if x1 = (6 : Int32) then (if (h_CB_write s x2 x3 x4 x5).1 = 0 then (if (h_CB_write s x2 x3 x4 x5).2.1 = 0 then ((0 : Int32), (h_CB_write s x2 x3 x4 x5).2.2) else ((1 : Int32), (h_CB_write s x2 x3 x4 x5).2.2)) else (if (h_CB_write s x2 x3 x4 x5).1 = 1 then ((-9999999 : Int32), (h_CB_write s x2 x3 x4 x5).2.2) else (if (h_CB_write s x2 x3 x4 x5).1 = 2 then ((-9999999 : Int32), (h_CB_write s x2 x3 x4 x5).2.2) else ((-9999999 : Int32), (h_CB_write s x2 x3 x4 x5).2.2)))) else (if x1 = (7 : Int32) then (if (h_CB_stepPut s x2 x3 x4 x5).1 = 0 then ((h_CB_stepPut s x2 x3 x4 x5).2.1, (h_CB_stepPut s x2 x3 x4 x5).2.2) else (if (h_CB_stepPut s x2 x3 x4 x5).1 = 1 then ((-9999999 : Int32), (h_CB_stepPut s x2 x3 x4 x5).2.2) else (if (h_CB_stepPut s x2 x3 x4 x5).1 = 2 then ((-9999999 : Int32), (h_CB_stepPut s x2 x3 x4 x5).2.2) else ((-9999999 : Int32), (h_CB_stepPut s x2 x3 x4 x5).2.2)))) else (if x1 = (8 : Int32) then (if (h_CB_stepAdd s x2 x3).1 = 0 then ((h_CB_stepAdd s x2 x3).2.1, (h_CB_stepAdd s x2 x3).2.2) else (if (h_CB_stepAdd s x2 x3).1 = 1 then ((-9999999 : Int32), (h_CB_stepAdd s x2 x3).2.2) else (if (h_CB_stepAdd s x2 x3).1 = 2 then ((-9999999 : Int32), (h_CB_stepAdd s x2 x3).2.2) else ((-9999999 : Int32), (h_CB_stepAdd s x2 x3).2.2)))) else (if x1 = (9 : Int32) then (if (h_CB_stepRemove s x2 x3 x4).1 = 0 then ((h_CB_stepRemove s x2 x3 x4).2.1, (h_CB_stepRemove s x2 x3 x4).2.2) else (if (h_CB_stepRemove s x2 x3 x4).1 = 1 then ((-9999999 : Int32), (h_CB_stepRemove s x2 x3 x4).2.2) else (if (h_CB_stepRemove s x2 x3 x4).1 = 2 then ((-9999999 : Int32), (h_CB_stepRemove s x2 x3 x4).2.2) else ((-9999999 : Int32), (h_CB_stepRemove s x2 x3 x4).2.2)))) else (if x1 = (10 : Int32) then (if (h_CB_stepIf s x2 x3 x4).1 = 0 then ((h_CB_stepIf s x2 x3 x4).2.1, (h_CB_stepIf s x2 x3 x4).2.2) else (if (h_CB_stepIf s x2 x3 x4).1 = 1 then ((-9999999 : Int32), (h_CB_stepIf s x2 x3 x4).2.2) else (if (h_CB_stepIf s x2 x3 x4).1 = 2 then ((-9999999 : Int32), (h_CB_stepIf s x2 x3 x4).2.2) else ((-9999999 : Int32), (h_CB_stepIf s x2 x3 x4).2.2)))) else (if (f_CB_keyOf s x2 x3).1 = 0 then ((f_CB_keyOf s x2 x3).2.1, (f_CB_keyOf s x2 x3).2.2) else (if (f_CB_keyOf s x2 x3).1 = 1 then ((-9999999 : Int32), (f_CB_keyOf s x2 x3).2.2) else (if (f_CB_keyOf s x2 x3).1 = 2 then ((-9999999 : Int32), (f_CB_keyOf s x2 x3).2.2) else ((-9999999 : Int32), (f_CB_keyOf s x2 x3).2.2)))))))))))))))
def p_LH_asks  (s : am_M) (x1 : Int32) (x2 : Int32) (x3 : Int32) (x4 : Int32) (x5 : Int32) (x6 : Int32) : Prop := ((x1 = 0) → p_CB_ask s x2 x3 ∧ (((h_CB_ask s x2 x3).1 = 0 ∨ (h_CB_ask s x2 x3).1 = 1 ∨ (h_CB_ask s x2 x3).1 = 2 ∨ (h_CB_ask s x2 x3).1 = 3) ∧ ((((h_CB_ask s x2 x3).1 = 0) → True) ∧ (¬ ((h_CB_ask s x2 x3).1 = 0) → (((h_CB_ask s x2 x3).1 = 1) → True) ∧ (¬ ((h_CB_ask s x2 x3).1 = 1) → (((h_CB_ask s x2 x3).1 = 2) → True) ∧ (¬ ((h_CB_ask s x2 x3).1 = 2) → True)))))) ∧ (¬ (x1 = 0) → ((x1 = (1 : Int32)) → p_CB_condition s x2 x3 x4 x5 x6 ∧ (((h_CB_condition s x2 x3 x4 x5 x6).1 = 0 ∨ (h_CB_condition s x2 x3 x4 x5 x6).1 = 1 ∨ (h_CB_condition s x2 x3 x4 x5 x6).1 = 2 ∨ (h_CB_condition s x2 x3 x4 x5 x6).1 = 3) ∧ ((((h_CB_condition s x2 x3 x4 x5 x6).1 = 0) → True) ∧ (¬ ((h_CB_condition s x2 x3 x4 x5 x6).1 = 0) → (((h_CB_condition s x2 x3 x4 x5 x6).1 = 1) → True) ∧ (¬ ((h_CB_condition s x2 x3 x4 x5 x6).1 = 1) → (((h_CB_condition s x2 x3 x4 x5 x6).1 = 2) → True) ∧ (¬ ((h_CB_condition s x2 x3 x4 x5 x6).1 = 2) → True)))))) ∧ (¬ (x1 = (1 : Int32)) → ((x1 = (2 : Int32)) → p_CB_askGroups s x2 x3 x4 ∧ (((h_CB_askGroups s x2 x3 x4).1 = 0 ∨ (h_CB_askGroups s x2 x3 x4).1 = 1 ∨ (h_CB_askGroups s x2 x3 x4).1 = 2 ∨ (h_CB_askGroups s x2 x3 x4).1 = 3) ∧ ((((h_CB_askGroups s x2 x3 x4).1 = 0) → True) ∧ (¬ ((h_CB_askGroups s x2 x3 x4).1 = 0) → (((h_CB_askGroups s x2 x3 x4).1 = 1) → True) ∧ (¬ ((h_CB_askGroups s x2 x3 x4).1 = 1) → (((h_CB_askGroups s x2 x3 x4).1 = 2) → True) ∧ (¬ ((h_CB_askGroups s x2 x3 x4).1 = 2) → True)))))) ∧ (¬ (x1 = (2 : Int32)) → ((x1 = (3 : Int32)) → p_CB_askCross s x2 x3 x4 x5 ∧ (((h_CB_askCross s x2 x3 x4 x5).1 = 0 ∨ (h_CB_askCross s x2 x3 x4 x5).1 = 1 ∨ (h_CB_askCross s x2 x3 x4 x5).1 = 2 ∨ (h_CB_askCross s x2 x3 x4 x5).1 = 3) ∧ ((((h_CB_askCross s x2 x3 x4 x5).1 = 0) → True) ∧ (¬ ((h_CB_askCross s x2 x3 x4 x5).1 = 0) → (((h_CB_askCross s x2 x3 x4 x5).1 = 1) → True) ∧ (¬ ((h_CB_askCross s x2 x3 x4 x5).1 = 1) → (((h_CB_askCross s x2 x3 x4 x5).1 = 2) → True) ∧ (¬ ((h_CB_askCross s x2 x3 x4 x5).1 = 2) → True)))))) ∧ (¬ (x1 = (3 : Int32)) → ((x1 = (4 : Int32)) → p_CB_answer s x2 x3 x4 ∧ (((f_CB_answer s x2 x3 x4).1 = 0 ∨ (f_CB_answer s x2 x3 x4).1 = 1 ∨ (f_CB_answer s x2 x3 x4).1 = 2 ∨ (f_CB_answer s x2 x3 x4).1 = 3) ∧ ((((f_CB_answer s x2 x3 x4).1 = 0) → True) ∧ (¬ ((f_CB_answer s x2 x3 x4).1 = 0) → (((f_CB_answer s x2 x3 x4).1 = 1) → True) ∧ (¬ ((f_CB_answer s x2 x3 x4).1 = 1) → (((f_CB_answer s x2 x3 x4).1 = 2) → True) ∧ (¬ ((f_CB_answer s x2 x3 x4).1 = 2) → True)))))) ∧ (¬ (x1 = (4 : Int32)) → ((x1 = (5 : Int32)) → p_CB_target s x2 x3 x4 ∧ (((f_CB_target s x2 x3 x4).1 = 0 ∨ (f_CB_target s x2 x3 x4).1 = 1 ∨ (f_CB_target s x2 x3 x4).1 = 2 ∨ (f_CB_target s x2 x3 x4).1 = 3) ∧ ((((f_CB_target s x2 x3 x4).1 = 0) → True) ∧ (¬ ((f_CB_target s x2 x3 x4).1 = 0) → (((f_CB_target s x2 x3 x4).1 = 1) → True) ∧ (¬ ((f_CB_target s x2 x3 x4).1 = 1) → (((f_CB_target s x2 x3 x4).1 = 2) → True) ∧ (¬ ((f_CB_target s x2 x3 x4).1 = 2) → True)))))) ∧ (¬ (x1 = (5 : Int32)) → ((x1 = (6 : Int32)) → p_CB_write s x2 x3 x4 x5 ∧ (((h_CB_write s x2 x3 x4 x5).1 = 0 ∨ (h_CB_write s x2 x3 x4 x5).1 = 1 ∨ (h_CB_write s x2 x3 x4 x5).1 = 2 ∨ (h_CB_write s x2 x3 x4 x5).1 = 3) ∧ ((((h_CB_write s x2 x3 x4 x5).1 = 0) → (((h_CB_write s x2 x3 x4 x5).2.1 = 0) → True) ∧ (¬ ((h_CB_write s x2 x3 x4 x5).2.1 = 0) → True)) ∧ (¬ ((h_CB_write s x2 x3 x4 x5).1 = 0) → (((h_CB_write s x2 x3 x4 x5).1 = 1) → True) ∧ (¬ ((h_CB_write s x2 x3 x4 x5).1 = 1) → (((h_CB_write s x2 x3 x4 x5).1 = 2) → True) ∧ (¬ ((h_CB_write s x2 x3 x4 x5).1 = 2) → True)))))) ∧ (¬ (x1 = (6 : Int32)) → ((x1 = (7 : Int32)) → p_CB_stepPut s x2 x3 x4 x5 ∧ (((h_CB_stepPut s x2 x3 x4 x5).1 = 0 ∨ (h_CB_stepPut s x2 x3 x4 x5).1 = 1 ∨ (h_CB_stepPut s x2 x3 x4 x5).1 = 2 ∨ (h_CB_stepPut s x2 x3 x4 x5).1 = 3) ∧ ((((h_CB_stepPut s x2 x3 x4 x5).1 = 0) → True) ∧ (¬ ((h_CB_stepPut s x2 x3 x4 x5).1 = 0) → (((h_CB_stepPut s x2 x3 x4 x5).1 = 1) → True) ∧ (¬ ((h_CB_stepPut s x2 x3 x4 x5).1 = 1) → (((h_CB_stepPut s x2 x3 x4 x5).1 = 2) → True) ∧ (¬ ((h_CB_stepPut s x2 x3 x4 x5).1 = 2) → True)))))) ∧ (¬ (x1 = (7 : Int32)) → ((x1 = (8 : Int32)) → p_CB_stepAdd s x2 x3 ∧ (((h_CB_stepAdd s x2 x3).1 = 0 ∨ (h_CB_stepAdd s x2 x3).1 = 1 ∨ (h_CB_stepAdd s x2 x3).1 = 2 ∨ (h_CB_stepAdd s x2 x3).1 = 3) ∧ ((((h_CB_stepAdd s x2 x3).1 = 0) → True) ∧ (¬ ((h_CB_stepAdd s x2 x3).1 = 0) → (((h_CB_stepAdd s x2 x3).1 = 1) → True) ∧ (¬ ((h_CB_stepAdd s x2 x3).1 = 1) → (((h_CB_stepAdd s x2 x3).1 = 2) → True) ∧ (¬ ((h_CB_stepAdd s x2 x3).1 = 2) → True)))))) ∧ (¬ (x1 = (8 : Int32)) → ((x1 = (9 : Int32)) → p_CB_stepRemove s x2 x3 x4 ∧ (((h_CB_stepRemove s x2 x3 x4).1 = 0 ∨ (h_CB_stepRemove s x2 x3 x4).1 = 1 ∨ (h_CB_stepRemove s x2 x3 x4).1 = 2 ∨ (h_CB_stepRemove s x2 x3 x4).1 = 3) ∧ ((((h_CB_stepRemove s x2 x3 x4).1 = 0) → True) ∧ (¬ ((h_CB_stepRemove s x2 x3 x4).1 = 0) → (((h_CB_stepRemove s x2 x3 x4).1 = 1) → True) ∧ (¬ ((h_CB_stepRemove s x2 x3 x4).1 = 1) → (((h_CB_stepRemove s x2 x3 x4).1 = 2) → True) ∧ (¬ ((h_CB_stepRemove s x2 x3 x4).1 = 2) → True)))))) ∧ (¬ (x1 = (9 : Int32)) → ((x1 = (10 : Int32)) → p_CB_stepIf s x2 x3 x4 ∧ (((h_CB_stepIf s x2 x3 x4).1 = 0 ∨ (h_CB_stepIf s x2 x3 x4).1 = 1 ∨ (h_CB_stepIf s x2 x3 x4).1 = 2 ∨ (h_CB_stepIf s x2 x3 x4).1 = 3) ∧ ((((h_CB_stepIf s x2 x3 x4).1 = 0) → True) ∧ (¬ ((h_CB_stepIf s x2 x3 x4).1 = 0) → (((h_CB_stepIf s x2 x3 x4).1 = 1) → True) ∧ (¬ ((h_CB_stepIf s x2 x3 x4).1 = 1) → (((h_CB_stepIf s x2 x3 x4).1 = 2) → True) ∧ (¬ ((h_CB_stepIf s x2 x3 x4).1 = 2) → True)))))) ∧ (¬ (x1 = (10 : Int32)) → p_CB_keyOf s x2 x3 ∧ (((f_CB_keyOf s x2 x3).1 = 0 ∨ (f_CB_keyOf s x2 x3).1 = 1 ∨ (f_CB_keyOf s x2 x3).1 = 2 ∨ (f_CB_keyOf s x2 x3).1 = 3) ∧ ((((f_CB_keyOf s x2 x3).1 = 0) → True) ∧ (¬ ((f_CB_keyOf s x2 x3).1 = 0) → (((f_CB_keyOf s x2 x3).1 = 1) → True) ∧ (¬ ((f_CB_keyOf s x2 x3).1 = 1) → (((f_CB_keyOf s x2 x3).1 = 2) → True) ∧ (¬ ((f_CB_keyOf s x2 x3).1 = 2) → True))))))))))))))))
set_option maxRecDepth 8000 in
theorem w_LH_asks {l : Launch} {g : am_Gl} (hg : g.2.2.2.1 = true) {ad0 : Nat → Nat} {s : am_M} {x1 : Int32} {x2 : Int32} {x3 : Int32} {x4 : Int32} {x5 : Int32} {x6 : Int32} (h : p_LH_asks s x1 x2 x3 x4 x5 x6) : AW l g m_LH_asks 207 ad0 (am_oC (f_LH_asks s x1 x2 x3 x4 x5 x6)) 0 0 207 s 0 [(0, .ref 0), (1, .int x1), (2, .int x2), (3, .int x3), (4, .int x4), (5, .int x5), (6, .int x6)] [] := by
  refine am_iload_n (j := 1) d_LH_asks_0 rfl rfl ?_
  refine ai_ne (F := am_oC) (tgt := 13) d_LH_asks_1 (by decide) (fun c => ?_) (fun c => ?_)
  · have h := h.2 c
    refine am_iload_n (j := 1) d_LH_asks_13 rfl rfl ?_
    refine am_iconst (v := (1 : Int32)) d_LH_asks_14 (by decide) ?_
    refine aj_ne (F := am_oC) (tgt := 33) d_LH_asks_15 (by decide) (fun c => ?_) (fun c => ?_)
    · have h := h.2 c
      refine am_iload_n (j := 1) d_LH_asks_33 rfl rfl ?_
      refine am_iconst (v := (2 : Int32)) d_LH_asks_34 (by decide) ?_
      refine aj_ne (F := am_oC) (tgt := 49) d_LH_asks_35 (by decide) (fun c => ?_) (fun c => ?_)
      · have h := h.2 c
        refine am_iload_n (j := 1) d_LH_asks_49 rfl rfl ?_
        refine am_iconst (v := (3 : Int32)) d_LH_asks_50 (by decide) ?_
        refine aj_ne (F := am_oC) (tgt := 67) d_LH_asks_51 (by decide) (fun c => ?_) (fun c => ?_)
        · have h := h.2 c
          refine am_iload_n (j := 1) d_LH_asks_67 rfl rfl ?_
          refine am_iconst (v := (4 : Int32)) d_LH_asks_68 (by decide) ?_
          refine aj_ne (F := am_oC) (tgt := 83) d_LH_asks_69 (by decide) (fun c => ?_) (fun c => ?_)
          · have h := h.2 c
            refine am_iload_n (j := 1) d_LH_asks_83 rfl rfl ?_
            refine am_iconst (v := (5 : Int32)) d_LH_asks_84 (by decide) ?_
            refine aj_ne (F := am_oC) (tgt := 99) d_LH_asks_85 (by decide) (fun c => ?_) (fun c => ?_)
            · have h := h.2 c
              refine am_iload_n (j := 1) d_LH_asks_99 rfl rfl ?_
              refine am_bipush (v := (6 : Int32)) d_LH_asks_100 (by decide) ?_
              refine aj_ne (F := am_oC) (tgt := 126) d_LH_asks_102 (by decide) (fun c => ?_) (fun c => ?_)
              · have h := h.2 c
                refine am_iload_n (j := 1) d_LH_asks_126 rfl rfl ?_
                refine am_bipush (v := (7 : Int32)) d_LH_asks_127 (by decide) ?_
                refine aj_ne (F := am_oC) (tgt := 145) d_LH_asks_129 (by decide) (fun c => ?_) (fun c => ?_)
                · have h := h.2 c
                  refine am_iload_n (j := 1) d_LH_asks_145 rfl rfl ?_
                  refine am_bipush (v := (8 : Int32)) d_LH_asks_146 (by decide) ?_
                  refine aj_ne (F := am_oC) (tgt := 160) d_LH_asks_148 (by decide) (fun c => ?_) (fun c => ?_)
                  · have h := h.2 c
                    refine am_iload_n (j := 1) d_LH_asks_160 rfl rfl ?_
                    refine am_bipush (v := (9 : Int32)) d_LH_asks_161 (by decide) ?_
                    refine aj_ne (F := am_oC) (tgt := 177) d_LH_asks_163 (by decide) (fun c => ?_) (fun c => ?_)
                    · have h := h.2 c
                      refine am_iload_n (j := 1) d_LH_asks_177 rfl rfl ?_
                      refine am_bipush (v := (10 : Int32)) d_LH_asks_178 (by decide) ?_
                      refine aj_ne (F := am_oC) (tgt := 194) d_LH_asks_180 (by decide) (fun c => ?_) (fun c => ?_)
                      · have h := h.2 c
                        refine am_aload_n (j := 0) d_LH_asks_194 rfl rfl ?_
                        refine am_iload_n (j := 2) d_LH_asks_195 rfl rfl ?_
                        refine am_iload_n (j := 3) d_LH_asks_196 rfl rfl ?_
                        obtain ⟨hc, h⟩ := h
                        obtain ⟨hz, h⟩ := h
                        refine am_caseN (F := am_oC) (q := (f_CB_keyOf s x2 x3).1) (c := 0) (fun c0 => ?_) (fun c0 => ?_)
                        · have h := h.1 c0
                          refine ak_EH (as := [.int x2, .int x3]) (rest := []) d_LH_asks_197 cw_LH_asks_197 rfl (ct_CB_keyOf hg hc) rfl rfl (by decide) sh_0 rfl (Nat.le_of_ble_eq_true rfl) (by decide) (by decide) (fun n => absurd c0 n) (fun _ => ?_)
                          exact am_iret d_LH_asks_200 rfl rfl (by decide) (by decide) am_oC_ok
                        · have h := h.2 c0
                          refine am_caseN (F := am_oC) (q := (f_CB_keyOf s x2 x3).1) (c := 1) (fun c1 => ?_) (fun c1 => ?_)
                          · have h := h.1 c1
                            refine ak_EH (as := [.int x2, .int x3]) (rest := []) d_LH_asks_197 cw_LH_asks_197 rfl (ct_CB_keyOf hg hc) rfl rfl (by decide) sh_0 rfl (Nat.le_of_ble_eq_true rfl) (by decide) (by decide) (fun _ => ⟨201, by rw [c1]; exact hd_LH_asks_197_1, fun q9 => ?_⟩) (fun n => absurd n c0)
                            refine am_astoreS (lv2 := [(7, .retAddr q9), (0, .ref 0), (1, .int x1), (2, .int x2), (3, .int x3), (4, .int x4), (5, .int x5), (6, .int x6)]) d_LH_asks_201 (by decide) rfl ?_
                            refine am_ldc (v := (-9999999 : Int32)) d_LH_asks_203 aw_3_220 ?_
                            exact am_iret d_LH_asks_205 rfl rfl (by decide) (by decide) am_oC_ok
                          · have h := h.2 c1
                            refine am_caseN (F := am_oC) (q := (f_CB_keyOf s x2 x3).1) (c := 2) (fun c2 => ?_) (fun c2 => ?_)
                            · have h := h.1 c2
                              refine ak_EH (as := [.int x2, .int x3]) (rest := []) d_LH_asks_197 cw_LH_asks_197 rfl (ct_CB_keyOf hg hc) rfl rfl (by decide) sh_0 rfl (Nat.le_of_ble_eq_true rfl) (by decide) (by decide) (fun _ => ⟨206, by rw [c2]; exact hd_LH_asks_197_2, fun q9 => ?_⟩) (fun n => absurd n c0)
                              refine am_astoreS (lv2 := [(7, .retAddr q9), (0, .ref 0), (1, .int x1), (2, .int x2), (3, .int x3), (4, .int x4), (5, .int x5), (6, .int x6)]) d_LH_asks_206 (by decide) rfl ?_
                              refine am_ldc (v := (-9999999 : Int32)) d_LH_asks_208 aw_3_220 ?_
                              exact am_iret d_LH_asks_210 rfl rfl (by decide) (by decide) am_oC_ok
                            · have h := h.2 c2
                              have c3 : (f_CB_keyOf s x2 x3).1 = 3 := by rcases hz with z | z | z | z <;> first | exact z | exact absurd z c0 | exact absurd z c1 | exact absurd z c2
                              refine ak_EH (as := [.int x2, .int x3]) (rest := []) d_LH_asks_197 cw_LH_asks_197 rfl (ct_CB_keyOf hg hc) rfl rfl (by decide) sh_0 rfl (Nat.le_of_ble_eq_true rfl) (by decide) (by decide) (fun _ => ⟨211, by rw [c3]; exact hd_LH_asks_197_3, fun q9 => ?_⟩) (fun n => absurd n c0)
                              refine am_astoreS (lv2 := [(7, .retAddr q9), (0, .ref 0), (1, .int x1), (2, .int x2), (3, .int x3), (4, .int x4), (5, .int x5), (6, .int x6)]) d_LH_asks_211 (by decide) rfl ?_
                              refine am_ldc (v := (-9999999 : Int32)) d_LH_asks_213 aw_3_220 ?_
                              exact am_iret d_LH_asks_215 rfl rfl (by decide) (by decide) am_oC_ok
                      · have h := h.1 c
                        refine am_aload_n (j := 0) d_LH_asks_183 rfl rfl ?_
                        refine am_iload_n (j := 2) d_LH_asks_184 rfl rfl ?_
                        refine am_iload_n (j := 3) d_LH_asks_185 rfl rfl ?_
                        refine am_iload (j := 4) d_LH_asks_186 rfl ?_
                        obtain ⟨hc, h⟩ := h
                        obtain ⟨hz, h⟩ := h
                        refine am_caseN (F := am_oC) (q := (h_CB_stepIf s x2 x3 x4).1) (c := 0) (fun c0 => ?_) (fun c0 => ?_)
                        · have h := h.1 c0
                          refine ak_EH (as := [.int x2, .int x3, .int x4]) (rest := []) d_LH_asks_188 cw_LH_asks_188 rfl (ch_CB_stepIf hg hc) rfl rfl (by decide) sh_0 rfl (Nat.le_of_ble_eq_true rfl) (by decide) (by decide) (fun n => absurd c0 n) (fun _ => ?_)
                          refine am_goto (tgt := 200) d_LH_asks_191 (by decide) ?_
                          exact am_iret d_LH_asks_200 rfl rfl (by decide) (by decide) am_oC_ok
                        · have h := h.2 c0
                          refine am_caseN (F := am_oC) (q := (h_CB_stepIf s x2 x3 x4).1) (c := 1) (fun c1 => ?_) (fun c1 => ?_)
                          · have h := h.1 c1
                            refine ak_EH (as := [.int x2, .int x3, .int x4]) (rest := []) d_LH_asks_188 cw_LH_asks_188 rfl (ch_CB_stepIf hg hc) rfl rfl (by decide) sh_0 rfl (Nat.le_of_ble_eq_true rfl) (by decide) (by decide) (fun _ => ⟨201, by rw [c1]; exact hd_LH_asks_188_1, fun q9 => ?_⟩) (fun n => absurd n c0)
                            refine am_astoreS (lv2 := [(7, .retAddr q9), (0, .ref 0), (1, .int x1), (2, .int x2), (3, .int x3), (4, .int x4), (5, .int x5), (6, .int x6)]) d_LH_asks_201 (by decide) rfl ?_
                            refine am_ldc (v := (-9999999 : Int32)) d_LH_asks_203 aw_3_220 ?_
                            exact am_iret d_LH_asks_205 rfl rfl (by decide) (by decide) am_oC_ok
                          · have h := h.2 c1
                            refine am_caseN (F := am_oC) (q := (h_CB_stepIf s x2 x3 x4).1) (c := 2) (fun c2 => ?_) (fun c2 => ?_)
                            · have h := h.1 c2
                              refine ak_EH (as := [.int x2, .int x3, .int x4]) (rest := []) d_LH_asks_188 cw_LH_asks_188 rfl (ch_CB_stepIf hg hc) rfl rfl (by decide) sh_0 rfl (Nat.le_of_ble_eq_true rfl) (by decide) (by decide) (fun _ => ⟨206, by rw [c2]; exact hd_LH_asks_188_2, fun q9 => ?_⟩) (fun n => absurd n c0)
                              refine am_astoreS (lv2 := [(7, .retAddr q9), (0, .ref 0), (1, .int x1), (2, .int x2), (3, .int x3), (4, .int x4), (5, .int x5), (6, .int x6)]) d_LH_asks_206 (by decide) rfl ?_
                              refine am_ldc (v := (-9999999 : Int32)) d_LH_asks_208 aw_3_220 ?_
                              exact am_iret d_LH_asks_210 rfl rfl (by decide) (by decide) am_oC_ok
                            · have h := h.2 c2
                              have c3 : (h_CB_stepIf s x2 x3 x4).1 = 3 := by rcases hz with z | z | z | z <;> first | exact z | exact absurd z c0 | exact absurd z c1 | exact absurd z c2
                              refine ak_EH (as := [.int x2, .int x3, .int x4]) (rest := []) d_LH_asks_188 cw_LH_asks_188 rfl (ch_CB_stepIf hg hc) rfl rfl (by decide) sh_0 rfl (Nat.le_of_ble_eq_true rfl) (by decide) (by decide) (fun _ => ⟨211, by rw [c3]; exact hd_LH_asks_188_3, fun q9 => ?_⟩) (fun n => absurd n c0)
                              refine am_astoreS (lv2 := [(7, .retAddr q9), (0, .ref 0), (1, .int x1), (2, .int x2), (3, .int x3), (4, .int x4), (5, .int x5), (6, .int x6)]) d_LH_asks_211 (by decide) rfl ?_
                              refine am_ldc (v := (-9999999 : Int32)) d_LH_asks_213 aw_3_220 ?_
                              exact am_iret d_LH_asks_215 rfl rfl (by decide) (by decide) am_oC_ok
                    · have h := h.1 c
                      refine am_aload_n (j := 0) d_LH_asks_166 rfl rfl ?_
                      refine am_iload_n (j := 2) d_LH_asks_167 rfl rfl ?_
                      refine am_iload_n (j := 3) d_LH_asks_168 rfl rfl ?_
                      refine am_iload (j := 4) d_LH_asks_169 rfl ?_
                      obtain ⟨hc, h⟩ := h
                      obtain ⟨hz, h⟩ := h
                      refine am_caseN (F := am_oC) (q := (h_CB_stepRemove s x2 x3 x4).1) (c := 0) (fun c0 => ?_) (fun c0 => ?_)
                      · have h := h.1 c0
                        refine ak_EH (as := [.int x2, .int x3, .int x4]) (rest := []) d_LH_asks_171 cw_LH_asks_171 rfl (ch_CB_stepRemove hg hc) rfl rfl (by decide) sh_0 rfl (Nat.le_of_ble_eq_true rfl) (by decide) (by decide) (fun n => absurd c0 n) (fun _ => ?_)
                        refine am_goto (tgt := 200) d_LH_asks_174 (by decide) ?_
                        exact am_iret d_LH_asks_200 rfl rfl (by decide) (by decide) am_oC_ok
                      · have h := h.2 c0
                        refine am_caseN (F := am_oC) (q := (h_CB_stepRemove s x2 x3 x4).1) (c := 1) (fun c1 => ?_) (fun c1 => ?_)
                        · have h := h.1 c1
                          refine ak_EH (as := [.int x2, .int x3, .int x4]) (rest := []) d_LH_asks_171 cw_LH_asks_171 rfl (ch_CB_stepRemove hg hc) rfl rfl (by decide) sh_0 rfl (Nat.le_of_ble_eq_true rfl) (by decide) (by decide) (fun _ => ⟨201, by rw [c1]; exact hd_LH_asks_171_1, fun q9 => ?_⟩) (fun n => absurd n c0)
                          refine am_astoreS (lv2 := [(7, .retAddr q9), (0, .ref 0), (1, .int x1), (2, .int x2), (3, .int x3), (4, .int x4), (5, .int x5), (6, .int x6)]) d_LH_asks_201 (by decide) rfl ?_
                          refine am_ldc (v := (-9999999 : Int32)) d_LH_asks_203 aw_3_220 ?_
                          exact am_iret d_LH_asks_205 rfl rfl (by decide) (by decide) am_oC_ok
                        · have h := h.2 c1
                          refine am_caseN (F := am_oC) (q := (h_CB_stepRemove s x2 x3 x4).1) (c := 2) (fun c2 => ?_) (fun c2 => ?_)
                          · have h := h.1 c2
                            refine ak_EH (as := [.int x2, .int x3, .int x4]) (rest := []) d_LH_asks_171 cw_LH_asks_171 rfl (ch_CB_stepRemove hg hc) rfl rfl (by decide) sh_0 rfl (Nat.le_of_ble_eq_true rfl) (by decide) (by decide) (fun _ => ⟨206, by rw [c2]; exact hd_LH_asks_171_2, fun q9 => ?_⟩) (fun n => absurd n c0)
                            refine am_astoreS (lv2 := [(7, .retAddr q9), (0, .ref 0), (1, .int x1), (2, .int x2), (3, .int x3), (4, .int x4), (5, .int x5), (6, .int x6)]) d_LH_asks_206 (by decide) rfl ?_
                            refine am_ldc (v := (-9999999 : Int32)) d_LH_asks_208 aw_3_220 ?_
                            exact am_iret d_LH_asks_210 rfl rfl (by decide) (by decide) am_oC_ok
                          · have h := h.2 c2
                            have c3 : (h_CB_stepRemove s x2 x3 x4).1 = 3 := by rcases hz with z | z | z | z <;> first | exact z | exact absurd z c0 | exact absurd z c1 | exact absurd z c2
                            refine ak_EH (as := [.int x2, .int x3, .int x4]) (rest := []) d_LH_asks_171 cw_LH_asks_171 rfl (ch_CB_stepRemove hg hc) rfl rfl (by decide) sh_0 rfl (Nat.le_of_ble_eq_true rfl) (by decide) (by decide) (fun _ => ⟨211, by rw [c3]; exact hd_LH_asks_171_3, fun q9 => ?_⟩) (fun n => absurd n c0)
                            refine am_astoreS (lv2 := [(7, .retAddr q9), (0, .ref 0), (1, .int x1), (2, .int x2), (3, .int x3), (4, .int x4), (5, .int x5), (6, .int x6)]) d_LH_asks_211 (by decide) rfl ?_
                            refine am_ldc (v := (-9999999 : Int32)) d_LH_asks_213 aw_3_220 ?_
                            exact am_iret d_LH_asks_215 rfl rfl (by decide) (by decide) am_oC_ok
                  · have h := h.1 c
                    refine am_aload_n (j := 0) d_LH_asks_151 rfl rfl ?_
                    refine am_iload_n (j := 2) d_LH_asks_152 rfl rfl ?_
                    refine am_iload_n (j := 3) d_LH_asks_153 rfl rfl ?_
                    obtain ⟨hc, h⟩ := h
                    obtain ⟨hz, h⟩ := h
                    refine am_caseN (F := am_oC) (q := (h_CB_stepAdd s x2 x3).1) (c := 0) (fun c0 => ?_) (fun c0 => ?_)
                    · have h := h.1 c0
                      refine ak_EH (as := [.int x2, .int x3]) (rest := []) d_LH_asks_154 cw_LH_asks_154 rfl (ch_CB_stepAdd hg hc) rfl rfl (by decide) sh_0 rfl (Nat.le_of_ble_eq_true rfl) (by decide) (by decide) (fun n => absurd c0 n) (fun _ => ?_)
                      refine am_goto (tgt := 200) d_LH_asks_157 (by decide) ?_
                      exact am_iret d_LH_asks_200 rfl rfl (by decide) (by decide) am_oC_ok
                    · have h := h.2 c0
                      refine am_caseN (F := am_oC) (q := (h_CB_stepAdd s x2 x3).1) (c := 1) (fun c1 => ?_) (fun c1 => ?_)
                      · have h := h.1 c1
                        refine ak_EH (as := [.int x2, .int x3]) (rest := []) d_LH_asks_154 cw_LH_asks_154 rfl (ch_CB_stepAdd hg hc) rfl rfl (by decide) sh_0 rfl (Nat.le_of_ble_eq_true rfl) (by decide) (by decide) (fun _ => ⟨201, by rw [c1]; exact hd_LH_asks_154_1, fun q9 => ?_⟩) (fun n => absurd n c0)
                        refine am_astoreS (lv2 := [(7, .retAddr q9), (0, .ref 0), (1, .int x1), (2, .int x2), (3, .int x3), (4, .int x4), (5, .int x5), (6, .int x6)]) d_LH_asks_201 (by decide) rfl ?_
                        refine am_ldc (v := (-9999999 : Int32)) d_LH_asks_203 aw_3_220 ?_
                        exact am_iret d_LH_asks_205 rfl rfl (by decide) (by decide) am_oC_ok
                      · have h := h.2 c1
                        refine am_caseN (F := am_oC) (q := (h_CB_stepAdd s x2 x3).1) (c := 2) (fun c2 => ?_) (fun c2 => ?_)
                        · have h := h.1 c2
                          refine ak_EH (as := [.int x2, .int x3]) (rest := []) d_LH_asks_154 cw_LH_asks_154 rfl (ch_CB_stepAdd hg hc) rfl rfl (by decide) sh_0 rfl (Nat.le_of_ble_eq_true rfl) (by decide) (by decide) (fun _ => ⟨206, by rw [c2]; exact hd_LH_asks_154_2, fun q9 => ?_⟩) (fun n => absurd n c0)
                          refine am_astoreS (lv2 := [(7, .retAddr q9), (0, .ref 0), (1, .int x1), (2, .int x2), (3, .int x3), (4, .int x4), (5, .int x5), (6, .int x6)]) d_LH_asks_206 (by decide) rfl ?_
                          refine am_ldc (v := (-9999999 : Int32)) d_LH_asks_208 aw_3_220 ?_
                          exact am_iret d_LH_asks_210 rfl rfl (by decide) (by decide) am_oC_ok
                        · have h := h.2 c2
                          have c3 : (h_CB_stepAdd s x2 x3).1 = 3 := by rcases hz with z | z | z | z <;> first | exact z | exact absurd z c0 | exact absurd z c1 | exact absurd z c2
                          refine ak_EH (as := [.int x2, .int x3]) (rest := []) d_LH_asks_154 cw_LH_asks_154 rfl (ch_CB_stepAdd hg hc) rfl rfl (by decide) sh_0 rfl (Nat.le_of_ble_eq_true rfl) (by decide) (by decide) (fun _ => ⟨211, by rw [c3]; exact hd_LH_asks_154_3, fun q9 => ?_⟩) (fun n => absurd n c0)
                          refine am_astoreS (lv2 := [(7, .retAddr q9), (0, .ref 0), (1, .int x1), (2, .int x2), (3, .int x3), (4, .int x4), (5, .int x5), (6, .int x6)]) d_LH_asks_211 (by decide) rfl ?_
                          refine am_ldc (v := (-9999999 : Int32)) d_LH_asks_213 aw_3_220 ?_
                          exact am_iret d_LH_asks_215 rfl rfl (by decide) (by decide) am_oC_ok
                · have h := h.1 c
                  refine am_aload_n (j := 0) d_LH_asks_132 rfl rfl ?_
                  refine am_iload_n (j := 2) d_LH_asks_133 rfl rfl ?_
                  refine am_iload_n (j := 3) d_LH_asks_134 rfl rfl ?_
                  refine am_iload (j := 4) d_LH_asks_135 rfl ?_
                  refine am_iload (j := 5) d_LH_asks_137 rfl ?_
                  obtain ⟨hc, h⟩ := h
                  obtain ⟨hz, h⟩ := h
                  refine am_caseN (F := am_oC) (q := (h_CB_stepPut s x2 x3 x4 x5).1) (c := 0) (fun c0 => ?_) (fun c0 => ?_)
                  · have h := h.1 c0
                    refine ak_EH (as := [.int x2, .int x3, .int x4, .int x5]) (rest := []) d_LH_asks_139 cw_LH_asks_139 rfl (ch_CB_stepPut hg hc) rfl rfl (by decide) sh_0 rfl (Nat.le_of_ble_eq_true rfl) (by decide) (by decide) (fun n => absurd c0 n) (fun _ => ?_)
                    refine am_goto (tgt := 200) d_LH_asks_142 (by decide) ?_
                    exact am_iret d_LH_asks_200 rfl rfl (by decide) (by decide) am_oC_ok
                  · have h := h.2 c0
                    refine am_caseN (F := am_oC) (q := (h_CB_stepPut s x2 x3 x4 x5).1) (c := 1) (fun c1 => ?_) (fun c1 => ?_)
                    · have h := h.1 c1
                      refine ak_EH (as := [.int x2, .int x3, .int x4, .int x5]) (rest := []) d_LH_asks_139 cw_LH_asks_139 rfl (ch_CB_stepPut hg hc) rfl rfl (by decide) sh_0 rfl (Nat.le_of_ble_eq_true rfl) (by decide) (by decide) (fun _ => ⟨201, by rw [c1]; exact hd_LH_asks_139_1, fun q9 => ?_⟩) (fun n => absurd n c0)
                      refine am_astoreS (lv2 := [(7, .retAddr q9), (0, .ref 0), (1, .int x1), (2, .int x2), (3, .int x3), (4, .int x4), (5, .int x5), (6, .int x6)]) d_LH_asks_201 (by decide) rfl ?_
                      refine am_ldc (v := (-9999999 : Int32)) d_LH_asks_203 aw_3_220 ?_
                      exact am_iret d_LH_asks_205 rfl rfl (by decide) (by decide) am_oC_ok
                    · have h := h.2 c1
                      refine am_caseN (F := am_oC) (q := (h_CB_stepPut s x2 x3 x4 x5).1) (c := 2) (fun c2 => ?_) (fun c2 => ?_)
                      · have h := h.1 c2
                        refine ak_EH (as := [.int x2, .int x3, .int x4, .int x5]) (rest := []) d_LH_asks_139 cw_LH_asks_139 rfl (ch_CB_stepPut hg hc) rfl rfl (by decide) sh_0 rfl (Nat.le_of_ble_eq_true rfl) (by decide) (by decide) (fun _ => ⟨206, by rw [c2]; exact hd_LH_asks_139_2, fun q9 => ?_⟩) (fun n => absurd n c0)
                        refine am_astoreS (lv2 := [(7, .retAddr q9), (0, .ref 0), (1, .int x1), (2, .int x2), (3, .int x3), (4, .int x4), (5, .int x5), (6, .int x6)]) d_LH_asks_206 (by decide) rfl ?_
                        refine am_ldc (v := (-9999999 : Int32)) d_LH_asks_208 aw_3_220 ?_
                        exact am_iret d_LH_asks_210 rfl rfl (by decide) (by decide) am_oC_ok
                      · have h := h.2 c2
                        have c3 : (h_CB_stepPut s x2 x3 x4 x5).1 = 3 := by rcases hz with z | z | z | z <;> first | exact z | exact absurd z c0 | exact absurd z c1 | exact absurd z c2
                        refine ak_EH (as := [.int x2, .int x3, .int x4, .int x5]) (rest := []) d_LH_asks_139 cw_LH_asks_139 rfl (ch_CB_stepPut hg hc) rfl rfl (by decide) sh_0 rfl (Nat.le_of_ble_eq_true rfl) (by decide) (by decide) (fun _ => ⟨211, by rw [c3]; exact hd_LH_asks_139_3, fun q9 => ?_⟩) (fun n => absurd n c0)
                        refine am_astoreS (lv2 := [(7, .retAddr q9), (0, .ref 0), (1, .int x1), (2, .int x2), (3, .int x3), (4, .int x4), (5, .int x5), (6, .int x6)]) d_LH_asks_211 (by decide) rfl ?_
                        refine am_ldc (v := (-9999999 : Int32)) d_LH_asks_213 aw_3_220 ?_
                        exact am_iret d_LH_asks_215 rfl rfl (by decide) (by decide) am_oC_ok
              · have h := h.1 c
                refine am_aload_n (j := 0) d_LH_asks_105 rfl rfl ?_
                refine am_iload_n (j := 2) d_LH_asks_106 rfl rfl ?_
                refine am_iload_n (j := 3) d_LH_asks_107 rfl rfl ?_
                refine am_iload (j := 4) d_LH_asks_108 rfl ?_
                refine am_iload (j := 5) d_LH_asks_110 rfl ?_
                obtain ⟨hc, h⟩ := h
                obtain ⟨hz, h⟩ := h
                refine am_caseN (F := am_oC) (q := (h_CB_write s x2 x3 x4 x5).1) (c := 0) (fun c0 => ?_) (fun c0 => ?_)
                · have h := h.1 c0
                  refine ak_EH (as := [.int x2, .int x3, .int x4, .int x5]) (rest := []) d_LH_asks_112 cw_LH_asks_112 rfl (ch_CB_write hg hc) rfl rfl (by decide) sh_0 rfl (Nat.le_of_ble_eq_true rfl) (by decide) (by decide) (fun n => absurd c0 n) (fun _ => ?_)
                  refine ai_eq (F := am_oC) (tgt := 122) d_LH_asks_115 (by decide) (fun c => ?_) (fun c => ?_)
                  · have h := h.1 c
                    refine am_iconst (v := (0 : Int32)) d_LH_asks_122 (by decide) ?_
                    refine am_goto (tgt := 200) d_LH_asks_123 (by decide) ?_
                    exact am_iret d_LH_asks_200 rfl rfl (by decide) (by decide) am_oC_ok
                  · have h := h.2 c
                    refine am_iconst (v := (1 : Int32)) d_LH_asks_118 (by decide) ?_
                    refine am_goto (tgt := 200) d_LH_asks_119 (by decide) ?_
                    exact am_iret d_LH_asks_200 rfl rfl (by decide) (by decide) am_oC_ok
                · have h := h.2 c0
                  refine am_caseN (F := am_oC) (q := (h_CB_write s x2 x3 x4 x5).1) (c := 1) (fun c1 => ?_) (fun c1 => ?_)
                  · have h := h.1 c1
                    refine ak_EH (as := [.int x2, .int x3, .int x4, .int x5]) (rest := []) d_LH_asks_112 cw_LH_asks_112 rfl (ch_CB_write hg hc) rfl rfl (by decide) sh_0 rfl (Nat.le_of_ble_eq_true rfl) (by decide) (by decide) (fun _ => ⟨201, by rw [c1]; exact hd_LH_asks_112_1, fun q9 => ?_⟩) (fun n => absurd n c0)
                    refine am_astoreS (lv2 := [(7, .retAddr q9), (0, .ref 0), (1, .int x1), (2, .int x2), (3, .int x3), (4, .int x4), (5, .int x5), (6, .int x6)]) d_LH_asks_201 (by decide) rfl ?_
                    refine am_ldc (v := (-9999999 : Int32)) d_LH_asks_203 aw_3_220 ?_
                    exact am_iret d_LH_asks_205 rfl rfl (by decide) (by decide) am_oC_ok
                  · have h := h.2 c1
                    refine am_caseN (F := am_oC) (q := (h_CB_write s x2 x3 x4 x5).1) (c := 2) (fun c2 => ?_) (fun c2 => ?_)
                    · have h := h.1 c2
                      refine ak_EH (as := [.int x2, .int x3, .int x4, .int x5]) (rest := []) d_LH_asks_112 cw_LH_asks_112 rfl (ch_CB_write hg hc) rfl rfl (by decide) sh_0 rfl (Nat.le_of_ble_eq_true rfl) (by decide) (by decide) (fun _ => ⟨206, by rw [c2]; exact hd_LH_asks_112_2, fun q9 => ?_⟩) (fun n => absurd n c0)
                      refine am_astoreS (lv2 := [(7, .retAddr q9), (0, .ref 0), (1, .int x1), (2, .int x2), (3, .int x3), (4, .int x4), (5, .int x5), (6, .int x6)]) d_LH_asks_206 (by decide) rfl ?_
                      refine am_ldc (v := (-9999999 : Int32)) d_LH_asks_208 aw_3_220 ?_
                      exact am_iret d_LH_asks_210 rfl rfl (by decide) (by decide) am_oC_ok
                    · have h := h.2 c2
                      have c3 : (h_CB_write s x2 x3 x4 x5).1 = 3 := by rcases hz with z | z | z | z <;> first | exact z | exact absurd z c0 | exact absurd z c1 | exact absurd z c2
                      refine ak_EH (as := [.int x2, .int x3, .int x4, .int x5]) (rest := []) d_LH_asks_112 cw_LH_asks_112 rfl (ch_CB_write hg hc) rfl rfl (by decide) sh_0 rfl (Nat.le_of_ble_eq_true rfl) (by decide) (by decide) (fun _ => ⟨211, by rw [c3]; exact hd_LH_asks_112_3, fun q9 => ?_⟩) (fun n => absurd n c0)
                      refine am_astoreS (lv2 := [(7, .retAddr q9), (0, .ref 0), (1, .int x1), (2, .int x2), (3, .int x3), (4, .int x4), (5, .int x5), (6, .int x6)]) d_LH_asks_211 (by decide) rfl ?_
                      refine am_ldc (v := (-9999999 : Int32)) d_LH_asks_213 aw_3_220 ?_
                      exact am_iret d_LH_asks_215 rfl rfl (by decide) (by decide) am_oC_ok
            · have h := h.1 c
              refine am_aload_n (j := 0) d_LH_asks_88 rfl rfl ?_
              refine am_iload_n (j := 2) d_LH_asks_89 rfl rfl ?_
              refine am_iload_n (j := 3) d_LH_asks_90 rfl rfl ?_
              refine am_iload (j := 4) d_LH_asks_91 rfl ?_
              obtain ⟨hc, h⟩ := h
              obtain ⟨hz, h⟩ := h
              refine am_caseN (F := am_oC) (q := (f_CB_target s x2 x3 x4).1) (c := 0) (fun c0 => ?_) (fun c0 => ?_)
              · have h := h.1 c0
                refine ak_EH (as := [.int x2, .int x3, .int x4]) (rest := []) d_LH_asks_93 cw_LH_asks_93 rfl (ct_CB_target hg hc) rfl rfl (by decide) sh_0 rfl (Nat.le_of_ble_eq_true rfl) (by decide) (by decide) (fun n => absurd c0 n) (fun _ => ?_)
                refine am_goto (tgt := 200) d_LH_asks_96 (by decide) ?_
                exact am_iret d_LH_asks_200 rfl rfl (by decide) (by decide) am_oC_ok
              · have h := h.2 c0
                refine am_caseN (F := am_oC) (q := (f_CB_target s x2 x3 x4).1) (c := 1) (fun c1 => ?_) (fun c1 => ?_)
                · have h := h.1 c1
                  refine ak_EH (as := [.int x2, .int x3, .int x4]) (rest := []) d_LH_asks_93 cw_LH_asks_93 rfl (ct_CB_target hg hc) rfl rfl (by decide) sh_0 rfl (Nat.le_of_ble_eq_true rfl) (by decide) (by decide) (fun _ => ⟨201, by rw [c1]; exact hd_LH_asks_93_1, fun q9 => ?_⟩) (fun n => absurd n c0)
                  refine am_astoreS (lv2 := [(7, .retAddr q9), (0, .ref 0), (1, .int x1), (2, .int x2), (3, .int x3), (4, .int x4), (5, .int x5), (6, .int x6)]) d_LH_asks_201 (by decide) rfl ?_
                  refine am_ldc (v := (-9999999 : Int32)) d_LH_asks_203 aw_3_220 ?_
                  exact am_iret d_LH_asks_205 rfl rfl (by decide) (by decide) am_oC_ok
                · have h := h.2 c1
                  refine am_caseN (F := am_oC) (q := (f_CB_target s x2 x3 x4).1) (c := 2) (fun c2 => ?_) (fun c2 => ?_)
                  · have h := h.1 c2
                    refine ak_EH (as := [.int x2, .int x3, .int x4]) (rest := []) d_LH_asks_93 cw_LH_asks_93 rfl (ct_CB_target hg hc) rfl rfl (by decide) sh_0 rfl (Nat.le_of_ble_eq_true rfl) (by decide) (by decide) (fun _ => ⟨206, by rw [c2]; exact hd_LH_asks_93_2, fun q9 => ?_⟩) (fun n => absurd n c0)
                    refine am_astoreS (lv2 := [(7, .retAddr q9), (0, .ref 0), (1, .int x1), (2, .int x2), (3, .int x3), (4, .int x4), (5, .int x5), (6, .int x6)]) d_LH_asks_206 (by decide) rfl ?_
                    refine am_ldc (v := (-9999999 : Int32)) d_LH_asks_208 aw_3_220 ?_
                    exact am_iret d_LH_asks_210 rfl rfl (by decide) (by decide) am_oC_ok
                  · have h := h.2 c2
                    have c3 : (f_CB_target s x2 x3 x4).1 = 3 := by rcases hz with z | z | z | z <;> first | exact z | exact absurd z c0 | exact absurd z c1 | exact absurd z c2
                    refine ak_EH (as := [.int x2, .int x3, .int x4]) (rest := []) d_LH_asks_93 cw_LH_asks_93 rfl (ct_CB_target hg hc) rfl rfl (by decide) sh_0 rfl (Nat.le_of_ble_eq_true rfl) (by decide) (by decide) (fun _ => ⟨211, by rw [c3]; exact hd_LH_asks_93_3, fun q9 => ?_⟩) (fun n => absurd n c0)
                    refine am_astoreS (lv2 := [(7, .retAddr q9), (0, .ref 0), (1, .int x1), (2, .int x2), (3, .int x3), (4, .int x4), (5, .int x5), (6, .int x6)]) d_LH_asks_211 (by decide) rfl ?_
                    refine am_ldc (v := (-9999999 : Int32)) d_LH_asks_213 aw_3_220 ?_
                    exact am_iret d_LH_asks_215 rfl rfl (by decide) (by decide) am_oC_ok
          · have h := h.1 c
            refine am_aload_n (j := 0) d_LH_asks_72 rfl rfl ?_
            refine am_iload_n (j := 2) d_LH_asks_73 rfl rfl ?_
            refine am_iload_n (j := 3) d_LH_asks_74 rfl rfl ?_
            refine am_iload (j := 4) d_LH_asks_75 rfl ?_
            obtain ⟨hc, h⟩ := h
            obtain ⟨hz, h⟩ := h
            refine am_caseN (F := am_oC) (q := (f_CB_answer s x2 x3 x4).1) (c := 0) (fun c0 => ?_) (fun c0 => ?_)
            · have h := h.1 c0
              refine ak_EH (as := [.int x2, .int x3, .int x4]) (rest := []) d_LH_asks_77 cw_LH_asks_77 rfl (ct_CB_answer hg hc) rfl rfl (by decide) sh_0 rfl (Nat.le_of_ble_eq_true rfl) (by decide) (by decide) (fun n => absurd c0 n) (fun _ => ?_)
              refine am_goto (tgt := 200) d_LH_asks_80 (by decide) ?_
              exact am_iret d_LH_asks_200 rfl rfl (by decide) (by decide) am_oC_ok
            · have h := h.2 c0
              refine am_caseN (F := am_oC) (q := (f_CB_answer s x2 x3 x4).1) (c := 1) (fun c1 => ?_) (fun c1 => ?_)
              · have h := h.1 c1
                refine ak_EH (as := [.int x2, .int x3, .int x4]) (rest := []) d_LH_asks_77 cw_LH_asks_77 rfl (ct_CB_answer hg hc) rfl rfl (by decide) sh_0 rfl (Nat.le_of_ble_eq_true rfl) (by decide) (by decide) (fun _ => ⟨201, by rw [c1]; exact hd_LH_asks_77_1, fun q9 => ?_⟩) (fun n => absurd n c0)
                refine am_astoreS (lv2 := [(7, .retAddr q9), (0, .ref 0), (1, .int x1), (2, .int x2), (3, .int x3), (4, .int x4), (5, .int x5), (6, .int x6)]) d_LH_asks_201 (by decide) rfl ?_
                refine am_ldc (v := (-9999999 : Int32)) d_LH_asks_203 aw_3_220 ?_
                exact am_iret d_LH_asks_205 rfl rfl (by decide) (by decide) am_oC_ok
              · have h := h.2 c1
                refine am_caseN (F := am_oC) (q := (f_CB_answer s x2 x3 x4).1) (c := 2) (fun c2 => ?_) (fun c2 => ?_)
                · have h := h.1 c2
                  refine ak_EH (as := [.int x2, .int x3, .int x4]) (rest := []) d_LH_asks_77 cw_LH_asks_77 rfl (ct_CB_answer hg hc) rfl rfl (by decide) sh_0 rfl (Nat.le_of_ble_eq_true rfl) (by decide) (by decide) (fun _ => ⟨206, by rw [c2]; exact hd_LH_asks_77_2, fun q9 => ?_⟩) (fun n => absurd n c0)
                  refine am_astoreS (lv2 := [(7, .retAddr q9), (0, .ref 0), (1, .int x1), (2, .int x2), (3, .int x3), (4, .int x4), (5, .int x5), (6, .int x6)]) d_LH_asks_206 (by decide) rfl ?_
                  refine am_ldc (v := (-9999999 : Int32)) d_LH_asks_208 aw_3_220 ?_
                  exact am_iret d_LH_asks_210 rfl rfl (by decide) (by decide) am_oC_ok
                · have h := h.2 c2
                  have c3 : (f_CB_answer s x2 x3 x4).1 = 3 := by rcases hz with z | z | z | z <;> first | exact z | exact absurd z c0 | exact absurd z c1 | exact absurd z c2
                  refine ak_EH (as := [.int x2, .int x3, .int x4]) (rest := []) d_LH_asks_77 cw_LH_asks_77 rfl (ct_CB_answer hg hc) rfl rfl (by decide) sh_0 rfl (Nat.le_of_ble_eq_true rfl) (by decide) (by decide) (fun _ => ⟨211, by rw [c3]; exact hd_LH_asks_77_3, fun q9 => ?_⟩) (fun n => absurd n c0)
                  refine am_astoreS (lv2 := [(7, .retAddr q9), (0, .ref 0), (1, .int x1), (2, .int x2), (3, .int x3), (4, .int x4), (5, .int x5), (6, .int x6)]) d_LH_asks_211 (by decide) rfl ?_
                  refine am_ldc (v := (-9999999 : Int32)) d_LH_asks_213 aw_3_220 ?_
                  exact am_iret d_LH_asks_215 rfl rfl (by decide) (by decide) am_oC_ok
        · have h := h.1 c
          refine am_aload_n (j := 0) d_LH_asks_54 rfl rfl ?_
          refine am_iload_n (j := 2) d_LH_asks_55 rfl rfl ?_
          refine am_iload_n (j := 3) d_LH_asks_56 rfl rfl ?_
          refine am_iload (j := 4) d_LH_asks_57 rfl ?_
          refine am_iload (j := 5) d_LH_asks_59 rfl ?_
          obtain ⟨hc, h⟩ := h
          obtain ⟨hz, h⟩ := h
          refine am_caseN (F := am_oC) (q := (h_CB_askCross s x2 x3 x4 x5).1) (c := 0) (fun c0 => ?_) (fun c0 => ?_)
          · have h := h.1 c0
            refine ak_EH (as := [.int x2, .int x3, .int x4, .int x5]) (rest := []) d_LH_asks_61 cw_LH_asks_61 rfl (ch_CB_askCross hg hc) rfl rfl (by decide) sh_0 rfl (Nat.le_of_ble_eq_true rfl) (by decide) (by decide) (fun n => absurd c0 n) (fun _ => ?_)
            refine am_goto (tgt := 200) d_LH_asks_64 (by decide) ?_
            exact am_iret d_LH_asks_200 rfl rfl (by decide) (by decide) am_oC_ok
          · have h := h.2 c0
            refine am_caseN (F := am_oC) (q := (h_CB_askCross s x2 x3 x4 x5).1) (c := 1) (fun c1 => ?_) (fun c1 => ?_)
            · have h := h.1 c1
              refine ak_EH (as := [.int x2, .int x3, .int x4, .int x5]) (rest := []) d_LH_asks_61 cw_LH_asks_61 rfl (ch_CB_askCross hg hc) rfl rfl (by decide) sh_0 rfl (Nat.le_of_ble_eq_true rfl) (by decide) (by decide) (fun _ => ⟨201, by rw [c1]; exact hd_LH_asks_61_1, fun q9 => ?_⟩) (fun n => absurd n c0)
              refine am_astoreS (lv2 := [(7, .retAddr q9), (0, .ref 0), (1, .int x1), (2, .int x2), (3, .int x3), (4, .int x4), (5, .int x5), (6, .int x6)]) d_LH_asks_201 (by decide) rfl ?_
              refine am_ldc (v := (-9999999 : Int32)) d_LH_asks_203 aw_3_220 ?_
              exact am_iret d_LH_asks_205 rfl rfl (by decide) (by decide) am_oC_ok
            · have h := h.2 c1
              refine am_caseN (F := am_oC) (q := (h_CB_askCross s x2 x3 x4 x5).1) (c := 2) (fun c2 => ?_) (fun c2 => ?_)
              · have h := h.1 c2
                refine ak_EH (as := [.int x2, .int x3, .int x4, .int x5]) (rest := []) d_LH_asks_61 cw_LH_asks_61 rfl (ch_CB_askCross hg hc) rfl rfl (by decide) sh_0 rfl (Nat.le_of_ble_eq_true rfl) (by decide) (by decide) (fun _ => ⟨206, by rw [c2]; exact hd_LH_asks_61_2, fun q9 => ?_⟩) (fun n => absurd n c0)
                refine am_astoreS (lv2 := [(7, .retAddr q9), (0, .ref 0), (1, .int x1), (2, .int x2), (3, .int x3), (4, .int x4), (5, .int x5), (6, .int x6)]) d_LH_asks_206 (by decide) rfl ?_
                refine am_ldc (v := (-9999999 : Int32)) d_LH_asks_208 aw_3_220 ?_
                exact am_iret d_LH_asks_210 rfl rfl (by decide) (by decide) am_oC_ok
              · have h := h.2 c2
                have c3 : (h_CB_askCross s x2 x3 x4 x5).1 = 3 := by rcases hz with z | z | z | z <;> first | exact z | exact absurd z c0 | exact absurd z c1 | exact absurd z c2
                refine ak_EH (as := [.int x2, .int x3, .int x4, .int x5]) (rest := []) d_LH_asks_61 cw_LH_asks_61 rfl (ch_CB_askCross hg hc) rfl rfl (by decide) sh_0 rfl (Nat.le_of_ble_eq_true rfl) (by decide) (by decide) (fun _ => ⟨211, by rw [c3]; exact hd_LH_asks_61_3, fun q9 => ?_⟩) (fun n => absurd n c0)
                refine am_astoreS (lv2 := [(7, .retAddr q9), (0, .ref 0), (1, .int x1), (2, .int x2), (3, .int x3), (4, .int x4), (5, .int x5), (6, .int x6)]) d_LH_asks_211 (by decide) rfl ?_
                refine am_ldc (v := (-9999999 : Int32)) d_LH_asks_213 aw_3_220 ?_
                exact am_iret d_LH_asks_215 rfl rfl (by decide) (by decide) am_oC_ok
      · have h := h.1 c
        refine am_aload_n (j := 0) d_LH_asks_38 rfl rfl ?_
        refine am_iload_n (j := 2) d_LH_asks_39 rfl rfl ?_
        refine am_iload_n (j := 3) d_LH_asks_40 rfl rfl ?_
        refine am_iload (j := 4) d_LH_asks_41 rfl ?_
        obtain ⟨hc, h⟩ := h
        obtain ⟨hz, h⟩ := h
        refine am_caseN (F := am_oC) (q := (h_CB_askGroups s x2 x3 x4).1) (c := 0) (fun c0 => ?_) (fun c0 => ?_)
        · have h := h.1 c0
          refine ak_EH (as := [.int x2, .int x3, .int x4]) (rest := []) d_LH_asks_43 cw_LH_asks_43 rfl (ch_CB_askGroups hg hc) rfl rfl (by decide) sh_0 rfl (Nat.le_of_ble_eq_true rfl) (by decide) (by decide) (fun n => absurd c0 n) (fun _ => ?_)
          refine am_goto (tgt := 200) d_LH_asks_46 (by decide) ?_
          exact am_iret d_LH_asks_200 rfl rfl (by decide) (by decide) am_oC_ok
        · have h := h.2 c0
          refine am_caseN (F := am_oC) (q := (h_CB_askGroups s x2 x3 x4).1) (c := 1) (fun c1 => ?_) (fun c1 => ?_)
          · have h := h.1 c1
            refine ak_EH (as := [.int x2, .int x3, .int x4]) (rest := []) d_LH_asks_43 cw_LH_asks_43 rfl (ch_CB_askGroups hg hc) rfl rfl (by decide) sh_0 rfl (Nat.le_of_ble_eq_true rfl) (by decide) (by decide) (fun _ => ⟨201, by rw [c1]; exact hd_LH_asks_43_1, fun q9 => ?_⟩) (fun n => absurd n c0)
            refine am_astoreS (lv2 := [(7, .retAddr q9), (0, .ref 0), (1, .int x1), (2, .int x2), (3, .int x3), (4, .int x4), (5, .int x5), (6, .int x6)]) d_LH_asks_201 (by decide) rfl ?_
            refine am_ldc (v := (-9999999 : Int32)) d_LH_asks_203 aw_3_220 ?_
            exact am_iret d_LH_asks_205 rfl rfl (by decide) (by decide) am_oC_ok
          · have h := h.2 c1
            refine am_caseN (F := am_oC) (q := (h_CB_askGroups s x2 x3 x4).1) (c := 2) (fun c2 => ?_) (fun c2 => ?_)
            · have h := h.1 c2
              refine ak_EH (as := [.int x2, .int x3, .int x4]) (rest := []) d_LH_asks_43 cw_LH_asks_43 rfl (ch_CB_askGroups hg hc) rfl rfl (by decide) sh_0 rfl (Nat.le_of_ble_eq_true rfl) (by decide) (by decide) (fun _ => ⟨206, by rw [c2]; exact hd_LH_asks_43_2, fun q9 => ?_⟩) (fun n => absurd n c0)
              refine am_astoreS (lv2 := [(7, .retAddr q9), (0, .ref 0), (1, .int x1), (2, .int x2), (3, .int x3), (4, .int x4), (5, .int x5), (6, .int x6)]) d_LH_asks_206 (by decide) rfl ?_
              refine am_ldc (v := (-9999999 : Int32)) d_LH_asks_208 aw_3_220 ?_
              exact am_iret d_LH_asks_210 rfl rfl (by decide) (by decide) am_oC_ok
            · have h := h.2 c2
              have c3 : (h_CB_askGroups s x2 x3 x4).1 = 3 := by rcases hz with z | z | z | z <;> first | exact z | exact absurd z c0 | exact absurd z c1 | exact absurd z c2
              refine ak_EH (as := [.int x2, .int x3, .int x4]) (rest := []) d_LH_asks_43 cw_LH_asks_43 rfl (ch_CB_askGroups hg hc) rfl rfl (by decide) sh_0 rfl (Nat.le_of_ble_eq_true rfl) (by decide) (by decide) (fun _ => ⟨211, by rw [c3]; exact hd_LH_asks_43_3, fun q9 => ?_⟩) (fun n => absurd n c0)
              refine am_astoreS (lv2 := [(7, .retAddr q9), (0, .ref 0), (1, .int x1), (2, .int x2), (3, .int x3), (4, .int x4), (5, .int x5), (6, .int x6)]) d_LH_asks_211 (by decide) rfl ?_
              refine am_ldc (v := (-9999999 : Int32)) d_LH_asks_213 aw_3_220 ?_
              exact am_iret d_LH_asks_215 rfl rfl (by decide) (by decide) am_oC_ok
    · have h := h.1 c
      refine am_aload_n (j := 0) d_LH_asks_18 rfl rfl ?_
      refine am_iload_n (j := 2) d_LH_asks_19 rfl rfl ?_
      refine am_iload_n (j := 3) d_LH_asks_20 rfl rfl ?_
      refine am_iload (j := 4) d_LH_asks_21 rfl ?_
      refine am_iload (j := 5) d_LH_asks_23 rfl ?_
      refine am_iload (j := 6) d_LH_asks_25 rfl ?_
      obtain ⟨hc, h⟩ := h
      obtain ⟨hz, h⟩ := h
      refine am_caseN (F := am_oC) (q := (h_CB_condition s x2 x3 x4 x5 x6).1) (c := 0) (fun c0 => ?_) (fun c0 => ?_)
      · have h := h.1 c0
        refine ak_EH (as := [.int x2, .int x3, .int x4, .int x5, .int x6]) (rest := []) d_LH_asks_27 cw_LH_asks_27 rfl (ch_CB_condition hg hc) rfl rfl (by decide) sh_0 rfl (Nat.le_of_ble_eq_true rfl) (by decide) (by decide) (fun n => absurd c0 n) (fun _ => ?_)
        refine am_goto (tgt := 200) d_LH_asks_30 (by decide) ?_
        exact am_iret d_LH_asks_200 rfl rfl (by decide) (by decide) am_oC_ok
      · have h := h.2 c0
        refine am_caseN (F := am_oC) (q := (h_CB_condition s x2 x3 x4 x5 x6).1) (c := 1) (fun c1 => ?_) (fun c1 => ?_)
        · have h := h.1 c1
          refine ak_EH (as := [.int x2, .int x3, .int x4, .int x5, .int x6]) (rest := []) d_LH_asks_27 cw_LH_asks_27 rfl (ch_CB_condition hg hc) rfl rfl (by decide) sh_0 rfl (Nat.le_of_ble_eq_true rfl) (by decide) (by decide) (fun _ => ⟨201, by rw [c1]; exact hd_LH_asks_27_1, fun q9 => ?_⟩) (fun n => absurd n c0)
          refine am_astoreS (lv2 := [(7, .retAddr q9), (0, .ref 0), (1, .int x1), (2, .int x2), (3, .int x3), (4, .int x4), (5, .int x5), (6, .int x6)]) d_LH_asks_201 (by decide) rfl ?_
          refine am_ldc (v := (-9999999 : Int32)) d_LH_asks_203 aw_3_220 ?_
          exact am_iret d_LH_asks_205 rfl rfl (by decide) (by decide) am_oC_ok
        · have h := h.2 c1
          refine am_caseN (F := am_oC) (q := (h_CB_condition s x2 x3 x4 x5 x6).1) (c := 2) (fun c2 => ?_) (fun c2 => ?_)
          · have h := h.1 c2
            refine ak_EH (as := [.int x2, .int x3, .int x4, .int x5, .int x6]) (rest := []) d_LH_asks_27 cw_LH_asks_27 rfl (ch_CB_condition hg hc) rfl rfl (by decide) sh_0 rfl (Nat.le_of_ble_eq_true rfl) (by decide) (by decide) (fun _ => ⟨206, by rw [c2]; exact hd_LH_asks_27_2, fun q9 => ?_⟩) (fun n => absurd n c0)
            refine am_astoreS (lv2 := [(7, .retAddr q9), (0, .ref 0), (1, .int x1), (2, .int x2), (3, .int x3), (4, .int x4), (5, .int x5), (6, .int x6)]) d_LH_asks_206 (by decide) rfl ?_
            refine am_ldc (v := (-9999999 : Int32)) d_LH_asks_208 aw_3_220 ?_
            exact am_iret d_LH_asks_210 rfl rfl (by decide) (by decide) am_oC_ok
          · have h := h.2 c2
            have c3 : (h_CB_condition s x2 x3 x4 x5 x6).1 = 3 := by rcases hz with z | z | z | z <;> first | exact z | exact absurd z c0 | exact absurd z c1 | exact absurd z c2
            refine ak_EH (as := [.int x2, .int x3, .int x4, .int x5, .int x6]) (rest := []) d_LH_asks_27 cw_LH_asks_27 rfl (ch_CB_condition hg hc) rfl rfl (by decide) sh_0 rfl (Nat.le_of_ble_eq_true rfl) (by decide) (by decide) (fun _ => ⟨211, by rw [c3]; exact hd_LH_asks_27_3, fun q9 => ?_⟩) (fun n => absurd n c0)
            refine am_astoreS (lv2 := [(7, .retAddr q9), (0, .ref 0), (1, .int x1), (2, .int x2), (3, .int x3), (4, .int x4), (5, .int x5), (6, .int x6)]) d_LH_asks_211 (by decide) rfl ?_
            refine am_ldc (v := (-9999999 : Int32)) d_LH_asks_213 aw_3_220 ?_
            exact am_iret d_LH_asks_215 rfl rfl (by decide) (by decide) am_oC_ok
  · have h := h.1 c
    refine am_aload_n (j := 0) d_LH_asks_4 rfl rfl ?_
    refine am_iload_n (j := 2) d_LH_asks_5 rfl rfl ?_
    refine am_iload_n (j := 3) d_LH_asks_6 rfl rfl ?_
    obtain ⟨hc, h⟩ := h
    obtain ⟨hz, h⟩ := h
    refine am_caseN (F := am_oC) (q := (h_CB_ask s x2 x3).1) (c := 0) (fun c0 => ?_) (fun c0 => ?_)
    · have h := h.1 c0
      refine ak_EH (as := [.int x2, .int x3]) (rest := []) d_LH_asks_7 cw_LH_asks_7 rfl (ch_CB_ask hg hc) rfl rfl (by decide) sh_0 rfl (Nat.le_of_ble_eq_true rfl) (by decide) (by decide) (fun n => absurd c0 n) (fun _ => ?_)
      refine am_goto (tgt := 200) d_LH_asks_10 (by decide) ?_
      exact am_iret d_LH_asks_200 rfl rfl (by decide) (by decide) am_oC_ok
    · have h := h.2 c0
      refine am_caseN (F := am_oC) (q := (h_CB_ask s x2 x3).1) (c := 1) (fun c1 => ?_) (fun c1 => ?_)
      · have h := h.1 c1
        refine ak_EH (as := [.int x2, .int x3]) (rest := []) d_LH_asks_7 cw_LH_asks_7 rfl (ch_CB_ask hg hc) rfl rfl (by decide) sh_0 rfl (Nat.le_of_ble_eq_true rfl) (by decide) (by decide) (fun _ => ⟨201, by rw [c1]; exact hd_LH_asks_7_1, fun q9 => ?_⟩) (fun n => absurd n c0)
        refine am_astoreS (lv2 := [(7, .retAddr q9), (0, .ref 0), (1, .int x1), (2, .int x2), (3, .int x3), (4, .int x4), (5, .int x5), (6, .int x6)]) d_LH_asks_201 (by decide) rfl ?_
        refine am_ldc (v := (-9999999 : Int32)) d_LH_asks_203 aw_3_220 ?_
        exact am_iret d_LH_asks_205 rfl rfl (by decide) (by decide) am_oC_ok
      · have h := h.2 c1
        refine am_caseN (F := am_oC) (q := (h_CB_ask s x2 x3).1) (c := 2) (fun c2 => ?_) (fun c2 => ?_)
        · have h := h.1 c2
          refine ak_EH (as := [.int x2, .int x3]) (rest := []) d_LH_asks_7 cw_LH_asks_7 rfl (ch_CB_ask hg hc) rfl rfl (by decide) sh_0 rfl (Nat.le_of_ble_eq_true rfl) (by decide) (by decide) (fun _ => ⟨206, by rw [c2]; exact hd_LH_asks_7_2, fun q9 => ?_⟩) (fun n => absurd n c0)
          refine am_astoreS (lv2 := [(7, .retAddr q9), (0, .ref 0), (1, .int x1), (2, .int x2), (3, .int x3), (4, .int x4), (5, .int x5), (6, .int x6)]) d_LH_asks_206 (by decide) rfl ?_
          refine am_ldc (v := (-9999999 : Int32)) d_LH_asks_208 aw_3_220 ?_
          exact am_iret d_LH_asks_210 rfl rfl (by decide) (by decide) am_oC_ok
        · have h := h.2 c2
          have c3 : (h_CB_ask s x2 x3).1 = 3 := by rcases hz with z | z | z | z <;> first | exact z | exact absurd z c0 | exact absurd z c1 | exact absurd z c2
          refine ak_EH (as := [.int x2, .int x3]) (rest := []) d_LH_asks_7 cw_LH_asks_7 rfl (ch_CB_ask hg hc) rfl rfl (by decide) sh_0 rfl (Nat.le_of_ble_eq_true rfl) (by decide) (by decide) (fun _ => ⟨211, by rw [c3]; exact hd_LH_asks_7_3, fun q9 => ?_⟩) (fun n => absurd n c0)
          refine am_astoreS (lv2 := [(7, .retAddr q9), (0, .ref 0), (1, .int x1), (2, .int x2), (3, .int x3), (4, .int x4), (5, .int x5), (6, .int x6)]) d_LH_asks_211 (by decide) rfl ?_
          refine am_ldc (v := (-9999999 : Int32)) d_LH_asks_213 aw_3_220 ?_
          exact am_iret d_LH_asks_215 rfl rfl (by decide) (by decide) am_oC_ok
theorem ct_LH_asks {l : Launch} {g : am_Gl} (hg : g.2.2.2.1 = true) {s : am_M} {x1 : Int32} {x2 : Int32} {x3 : Int32} {x4 : Int32} {x5 : Int32} {x6 : Int32} (h : p_LH_asks s x1 x2 x3 x4 x5 x6) : AC l g m_LH_asks 207 s [.ref 0, .int x1, .int x2, .int x3, .int x4, .int x5, .int x6] (am_oC (f_LH_asks s x1 x2 x3 x4 x5 x6)) := am_enterH ok_LH_asks rfl rfl (Nat.le_of_ble_eq_true rfl) rfl (fun ad0 => w_LH_asks hg h)
theorem cw_LH_many_14 : am_cv m_LH_many m_CB_columns 149 1 := ⟨⟨ok_CB_columns, rfl, by decide +kernel, by decide, by decide⟩, aw_5_118, aw_5_119, aw_5_120⟩
theorem cw_LH_many_6 : am_cv m_LH_many m_CB_answers 146 1 := ⟨⟨ok_CB_answers, rfl, by decide +kernel, by decide, by decide⟩, aw_5_114, aw_5_115, aw_5_116⟩
theorem hd_LH_many_14_1 : am_hd m_LH_many 14 (am_exn 1) 18 := ⟨[], ⟨0, 17, 18, 55⟩, [], rfl, by decide, rfl, by decide, aw_1_196, by decide +kernel, fun z h => absurd h List.not_mem_nil⟩
theorem hd_LH_many_6_1 : am_hd m_LH_many 6 (am_exn 1) 18 := ⟨[], ⟨0, 17, 18, 55⟩, [], rfl, by decide, rfl, by decide, aw_1_196, by decide +kernel, fun z h => absurd h List.not_mem_nil⟩
def f_LH_many  (s : am_M) (x1 : Int32) (x2 : Int32) : Int32 × am_M := (if x1 = 0 then (if (f_CB_answers s x2).1 = 0 then ((f_CB_answers s x2).2.1, (f_CB_answers s x2).2.2) else ((-9999999 : Int32), (f_CB_answers s x2).2.2)) else (if (f_CB_columns s x2).1 = 0 then ((f_CB_columns s x2).2.1, (f_CB_columns s x2).2.2) else ((-9999999 : Int32), (f_CB_columns s x2).2.2)))
def p_LH_many  (s : am_M) (x1 : Int32) (x2 : Int32) : Prop := ((x1 = 0) → p_CB_answers s x2 ∧ (((f_CB_answers s x2).1 = 0 ∨ (f_CB_answers s x2).1 = 1) ∧ ((((f_CB_answers s x2).1 = 0) → True) ∧ (¬ ((f_CB_answers s x2).1 = 0) → True)))) ∧ (¬ (x1 = 0) → p_CB_columns s x2 ∧ (((f_CB_columns s x2).1 = 0 ∨ (f_CB_columns s x2).1 = 1) ∧ ((((f_CB_columns s x2).1 = 0) → True) ∧ (¬ ((f_CB_columns s x2).1 = 0) → True))))
set_option maxRecDepth 8000 in
theorem w_LH_many {l : Launch} {g : am_Gl} (hg : g.2.2.2.1 = true) {ad0 : Nat → Nat} {s : am_M} {x1 : Int32} {x2 : Int32} (h : p_LH_many s x1 x2) : AW l g m_LH_many 207 ad0 (am_oC (f_LH_many s x1 x2)) 0 0 207 s 0 [(0, .ref 0), (1, .int x1), (2, .int x2)] [] := by
  refine am_iload_n (j := 1) d_LH_many_0 rfl rfl ?_
  refine ai_ne (F := am_oC) (tgt := 12) d_LH_many_1 (by decide) (fun c => ?_) (fun c => ?_)
  · have h := h.2 c
    refine am_aload_n (j := 0) d_LH_many_12 rfl rfl ?_
    refine am_iload_n (j := 2) d_LH_many_13 rfl rfl ?_
    obtain ⟨hc, h⟩ := h
    obtain ⟨hz, h⟩ := h
    refine am_caseN (F := am_oC) (q := (f_CB_columns s x2).1) (c := 0) (fun c0 => ?_) (fun c0 => ?_)
    · have h := h.1 c0
      refine ak_EH (as := [.int x2]) (rest := []) d_LH_many_14 cw_LH_many_14 rfl (ct_CB_columns hg hc) rfl rfl (by decide) sh_0 rfl (Nat.le_of_ble_eq_true rfl) (by decide) (by decide) (fun n => absurd c0 n) (fun _ => ?_)
      exact am_iret d_LH_many_17 rfl rfl (by decide) (by decide) am_oC_ok
    · have h := h.2 c0
      have c1 : (f_CB_columns s x2).1 = 1 := by rcases hz with z | z <;> first | exact z | exact absurd z c0
      refine ak_EH (as := [.int x2]) (rest := []) d_LH_many_14 cw_LH_many_14 rfl (ct_CB_columns hg hc) rfl rfl (by decide) sh_0 rfl (Nat.le_of_ble_eq_true rfl) (by decide) (by decide) (fun _ => ⟨18, by rw [c1]; exact hd_LH_many_14_1, fun q9 => ?_⟩) (fun n => absurd n c0)
      refine am_astoreS_n (lv2 := [(3, .retAddr q9), (0, .ref 0), (1, .int x1), (2, .int x2)]) d_LH_many_18 rfl (by decide) rfl ?_
      refine am_ldc (v := (-9999999 : Int32)) d_LH_many_19 aw_3_220 ?_
      exact am_iret d_LH_many_21 rfl rfl (by decide) (by decide) am_oC_ok
  · have h := h.1 c
    refine am_aload_n (j := 0) d_LH_many_4 rfl rfl ?_
    refine am_iload_n (j := 2) d_LH_many_5 rfl rfl ?_
    obtain ⟨hc, h⟩ := h
    obtain ⟨hz, h⟩ := h
    refine am_caseN (F := am_oC) (q := (f_CB_answers s x2).1) (c := 0) (fun c0 => ?_) (fun c0 => ?_)
    · have h := h.1 c0
      refine ak_EH (as := [.int x2]) (rest := []) d_LH_many_6 cw_LH_many_6 rfl (ct_CB_answers hg hc) rfl rfl (by decide) sh_0 rfl (Nat.le_of_ble_eq_true rfl) (by decide) (by decide) (fun n => absurd c0 n) (fun _ => ?_)
      refine am_goto (tgt := 17) d_LH_many_9 (by decide) ?_
      exact am_iret d_LH_many_17 rfl rfl (by decide) (by decide) am_oC_ok
    · have h := h.2 c0
      have c1 : (f_CB_answers s x2).1 = 1 := by rcases hz with z | z <;> first | exact z | exact absurd z c0
      refine ak_EH (as := [.int x2]) (rest := []) d_LH_many_6 cw_LH_many_6 rfl (ct_CB_answers hg hc) rfl rfl (by decide) sh_0 rfl (Nat.le_of_ble_eq_true rfl) (by decide) (by decide) (fun _ => ⟨18, by rw [c1]; exact hd_LH_many_6_1, fun q9 => ?_⟩) (fun n => absurd n c0)
      refine am_astoreS_n (lv2 := [(3, .retAddr q9), (0, .ref 0), (1, .int x1), (2, .int x2)]) d_LH_many_18 rfl (by decide) rfl ?_
      refine am_ldc (v := (-9999999 : Int32)) d_LH_many_19 aw_3_220 ?_
      exact am_iret d_LH_many_21 rfl rfl (by decide) (by decide) am_oC_ok
theorem ct_LH_many {l : Launch} {g : am_Gl} (hg : g.2.2.2.1 = true) {s : am_M} {x1 : Int32} {x2 : Int32} (h : p_LH_many s x1 x2) : AC l g m_LH_many 207 s [.ref 0, .int x1, .int x2] (am_oC (f_LH_many s x1 x2)) := am_enterH ok_LH_many rfl rfl (Nat.le_of_ble_eq_true rfl) rfl (fun ad0 => w_LH_many hg h)
theorem cw_LH_rows_2 : am_cv m_LH_rows m_CB_rows 152 1 := ⟨⟨ok_CB_rows, rfl, by decide +kernel, by decide, by decide⟩, aw_5_102, aw_5_103, aw_5_104⟩
theorem hd_LH_rows_2_1 : am_hd m_LH_rows 2 (am_exn 1) 6 := ⟨[], ⟨0, 5, 6, 55⟩, [], rfl, by decide, rfl, by decide, aw_1_196, by decide +kernel, fun z h => absurd h List.not_mem_nil⟩
def f_LH_rows  (s : am_M) (x1 : Int32) : Int32 × am_M := (if (f_CB_rows s x1).1 = 0 then ((f_CB_rows s x1).2.1, (f_CB_rows s x1).2.2) else ((-9999999 : Int32), (f_CB_rows s x1).2.2))
def p_LH_rows  (s : am_M) (x1 : Int32) : Prop := p_CB_rows s x1 ∧ (((f_CB_rows s x1).1 = 0 ∨ (f_CB_rows s x1).1 = 1) ∧ ((((f_CB_rows s x1).1 = 0) → True) ∧ (¬ ((f_CB_rows s x1).1 = 0) → True)))
set_option maxRecDepth 8000 in
theorem w_LH_rows {l : Launch} {g : am_Gl} (hg : g.2.2.2.1 = true) {ad0 : Nat → Nat} {s : am_M} {x1 : Int32} (h : p_LH_rows s x1) : AW l g m_LH_rows 207 ad0 (am_oC (f_LH_rows s x1)) 0 0 207 s 0 [(0, .ref 0), (1, .int x1)] [] := by
  refine am_aload_n (j := 0) d_LH_rows_0 rfl rfl ?_
  refine am_iload_n (j := 1) d_LH_rows_1 rfl rfl ?_
  obtain ⟨hc, h⟩ := h
  obtain ⟨hz, h⟩ := h
  refine am_caseN (F := am_oC) (q := (f_CB_rows s x1).1) (c := 0) (fun c0 => ?_) (fun c0 => ?_)
  · have h := h.1 c0
    refine ak_EH (as := [.int x1]) (rest := []) d_LH_rows_2 cw_LH_rows_2 rfl (ct_CB_rows hg hc) rfl rfl (by decide) sh_0 rfl (Nat.le_of_ble_eq_true rfl) (by decide) (by decide) (fun n => absurd c0 n) (fun _ => ?_)
    exact am_iret d_LH_rows_5 rfl rfl (by decide) (by decide) am_oC_ok
  · have h := h.2 c0
    have c1 : (f_CB_rows s x1).1 = 1 := by rcases hz with z | z <;> first | exact z | exact absurd z c0
    refine ak_EH (as := [.int x1]) (rest := []) d_LH_rows_2 cw_LH_rows_2 rfl (ct_CB_rows hg hc) rfl rfl (by decide) sh_0 rfl (Nat.le_of_ble_eq_true rfl) (by decide) (by decide) (fun _ => ⟨6, by rw [c1]; exact hd_LH_rows_2_1, fun q9 => ?_⟩) (fun n => absurd n c0)
    refine am_astoreS_n (lv2 := [(2, .retAddr q9), (0, .ref 0), (1, .int x1)]) d_LH_rows_6 rfl (by decide) rfl ?_
    refine am_ldc (v := (-9999999 : Int32)) d_LH_rows_7 aw_3_220 ?_
    exact am_iret d_LH_rows_9 rfl rfl (by decide) (by decide) am_oC_ok
theorem ct_LH_rows {l : Launch} {g : am_Gl} (hg : g.2.2.2.1 = true) {s : am_M} {x1 : Int32} (h : p_LH_rows s x1) : AC l g m_LH_rows 207 s [.ref 0, .int x1] (am_oC (f_LH_rows s x1)) := am_enterH ok_LH_rows rfl rfl (Nat.le_of_ble_eq_true rfl) rfl (fun ad0 => w_LH_rows hg h)
end

noncomputable section
def f_LH_low  (s : am_M) (x0 : Int32) (x1 : Int32) : Int32 := ((x0 &&& (2147483647 : Int32)) - (x0 &&& (2147483647 : Int32)) / x1 * x1)
def p_LH_low  (s : am_M) (x0 : Int32) (x1 : Int32) : Prop := ¬ (x1 = 0) ∧ (True)
set_option maxRecDepth 8000 in
theorem w_LH_low {l : Launch} {g : am_Gl} (hg : g.2.2.2.1 = true) {ad0 : Nat → Nat} {s : am_M} {x0 : Int32} {x1 : Int32} (h : p_LH_low s x0 x1) : AW l g m_LH_low 207 ad0 ((am_oI s) (f_LH_low s x0 x1)) 0 0 207 s 0 [(0, .int x0), (1, .int x1)] [] := by
  refine am_iload_n (j := 0) d_LH_low_0 rfl rfl ?_
  refine am_ldc (v := (2147483647 : Int32)) d_LH_low_1 aw_1_189 ?_
  refine am_iand d_LH_low_3 ?_
  refine am_iload_n (j := 1) d_LH_low_4 rfl rfl ?_
  obtain ⟨h0, h⟩ := h
  refine am_irem d_LH_low_5 h0 ?_
  exact am_iret d_LH_low_6 rfl rfl (by decide) (by decide) am_oI_ok
theorem ct_LH_low {l : Launch} {g : am_Gl} (hg : g.2.2.2.1 = true) {s : am_M} {x0 : Int32} {x1 : Int32} (h : p_LH_low s x0 x1) : AC l g m_LH_low 207 s [.int x0, .int x1] ((am_oI s) (f_LH_low s x0 x1)) := am_enter ok_LH_low rfl (Nat.le_of_ble_eq_true rfl) rfl (fun ad0 => w_LH_low hg h)
theorem cw_LH_number_37 : am_cs m_LH_number m_LH_low 156 2 := ⟨⟨ok_LH_low, rfl, by decide +kernel, by decide, by decide⟩, aw_1_186, aw_1_187⟩
theorem cw_LH_number_22 : am_cs m_LH_number m_LH_low 156 2 := ⟨⟨ok_LH_low, rfl, by decide +kernel, by decide, by decide⟩, aw_1_186, aw_1_187⟩
def f_LH_number  (s : am_M) (x0 : Int32) (x1 : Int32) : Int32 := (if (x0 &&& (7 : Int32)) = 0 then (-1000000 : Int32) else (if x1 = 0 then ((f_LH_low s (x0 >>> ((3 : Int32) &&& 31)) (16 : Int32)) - (2 : Int32)) else ((f_LH_low s (x0 >>> ((3 : Int32) &&& 31)) (30000 : Int32)) - (15000 : Int32))))
def p_LH_number  (s : am_M) (x0 : Int32) (x1 : Int32) : Prop := (((x0 &&& (7 : Int32)) = 0) → True) ∧ (¬ ((x0 &&& (7 : Int32)) = 0) → ((x1 = 0) → p_LH_low s (x0 >>> ((3 : Int32) &&& 31)) (16 : Int32) ∧ (True)) ∧ (¬ (x1 = 0) → p_LH_low s (x0 >>> ((3 : Int32) &&& 31)) (30000 : Int32) ∧ (True)))
set_option maxRecDepth 8000 in
theorem w_LH_number {l : Launch} {g : am_Gl} (hg : g.2.2.2.1 = true) {ad0 : Nat → Nat} {s : am_M} {x0 : Int32} {x1 : Int32} (h : p_LH_number s x0 x1) : AW l g m_LH_number 207 ad0 ((am_oI s) (f_LH_number s x0 x1)) 0 0 207 s 0 [(0, .int x0), (1, .int x1)] [] := by
  refine am_iload_n (j := 0) d_LH_number_0 rfl rfl ?_
  refine am_bipush (v := (7 : Int32)) d_LH_number_1 (by decide) ?_
  refine am_iand d_LH_number_3 ?_
  refine ai_ne (F := (am_oI s)) (tgt := 12) d_LH_number_4 (by decide) (fun c => ?_) (fun c => ?_)
  · have h := h.2 c
    refine am_iload_n (j := 1) d_LH_number_12 rfl rfl ?_
    refine ai_eq (F := (am_oI s)) (tgt := 32) d_LH_number_13 (by decide) (fun c => ?_) (fun c => ?_)
    · have h := h.1 c
      refine am_iload_n (j := 0) d_LH_number_32 rfl rfl ?_
      refine am_iconst (v := (3 : Int32)) d_LH_number_33 (by decide) ?_
      refine am_ishr d_LH_number_34 ?_
      refine am_bipush (v := (16 : Int32)) d_LH_number_35 (by decide) ?_
      obtain ⟨hc, h⟩ := h
      refine ak_SI (as := [.int (x0 >>> ((3 : Int32) &&& 31)), .int (16 : Int32)]) (rest := []) d_LH_number_37 cw_LH_number_37 rfl rfl rfl (ct_LH_low hg hc) rfl rfl (Nat.le_of_ble_eq_true rfl) (by decide) (by decide) ?_
      refine am_iconst (v := (2 : Int32)) d_LH_number_40 (by decide) ?_
      refine am_isub d_LH_number_41 ?_
      exact am_iret d_LH_number_42 rfl rfl (by decide) (by decide) am_oI_ok
    · have h := h.2 c
      refine am_iload_n (j := 0) d_LH_number_16 rfl rfl ?_
      refine am_iconst (v := (3 : Int32)) d_LH_number_17 (by decide) ?_
      refine am_ishr d_LH_number_18 ?_
      refine am_sipush (v := (30000 : Int32)) d_LH_number_19 (by decide) ?_
      obtain ⟨hc, h⟩ := h
      refine ak_SI (as := [.int (x0 >>> ((3 : Int32) &&& 31)), .int (30000 : Int32)]) (rest := []) d_LH_number_22 cw_LH_number_22 rfl rfl rfl (ct_LH_low hg hc) rfl rfl (Nat.le_of_ble_eq_true rfl) (by decide) (by decide) ?_
      refine am_sipush (v := (15000 : Int32)) d_LH_number_25 (by decide) ?_
      refine am_isub d_LH_number_28 ?_
      refine am_goto (tgt := 42) d_LH_number_29 (by decide) ?_
      exact am_iret d_LH_number_42 rfl rfl (by decide) (by decide) am_oI_ok
  · have h := h.1 c
    refine am_ldc (v := (-1000000 : Int32)) d_LH_number_7 aw_4_168 ?_
    refine am_goto (tgt := 42) d_LH_number_9 (by decide) ?_
    exact am_iret d_LH_number_42 rfl rfl (by decide) (by decide) am_oI_ok
theorem ct_LH_number {l : Launch} {g : am_Gl} (hg : g.2.2.2.1 = true) {s : am_M} {x0 : Int32} {x1 : Int32} (h : p_LH_number s x0 x1) : AC l g m_LH_number 207 s [.int x0, .int x1] ((am_oI s) (f_LH_number s x0 x1)) := am_enter ok_LH_number rfl (Nat.le_of_ble_eq_true rfl) rfl (fun ad0 => w_LH_number hg h)
theorem cw_LH_opens_3 : am_cv m_LH_opens m_CB_openForm 62 2 := ⟨⟨ok_CB_openForm, rfl, by decide +kernel, by decide, by decide⟩, aw_3_77, aw_3_78, aw_3_79⟩
def f_LH_opens  (s : am_M) (x1 : Int32) (x2 : Int32) : Nat × Int32 × am_M := (if (h_CB_openForm s x1 x2).1 = 0 then (0, (0 : Int32), (h_CB_openForm s x1 x2).2) else ((h_CB_openForm s x1 x2).1, 0, (h_CB_openForm s x1 x2).2))
def p_LH_opens  (s : am_M) (x1 : Int32) (x2 : Int32) : Prop := p_CB_openForm s x1 x2 ∧ ((((h_CB_openForm s x1 x2).1 = 0) → True))
set_option maxRecDepth 8000 in
theorem w_LH_opens {l : Launch} {g : am_Gl} (hg : g.2.2.2.1 = true) {ad0 : Nat → Nat} {s : am_M} {x1 : Int32} {x2 : Int32} (h : p_LH_opens s x1 x2) : AW l g m_LH_opens 207 ad0 (am_oE (f_LH_opens s x1 x2)) 0 0 207 s 0 [(0, .ref 0), (1, .int x1), (2, .int x2)] [] := by
  refine am_aload_n (j := 0) d_LH_opens_0 rfl rfl ?_
  refine am_iload_n (j := 1) d_LH_opens_1 rfl rfl ?_
  refine am_iload_n (j := 2) d_LH_opens_2 rfl rfl ?_
  obtain ⟨hc, h⟩ := h
  refine ak_V (F := am_oE) (as := [.int x1, .int x2]) (rest := []) d_LH_opens_3 cw_LH_opens_3 rfl rfl rfl (ch_CB_openForm hg hc) rfl rfl (by decide) sh_0 rfl (Nat.le_of_ble_eq_true rfl) (by decide) (by decide) am_oE_x (fun c => ?_)
  have h := h c
  refine am_iconst (v := (0 : Int32)) d_LH_opens_6 (by decide) ?_
  exact am_iret d_LH_opens_7 rfl rfl (by decide) (by decide) am_oE_ok
theorem ct_LH_opens {l : Launch} {g : am_Gl} (hg : g.2.2.2.1 = true) {s : am_M} {x1 : Int32} {x2 : Int32} (h : p_LH_opens s x1 x2) : AC l g m_LH_opens 207 s [.ref 0, .int x1, .int x2] (am_oE (f_LH_opens s x1 x2)) := am_enter ok_LH_opens rfl (Nat.le_of_ble_eq_true rfl) rfl (fun ad0 => w_LH_opens hg h)
theorem cw_LH_does_164 : am_cv m_LH_does m_CB_run 51 1 := ⟨⟨ok_CB_run, rfl, by decide +kernel, by decide, by decide⟩, aw_3_86, aw_3_87, aw_3_88⟩
theorem cw_LH_does_156 : am_cv m_LH_does m_CB_undo 48 0 := ⟨⟨ok_CB_undo, rfl, by decide +kernel, by decide, by decide⟩, aw_3_81, aw_3_82, aw_3_83⟩
theorem cw_LH_does_143 : am_cs m_LH_does m_LH_opens 42 3 := ⟨⟨ok_LH_opens, rfl, by decide +kernel, by decide, by decide⟩, aw_3_74, aw_3_75⟩
theorem cw_LH_does_120 : am_cv m_LH_does m_CB_remove 38 2 := ⟨⟨ok_CB_remove, rfl, by decide +kernel, by decide, by decide⟩, aw_3_41, aw_3_42, aw_3_43⟩
theorem cw_LH_does_105 : am_cv m_LH_does m_CB_enterInside 35 2 := ⟨⟨ok_CB_enterInside, rfl, by decide +kernel, by decide, by decide⟩, aw_3_10, aw_3_11, aw_3_12⟩
theorem cw_LH_does_90 : am_cv m_LH_does m_CB_enter 32 1 := ⟨⟨ok_CB_enter, rfl, by decide +kernel, by decide, by decide⟩, aw_2_125, aw_2_126, aw_2_127⟩
theorem cw_LH_does_76 : am_cv m_LH_does m_CB_type 28 2 := ⟨⟨ok_CB_type, rfl, by decide +kernel, by decide, by decide⟩, aw_2_117, aw_2_118, aw_2_119⟩
theorem cw_LH_does_62 : am_cv m_LH_does m_CB_order 24 1 := ⟨⟨ok_CB_order, rfl, by decide +kernel, by decide, by decide⟩, aw_2_113, aw_2_114, aw_2_115⟩
theorem cw_LH_does_49 : am_cv m_LH_does m_CB_addAct 21 0 := ⟨⟨ok_CB_addAct, rfl, by decide +kernel, by decide, by decide⟩, aw_2_109, aw_2_110, aw_2_111⟩
theorem cw_LH_does_37 : am_cv m_LH_does m_CB_addLink 18 3 := ⟨⟨ok_CB_addLink, rfl, by decide +kernel, by decide, by decide⟩, aw_2_97, aw_2_98, aw_2_99⟩
theorem cw_LH_does_21 : am_cv m_LH_does m_CB_addNumber 14 3 := ⟨⟨ok_CB_addNumber, rfl, by decide +kernel, by decide, by decide⟩, aw_2_30, aw_2_31, aw_2_32⟩
theorem cw_LH_does_5 : am_cv m_LH_does m_CB_addTable 8 0 := ⟨⟨ok_CB_addTable, rfl, by decide +kernel, by decide, by decide⟩, aw_1_199, aw_1_200, aw_1_201⟩
theorem hd_LH_does_105_1 : am_hd m_LH_does 105 (am_exn 1) 176 := ⟨[], ⟨0, 175, 176, 55⟩, [⟨0, 175, 181, 58⟩, ⟨0, 175, 186, 60⟩], rfl, by decide, rfl, by decide, aw_1_196, by decide +kernel, fun z h => absurd h List.not_mem_nil⟩
theorem hd_LH_does_105_2 : am_hd m_LH_does 105 (am_exn 2) 181 := ⟨[⟨0, 175, 176, 55⟩], ⟨0, 175, 181, 58⟩, [⟨0, 175, 186, 60⟩], rfl, by decide, rfl, by decide, aw_1_197, by decide +kernel, List.forall_mem_cons.mpr ⟨Or.inr ⟨by decide, "java/lang/IndexOutOfBoundsException", aw_1_196, by decide⟩, fun z h => absurd h List.not_mem_nil⟩⟩
theorem hd_LH_does_105_3 : am_hd m_LH_does 105 (am_exn 3) 186 := ⟨[⟨0, 175, 176, 55⟩, ⟨0, 175, 181, 58⟩], ⟨0, 175, 186, 60⟩, [], rfl, by decide, rfl, by decide, aw_1_198, by decide +kernel, List.forall_mem_cons.mpr ⟨Or.inr ⟨by decide, "java/lang/IndexOutOfBoundsException", aw_1_196, by decide⟩, List.forall_mem_cons.mpr ⟨Or.inr ⟨by decide, "java/lang/IllegalArgumentException", aw_1_197, by decide⟩, fun z h => absurd h List.not_mem_nil⟩⟩⟩
theorem hd_LH_does_120_1 : am_hd m_LH_does 120 (am_exn 1) 176 := ⟨[], ⟨0, 175, 176, 55⟩, [⟨0, 175, 181, 58⟩, ⟨0, 175, 186, 60⟩], rfl, by decide, rfl, by decide, aw_1_196, by decide +kernel, fun z h => absurd h List.not_mem_nil⟩
theorem hd_LH_does_120_2 : am_hd m_LH_does 120 (am_exn 2) 181 := ⟨[⟨0, 175, 176, 55⟩], ⟨0, 175, 181, 58⟩, [⟨0, 175, 186, 60⟩], rfl, by decide, rfl, by decide, aw_1_197, by decide +kernel, List.forall_mem_cons.mpr ⟨Or.inr ⟨by decide, "java/lang/IndexOutOfBoundsException", aw_1_196, by decide⟩, fun z h => absurd h List.not_mem_nil⟩⟩
theorem hd_LH_does_120_3 : am_hd m_LH_does 120 (am_exn 3) 186 := ⟨[⟨0, 175, 176, 55⟩, ⟨0, 175, 181, 58⟩], ⟨0, 175, 186, 60⟩, [], rfl, by decide, rfl, by decide, aw_1_198, by decide +kernel, List.forall_mem_cons.mpr ⟨Or.inr ⟨by decide, "java/lang/IndexOutOfBoundsException", aw_1_196, by decide⟩, List.forall_mem_cons.mpr ⟨Or.inr ⟨by decide, "java/lang/IllegalArgumentException", aw_1_197, by decide⟩, fun z h => absurd h List.not_mem_nil⟩⟩⟩
theorem hd_LH_does_143_1 : am_hd m_LH_does 143 (am_exn 1) 176 := ⟨[], ⟨0, 175, 176, 55⟩, [⟨0, 175, 181, 58⟩, ⟨0, 175, 186, 60⟩], rfl, by decide, rfl, by decide, aw_1_196, by decide +kernel, fun z h => absurd h List.not_mem_nil⟩
theorem hd_LH_does_143_2 : am_hd m_LH_does 143 (am_exn 2) 181 := ⟨[⟨0, 175, 176, 55⟩], ⟨0, 175, 181, 58⟩, [⟨0, 175, 186, 60⟩], rfl, by decide, rfl, by decide, aw_1_197, by decide +kernel, List.forall_mem_cons.mpr ⟨Or.inr ⟨by decide, "java/lang/IndexOutOfBoundsException", aw_1_196, by decide⟩, fun z h => absurd h List.not_mem_nil⟩⟩
theorem hd_LH_does_143_3 : am_hd m_LH_does 143 (am_exn 3) 186 := ⟨[⟨0, 175, 176, 55⟩, ⟨0, 175, 181, 58⟩], ⟨0, 175, 186, 60⟩, [], rfl, by decide, rfl, by decide, aw_1_198, by decide +kernel, List.forall_mem_cons.mpr ⟨Or.inr ⟨by decide, "java/lang/IndexOutOfBoundsException", aw_1_196, by decide⟩, List.forall_mem_cons.mpr ⟨Or.inr ⟨by decide, "java/lang/IllegalArgumentException", aw_1_197, by decide⟩, fun z h => absurd h List.not_mem_nil⟩⟩⟩
theorem hd_LH_does_156_1 : am_hd m_LH_does 156 (am_exn 1) 176 := ⟨[], ⟨0, 175, 176, 55⟩, [⟨0, 175, 181, 58⟩, ⟨0, 175, 186, 60⟩], rfl, by decide, rfl, by decide, aw_1_196, by decide +kernel, fun z h => absurd h List.not_mem_nil⟩
theorem hd_LH_does_156_2 : am_hd m_LH_does 156 (am_exn 2) 181 := ⟨[⟨0, 175, 176, 55⟩], ⟨0, 175, 181, 58⟩, [⟨0, 175, 186, 60⟩], rfl, by decide, rfl, by decide, aw_1_197, by decide +kernel, List.forall_mem_cons.mpr ⟨Or.inr ⟨by decide, "java/lang/IndexOutOfBoundsException", aw_1_196, by decide⟩, fun z h => absurd h List.not_mem_nil⟩⟩
theorem hd_LH_does_156_3 : am_hd m_LH_does 156 (am_exn 3) 186 := ⟨[⟨0, 175, 176, 55⟩, ⟨0, 175, 181, 58⟩], ⟨0, 175, 186, 60⟩, [], rfl, by decide, rfl, by decide, aw_1_198, by decide +kernel, List.forall_mem_cons.mpr ⟨Or.inr ⟨by decide, "java/lang/IndexOutOfBoundsException", aw_1_196, by decide⟩, List.forall_mem_cons.mpr ⟨Or.inr ⟨by decide, "java/lang/IllegalArgumentException", aw_1_197, by decide⟩, fun z h => absurd h List.not_mem_nil⟩⟩⟩
theorem hd_LH_does_164_1 : am_hd m_LH_does 164 (am_exn 1) 176 := ⟨[], ⟨0, 175, 176, 55⟩, [⟨0, 175, 181, 58⟩, ⟨0, 175, 186, 60⟩], rfl, by decide, rfl, by decide, aw_1_196, by decide +kernel, fun z h => absurd h List.not_mem_nil⟩
theorem hd_LH_does_164_2 : am_hd m_LH_does 164 (am_exn 2) 181 := ⟨[⟨0, 175, 176, 55⟩], ⟨0, 175, 181, 58⟩, [⟨0, 175, 186, 60⟩], rfl, by decide, rfl, by decide, aw_1_197, by decide +kernel, List.forall_mem_cons.mpr ⟨Or.inr ⟨by decide, "java/lang/IndexOutOfBoundsException", aw_1_196, by decide⟩, fun z h => absurd h List.not_mem_nil⟩⟩
theorem hd_LH_does_164_3 : am_hd m_LH_does 164 (am_exn 3) 186 := ⟨[⟨0, 175, 176, 55⟩, ⟨0, 175, 181, 58⟩], ⟨0, 175, 186, 60⟩, [], rfl, by decide, rfl, by decide, aw_1_198, by decide +kernel, List.forall_mem_cons.mpr ⟨Or.inr ⟨by decide, "java/lang/IndexOutOfBoundsException", aw_1_196, by decide⟩, List.forall_mem_cons.mpr ⟨Or.inr ⟨by decide, "java/lang/IllegalArgumentException", aw_1_197, by decide⟩, fun z h => absurd h List.not_mem_nil⟩⟩⟩
theorem hd_LH_does_21_1 : am_hd m_LH_does 21 (am_exn 1) 176 := ⟨[], ⟨0, 175, 176, 55⟩, [⟨0, 175, 181, 58⟩, ⟨0, 175, 186, 60⟩], rfl, by decide, rfl, by decide, aw_1_196, by decide +kernel, fun z h => absurd h List.not_mem_nil⟩
theorem hd_LH_does_21_2 : am_hd m_LH_does 21 (am_exn 2) 181 := ⟨[⟨0, 175, 176, 55⟩], ⟨0, 175, 181, 58⟩, [⟨0, 175, 186, 60⟩], rfl, by decide, rfl, by decide, aw_1_197, by decide +kernel, List.forall_mem_cons.mpr ⟨Or.inr ⟨by decide, "java/lang/IndexOutOfBoundsException", aw_1_196, by decide⟩, fun z h => absurd h List.not_mem_nil⟩⟩
theorem hd_LH_does_21_3 : am_hd m_LH_does 21 (am_exn 3) 186 := ⟨[⟨0, 175, 176, 55⟩, ⟨0, 175, 181, 58⟩], ⟨0, 175, 186, 60⟩, [], rfl, by decide, rfl, by decide, aw_1_198, by decide +kernel, List.forall_mem_cons.mpr ⟨Or.inr ⟨by decide, "java/lang/IndexOutOfBoundsException", aw_1_196, by decide⟩, List.forall_mem_cons.mpr ⟨Or.inr ⟨by decide, "java/lang/IllegalArgumentException", aw_1_197, by decide⟩, fun z h => absurd h List.not_mem_nil⟩⟩⟩
theorem hd_LH_does_37_1 : am_hd m_LH_does 37 (am_exn 1) 176 := ⟨[], ⟨0, 175, 176, 55⟩, [⟨0, 175, 181, 58⟩, ⟨0, 175, 186, 60⟩], rfl, by decide, rfl, by decide, aw_1_196, by decide +kernel, fun z h => absurd h List.not_mem_nil⟩
theorem hd_LH_does_37_2 : am_hd m_LH_does 37 (am_exn 2) 181 := ⟨[⟨0, 175, 176, 55⟩], ⟨0, 175, 181, 58⟩, [⟨0, 175, 186, 60⟩], rfl, by decide, rfl, by decide, aw_1_197, by decide +kernel, List.forall_mem_cons.mpr ⟨Or.inr ⟨by decide, "java/lang/IndexOutOfBoundsException", aw_1_196, by decide⟩, fun z h => absurd h List.not_mem_nil⟩⟩
theorem hd_LH_does_37_3 : am_hd m_LH_does 37 (am_exn 3) 186 := ⟨[⟨0, 175, 176, 55⟩, ⟨0, 175, 181, 58⟩], ⟨0, 175, 186, 60⟩, [], rfl, by decide, rfl, by decide, aw_1_198, by decide +kernel, List.forall_mem_cons.mpr ⟨Or.inr ⟨by decide, "java/lang/IndexOutOfBoundsException", aw_1_196, by decide⟩, List.forall_mem_cons.mpr ⟨Or.inr ⟨by decide, "java/lang/IllegalArgumentException", aw_1_197, by decide⟩, fun z h => absurd h List.not_mem_nil⟩⟩⟩
theorem hd_LH_does_49_1 : am_hd m_LH_does 49 (am_exn 1) 176 := ⟨[], ⟨0, 175, 176, 55⟩, [⟨0, 175, 181, 58⟩, ⟨0, 175, 186, 60⟩], rfl, by decide, rfl, by decide, aw_1_196, by decide +kernel, fun z h => absurd h List.not_mem_nil⟩
theorem hd_LH_does_49_2 : am_hd m_LH_does 49 (am_exn 2) 181 := ⟨[⟨0, 175, 176, 55⟩], ⟨0, 175, 181, 58⟩, [⟨0, 175, 186, 60⟩], rfl, by decide, rfl, by decide, aw_1_197, by decide +kernel, List.forall_mem_cons.mpr ⟨Or.inr ⟨by decide, "java/lang/IndexOutOfBoundsException", aw_1_196, by decide⟩, fun z h => absurd h List.not_mem_nil⟩⟩
theorem hd_LH_does_49_3 : am_hd m_LH_does 49 (am_exn 3) 186 := ⟨[⟨0, 175, 176, 55⟩, ⟨0, 175, 181, 58⟩], ⟨0, 175, 186, 60⟩, [], rfl, by decide, rfl, by decide, aw_1_198, by decide +kernel, List.forall_mem_cons.mpr ⟨Or.inr ⟨by decide, "java/lang/IndexOutOfBoundsException", aw_1_196, by decide⟩, List.forall_mem_cons.mpr ⟨Or.inr ⟨by decide, "java/lang/IllegalArgumentException", aw_1_197, by decide⟩, fun z h => absurd h List.not_mem_nil⟩⟩⟩
theorem hd_LH_does_5_1 : am_hd m_LH_does 5 (am_exn 1) 176 := ⟨[], ⟨0, 175, 176, 55⟩, [⟨0, 175, 181, 58⟩, ⟨0, 175, 186, 60⟩], rfl, by decide, rfl, by decide, aw_1_196, by decide +kernel, fun z h => absurd h List.not_mem_nil⟩
theorem hd_LH_does_5_2 : am_hd m_LH_does 5 (am_exn 2) 181 := ⟨[⟨0, 175, 176, 55⟩], ⟨0, 175, 181, 58⟩, [⟨0, 175, 186, 60⟩], rfl, by decide, rfl, by decide, aw_1_197, by decide +kernel, List.forall_mem_cons.mpr ⟨Or.inr ⟨by decide, "java/lang/IndexOutOfBoundsException", aw_1_196, by decide⟩, fun z h => absurd h List.not_mem_nil⟩⟩
theorem hd_LH_does_5_3 : am_hd m_LH_does 5 (am_exn 3) 186 := ⟨[⟨0, 175, 176, 55⟩, ⟨0, 175, 181, 58⟩], ⟨0, 175, 186, 60⟩, [], rfl, by decide, rfl, by decide, aw_1_198, by decide +kernel, List.forall_mem_cons.mpr ⟨Or.inr ⟨by decide, "java/lang/IndexOutOfBoundsException", aw_1_196, by decide⟩, List.forall_mem_cons.mpr ⟨Or.inr ⟨by decide, "java/lang/IllegalArgumentException", aw_1_197, by decide⟩, fun z h => absurd h List.not_mem_nil⟩⟩⟩
theorem hd_LH_does_62_1 : am_hd m_LH_does 62 (am_exn 1) 176 := ⟨[], ⟨0, 175, 176, 55⟩, [⟨0, 175, 181, 58⟩, ⟨0, 175, 186, 60⟩], rfl, by decide, rfl, by decide, aw_1_196, by decide +kernel, fun z h => absurd h List.not_mem_nil⟩
theorem hd_LH_does_62_2 : am_hd m_LH_does 62 (am_exn 2) 181 := ⟨[⟨0, 175, 176, 55⟩], ⟨0, 175, 181, 58⟩, [⟨0, 175, 186, 60⟩], rfl, by decide, rfl, by decide, aw_1_197, by decide +kernel, List.forall_mem_cons.mpr ⟨Or.inr ⟨by decide, "java/lang/IndexOutOfBoundsException", aw_1_196, by decide⟩, fun z h => absurd h List.not_mem_nil⟩⟩
theorem hd_LH_does_62_3 : am_hd m_LH_does 62 (am_exn 3) 186 := ⟨[⟨0, 175, 176, 55⟩, ⟨0, 175, 181, 58⟩], ⟨0, 175, 186, 60⟩, [], rfl, by decide, rfl, by decide, aw_1_198, by decide +kernel, List.forall_mem_cons.mpr ⟨Or.inr ⟨by decide, "java/lang/IndexOutOfBoundsException", aw_1_196, by decide⟩, List.forall_mem_cons.mpr ⟨Or.inr ⟨by decide, "java/lang/IllegalArgumentException", aw_1_197, by decide⟩, fun z h => absurd h List.not_mem_nil⟩⟩⟩
theorem hd_LH_does_76_1 : am_hd m_LH_does 76 (am_exn 1) 176 := ⟨[], ⟨0, 175, 176, 55⟩, [⟨0, 175, 181, 58⟩, ⟨0, 175, 186, 60⟩], rfl, by decide, rfl, by decide, aw_1_196, by decide +kernel, fun z h => absurd h List.not_mem_nil⟩
theorem hd_LH_does_76_2 : am_hd m_LH_does 76 (am_exn 2) 181 := ⟨[⟨0, 175, 176, 55⟩], ⟨0, 175, 181, 58⟩, [⟨0, 175, 186, 60⟩], rfl, by decide, rfl, by decide, aw_1_197, by decide +kernel, List.forall_mem_cons.mpr ⟨Or.inr ⟨by decide, "java/lang/IndexOutOfBoundsException", aw_1_196, by decide⟩, fun z h => absurd h List.not_mem_nil⟩⟩
theorem hd_LH_does_76_3 : am_hd m_LH_does 76 (am_exn 3) 186 := ⟨[⟨0, 175, 176, 55⟩, ⟨0, 175, 181, 58⟩], ⟨0, 175, 186, 60⟩, [], rfl, by decide, rfl, by decide, aw_1_198, by decide +kernel, List.forall_mem_cons.mpr ⟨Or.inr ⟨by decide, "java/lang/IndexOutOfBoundsException", aw_1_196, by decide⟩, List.forall_mem_cons.mpr ⟨Or.inr ⟨by decide, "java/lang/IllegalArgumentException", aw_1_197, by decide⟩, fun z h => absurd h List.not_mem_nil⟩⟩⟩
theorem hd_LH_does_90_1 : am_hd m_LH_does 90 (am_exn 1) 176 := ⟨[], ⟨0, 175, 176, 55⟩, [⟨0, 175, 181, 58⟩, ⟨0, 175, 186, 60⟩], rfl, by decide, rfl, by decide, aw_1_196, by decide +kernel, fun z h => absurd h List.not_mem_nil⟩
theorem hd_LH_does_90_2 : am_hd m_LH_does 90 (am_exn 2) 181 := ⟨[⟨0, 175, 176, 55⟩], ⟨0, 175, 181, 58⟩, [⟨0, 175, 186, 60⟩], rfl, by decide, rfl, by decide, aw_1_197, by decide +kernel, List.forall_mem_cons.mpr ⟨Or.inr ⟨by decide, "java/lang/IndexOutOfBoundsException", aw_1_196, by decide⟩, fun z h => absurd h List.not_mem_nil⟩⟩
theorem hd_LH_does_90_3 : am_hd m_LH_does 90 (am_exn 3) 186 := ⟨[⟨0, 175, 176, 55⟩, ⟨0, 175, 181, 58⟩], ⟨0, 175, 186, 60⟩, [], rfl, by decide, rfl, by decide, aw_1_198, by decide +kernel, List.forall_mem_cons.mpr ⟨Or.inr ⟨by decide, "java/lang/IndexOutOfBoundsException", aw_1_196, by decide⟩, List.forall_mem_cons.mpr ⟨Or.inr ⟨by decide, "java/lang/IllegalArgumentException", aw_1_197, by decide⟩, fun z h => absurd h List.not_mem_nil⟩⟩⟩
def f_LH_does  (s : am_M) (x1 : Int32) (x2 : Int32) (x3 : Int32) (x4 : Int32) : Int32 × am_M := (if x1 = 0 then (if (h_CB_addTable s).1 = 0 then ((h_CB_addTable s).2.1, (h_CB_addTable s).2.2) else (if (h_CB_addTable s).1 = 1 then ((-9999999 : Int32), (h_CB_addTable s).2.2) else (if (h_CB_addTable s).1 = 2 then ((-9999999 : Int32), (h_CB_addTable s).2.2) else ((-9999999 : Int32), (h_CB_addTable s).2.2)))) else (if x1 = (1 : Int32) then (if (h_CB_addNumber s x2 x3 x4).1 = 0 then ((h_CB_addNumber s x2 x3 x4).2.1, (h_CB_addNumber s x2 x3 x4).2.2) else (if (h_CB_addNumber s x2 x3 x4).1 = 1 then ((-9999999 : Int32), (h_CB_addNumber s x2 x3 x4).2.2) else (if (h_CB_addNumber s x2 x3 x4).1 = 2 then ((-9999999 : Int32), (h_CB_addNumber s x2 x3 x4).2.2) else ((-9999999 : Int32), (h_CB_addNumber s x2 x3 x4).2.2)))) else (if x1 = (2 : Int32) then (if (h_CB_addLink s x2 x3 x4).1 = 0 then ((h_CB_addLink s x2 x3 x4).2.1, (h_CB_addLink s x2 x3 x4).2.2) else (if (h_CB_addLink s x2 x3 x4).1 = 1 then ((-9999999 : Int32), (h_CB_addLink s x2 x3 x4).2.2) else (if (h_CB_addLink s x2 x3 x4).1 = 2 then ((-9999999 : Int32), (h_CB_addLink s x2 x3 x4).2.2) else ((-9999999 : Int32), (h_CB_addLink s x2 x3 x4).2.2)))) else (if x1 = (3 : Int32) then (if (h_CB_addAct s).1 = 0 then ((h_CB_addAct s).2.1, (h_CB_addAct s).2.2) else (if (h_CB_addAct s).1 = 1 then ((-9999999 : Int32), (h_CB_addAct s).2.2) else (if (h_CB_addAct s).1 = 2 then ((-9999999 : Int32), (h_CB_addAct s).2.2) else ((-9999999 : Int32), (h_CB_addAct s).2.2)))) else (if x1 = (4 : Int32) then (if (f_CB_order s x2).1 = 0 then ((f_CB_order s x2).2.1, (f_CB_order s x2).2.2) else (if (f_CB_order s x2).1 = 1 then ((-9999999 : Int32), (f_CB_order s x2).2.2) else (if (f_CB_order s x2).1 = 2 then ((-9999999 : Int32), (f_CB_order s x2).2.2) else ((-9999999 : Int32), (f_CB_order s x2).2.2)))) else (if x1 = (5 : Int32) then (if (h_CB_type s x2 x3).1 = 0 then ((h_CB_type s x2 x3).2.1, (h_CB_type s x2 x3).2.2) else (if (h_CB_type s x2 x3).1 = 1 then ((-9999999 : Int32), (h_CB_type s x2 x3).2.2) else (if (h_CB_type s x2 x3).1 = 2 then ((-9999999 : Int32), (h_CB_type s x2 x3).2.2) else ((-9999999 : Int32), (h_CB_type s x2 x3).2.2)))) else (if x1 = (6 : Int32) then (if (h_CB_enter s x2).1 = 0 then ((h_CB_enter s x2).2.1, (h_CB_enter s x2).2.2) else (if (h_CB_enter s x2).1 = 1 then ((-9999999 : Int32), (h_CB_enter s x2).2.2) else (if (h_CB_enter s x2).1 = 2 then ((-9999999 : Int32), (h_CB_enter s x2).2.2) else ((-9999999 : Int32), (h_CB_enter s x2).2.2)))) else (if x1 = (7 : Int32) then (if (h_CB_enterInside s x2 x3).1 = 0 then ((h_CB_enterInside s x2 x3).2.1, (h_CB_enterInside s x2 x3).2.2) else (if (h_CB_enterInside s x2 x3).1 = 1 then ((-9999999 : Int32), (h_CB_enterInside s x2 x3).2.2) else (if (h_CB_enterInside s x2 x3).1 = 2 then ((-9999999 : Int32), (h_CB_enterInside s x2 x3).2.2) else ((-9999999 : Int32), (h_CB_enterInside s x2 x3).2.2)))) else (if x1 = (8 : Int32) then (if (h_CB_remove s x2 x3).1 = 0 then (if (h_CB_remove s x2 x3).2.1 = 0 then ((0 : Int32), (h_CB_remove s x2 x3).2.2) else ((1 : Int32), (h_CB_remove s x2 x3).2.2)) else (if (h_CB_remove s x2 x3).1 = 1 then ((-9999999 : Int32), (h_CB_remove s x2 x3).2.2) else (if (h_CB_remove s x2 x3).1 = 2 then ((-9999999 : Int32), (h_CB_remove s x2 x3).2.2) else ((-9999999 : Int32), (h_CB_remove s x2 x3).2.2)))) else (if x1 = (9 : Int32) then (if (f_LH_opens s x2 x3).1 = 0 then ((f_LH_opens s x2 x3).2.1, (f_LH_opens s x2 x3).2.2) else (if (f_LH_opens s x2 x3).1 = 1 then ((-9999999 : Int32), (f_LH_opens s x2 x3).2.2) else (if (f_LH_opens s x2 x3).1 = 2 then ((-9999999 : Int32), (f_LH_opens s x2 x3).2.2) else ((-9999999 : Int32), (f_LH_opens s x2 x3).2.2)))) else (if x1 = (10 : Int32) then (if (h_CB_undo s).1 = 0 then ((h_CB_undo s).2.1, (h_CB_undo s).2.2) else (if (h_CB_undo s).1 = 1 then ((-9999999 : Int32), (h_CB_undo s).2.2) else (if (h_CB_undo s).1 = 2 then ((-9999999 : Int32), (h_CB_undo s).2.2) else ((-9999999 : Int32), (h_CB_undo s).2.2)))) else (if (h_CB_run s x2).1 = 0 then (if (h_CB_run s x2).2.1 = 0 then ((0 : Int32), (h_CB_run s x2).2.2) else ((1 : Int32), (h_CB_run s x2).2.2)) else (if (h_CB_run s x2).1 = 1 then ((-9999999 : Int32), (h_CB_run s x2).2.2) else (if (h_CB_run s x2).1 = 2 then ((-9999999 : Int32), (h_CB_run s x2).2.2) else ((-9999999 : Int32), (h_CB_run s x2).2.2)))))))))))))))
def p_LH_does  (s : am_M) (x1 : Int32) (x2 : Int32) (x3 : Int32) (x4 : Int32) : Prop := ((x1 = 0) → ((h_CB_addTable s).1 = 0 ∨ (h_CB_addTable s).1 = 1 ∨ (h_CB_addTable s).1 = 2 ∨ (h_CB_addTable s).1 = 3) ∧ ((((h_CB_addTable s).1 = 0) → True) ∧ (¬ ((h_CB_addTable s).1 = 0) → (((h_CB_addTable s).1 = 1) → True) ∧ (¬ ((h_CB_addTable s).1 = 1) → (((h_CB_addTable s).1 = 2) → True) ∧ (¬ ((h_CB_addTable s).1 = 2) → True))))) ∧ (¬ (x1 = 0) → ((x1 = (1 : Int32)) → p_CB_addNumber s x2 x3 x4 ∧ (((h_CB_addNumber s x2 x3 x4).1 = 0 ∨ (h_CB_addNumber s x2 x3 x4).1 = 1 ∨ (h_CB_addNumber s x2 x3 x4).1 = 2 ∨ (h_CB_addNumber s x2 x3 x4).1 = 3) ∧ ((((h_CB_addNumber s x2 x3 x4).1 = 0) → True) ∧ (¬ ((h_CB_addNumber s x2 x3 x4).1 = 0) → (((h_CB_addNumber s x2 x3 x4).1 = 1) → True) ∧ (¬ ((h_CB_addNumber s x2 x3 x4).1 = 1) → (((h_CB_addNumber s x2 x3 x4).1 = 2) → True) ∧ (¬ ((h_CB_addNumber s x2 x3 x4).1 = 2) → True)))))) ∧ (¬ (x1 = (1 : Int32)) → ((x1 = (2 : Int32)) → p_CB_addLink s x2 x3 x4 ∧ (((h_CB_addLink s x2 x3 x4).1 = 0 ∨ (h_CB_addLink s x2 x3 x4).1 = 1 ∨ (h_CB_addLink s x2 x3 x4).1 = 2 ∨ (h_CB_addLink s x2 x3 x4).1 = 3) ∧ ((((h_CB_addLink s x2 x3 x4).1 = 0) → True) ∧ (¬ ((h_CB_addLink s x2 x3 x4).1 = 0) → (((h_CB_addLink s x2 x3 x4).1 = 1) → True) ∧ (¬ ((h_CB_addLink s x2 x3 x4).1 = 1) → (((h_CB_addLink s x2 x3 x4).1 = 2) → True) ∧ (¬ ((h_CB_addLink s x2 x3 x4).1 = 2) → True)))))) ∧ (¬ (x1 = (2 : Int32)) → ((x1 = (3 : Int32)) → ((h_CB_addAct s).1 = 0 ∨ (h_CB_addAct s).1 = 1 ∨ (h_CB_addAct s).1 = 2 ∨ (h_CB_addAct s).1 = 3) ∧ ((((h_CB_addAct s).1 = 0) → True) ∧ (¬ ((h_CB_addAct s).1 = 0) → (((h_CB_addAct s).1 = 1) → True) ∧ (¬ ((h_CB_addAct s).1 = 1) → (((h_CB_addAct s).1 = 2) → True) ∧ (¬ ((h_CB_addAct s).1 = 2) → True))))) ∧ (¬ (x1 = (3 : Int32)) → ((x1 = (4 : Int32)) → p_CB_order s x2 ∧ (((f_CB_order s x2).1 = 0 ∨ (f_CB_order s x2).1 = 1 ∨ (f_CB_order s x2).1 = 2 ∨ (f_CB_order s x2).1 = 3) ∧ ((((f_CB_order s x2).1 = 0) → True) ∧ (¬ ((f_CB_order s x2).1 = 0) → (((f_CB_order s x2).1 = 1) → True) ∧ (¬ ((f_CB_order s x2).1 = 1) → (((f_CB_order s x2).1 = 2) → True) ∧ (¬ ((f_CB_order s x2).1 = 2) → True)))))) ∧ (¬ (x1 = (4 : Int32)) → ((x1 = (5 : Int32)) → p_CB_type s x2 x3 ∧ (((h_CB_type s x2 x3).1 = 0 ∨ (h_CB_type s x2 x3).1 = 1 ∨ (h_CB_type s x2 x3).1 = 2 ∨ (h_CB_type s x2 x3).1 = 3) ∧ ((((h_CB_type s x2 x3).1 = 0) → True) ∧ (¬ ((h_CB_type s x2 x3).1 = 0) → (((h_CB_type s x2 x3).1 = 1) → True) ∧ (¬ ((h_CB_type s x2 x3).1 = 1) → (((h_CB_type s x2 x3).1 = 2) → True) ∧ (¬ ((h_CB_type s x2 x3).1 = 2) → True)))))) ∧ (¬ (x1 = (5 : Int32)) → ((x1 = (6 : Int32)) → p_CB_enter s x2 ∧ (((h_CB_enter s x2).1 = 0 ∨ (h_CB_enter s x2).1 = 1 ∨ (h_CB_enter s x2).1 = 2 ∨ (h_CB_enter s x2).1 = 3) ∧ ((((h_CB_enter s x2).1 = 0) → True) ∧ (¬ ((h_CB_enter s x2).1 = 0) → (((h_CB_enter s x2).1 = 1) → True) ∧ (¬ ((h_CB_enter s x2).1 = 1) → (((h_CB_enter s x2).1 = 2) → True) ∧ (¬ ((h_CB_enter s x2).1 = 2) → True)))))) ∧ (¬ (x1 = (6 : Int32)) → ((x1 = (7 : Int32)) → p_CB_enterInside s x2 x3 ∧ (((h_CB_enterInside s x2 x3).1 = 0 ∨ (h_CB_enterInside s x2 x3).1 = 1 ∨ (h_CB_enterInside s x2 x3).1 = 2 ∨ (h_CB_enterInside s x2 x3).1 = 3) ∧ ((((h_CB_enterInside s x2 x3).1 = 0) → True) ∧ (¬ ((h_CB_enterInside s x2 x3).1 = 0) → (((h_CB_enterInside s x2 x3).1 = 1) → True) ∧ (¬ ((h_CB_enterInside s x2 x3).1 = 1) → (((h_CB_enterInside s x2 x3).1 = 2) → True) ∧ (¬ ((h_CB_enterInside s x2 x3).1 = 2) → True)))))) ∧ (¬ (x1 = (7 : Int32)) → ((x1 = (8 : Int32)) → p_CB_remove s x2 x3 ∧ (((h_CB_remove s x2 x3).1 = 0 ∨ (h_CB_remove s x2 x3).1 = 1 ∨ (h_CB_remove s x2 x3).1 = 2 ∨ (h_CB_remove s x2 x3).1 = 3) ∧ ((((h_CB_remove s x2 x3).1 = 0) → (((h_CB_remove s x2 x3).2.1 = 0) → True) ∧ (¬ ((h_CB_remove s x2 x3).2.1 = 0) → True)) ∧ (¬ ((h_CB_remove s x2 x3).1 = 0) → (((h_CB_remove s x2 x3).1 = 1) → True) ∧ (¬ ((h_CB_remove s x2 x3).1 = 1) → (((h_CB_remove s x2 x3).1 = 2) → True) ∧ (¬ ((h_CB_remove s x2 x3).1 = 2) → True)))))) ∧ (¬ (x1 = (8 : Int32)) → ((x1 = (9 : Int32)) → p_LH_opens s x2 x3 ∧ (((f_LH_opens s x2 x3).1 = 0 ∨ (f_LH_opens s x2 x3).1 = 1 ∨ (f_LH_opens s x2 x3).1 = 2 ∨ (f_LH_opens s x2 x3).1 = 3) ∧ ((((f_LH_opens s x2 x3).1 = 0) → True) ∧ (¬ ((f_LH_opens s x2 x3).1 = 0) → (((f_LH_opens s x2 x3).1 = 1) → True) ∧ (¬ ((f_LH_opens s x2 x3).1 = 1) → (((f_LH_opens s x2 x3).1 = 2) → True) ∧ (¬ ((f_LH_opens s x2 x3).1 = 2) → True)))))) ∧ (¬ (x1 = (9 : Int32)) → ((x1 = (10 : Int32)) → p_CB_undo s ∧ (((h_CB_undo s).1 = 0 ∨ (h_CB_undo s).1 = 1 ∨ (h_CB_undo s).1 = 2 ∨ (h_CB_undo s).1 = 3) ∧ ((((h_CB_undo s).1 = 0) → True) ∧ (¬ ((h_CB_undo s).1 = 0) → (((h_CB_undo s).1 = 1) → True) ∧ (¬ ((h_CB_undo s).1 = 1) → (((h_CB_undo s).1 = 2) → True) ∧ (¬ ((h_CB_undo s).1 = 2) → True)))))) ∧ (¬ (x1 = (10 : Int32)) → p_CB_run s x2 ∧ (((h_CB_run s x2).1 = 0 ∨ (h_CB_run s x2).1 = 1 ∨ (h_CB_run s x2).1 = 2 ∨ (h_CB_run s x2).1 = 3) ∧ ((((h_CB_run s x2).1 = 0) → (((h_CB_run s x2).2.1 = 0) → True) ∧ (¬ ((h_CB_run s x2).2.1 = 0) → True)) ∧ (¬ ((h_CB_run s x2).1 = 0) → (((h_CB_run s x2).1 = 1) → True) ∧ (¬ ((h_CB_run s x2).1 = 1) → (((h_CB_run s x2).1 = 2) → True) ∧ (¬ ((h_CB_run s x2).1 = 2) → True))))))))))))))))
set_option maxRecDepth 8000 in
theorem w_LH_does {l : Launch} {g : am_Gl} (hg : g.2.2.2.1 = true) {ad0 : Nat → Nat} {s : am_M} {x1 : Int32} {x2 : Int32} {x3 : Int32} {x4 : Int32} (h : p_LH_does s x1 x2 x3 x4) : AW l g m_LH_does 207 ad0 (am_oC (f_LH_does s x1 x2 x3 x4)) 0 0 207 s 0 [(0, .ref 0), (1, .int x1), (2, .int x2), (3, .int x3), (4, .int x4)] [] := by
  refine am_iload_n (j := 1) d_LH_does_0 rfl rfl ?_
  refine ai_ne (F := am_oC) (tgt := 11) d_LH_does_1 (by decide) (fun c => ?_) (fun c => ?_)
  · have h := h.2 c
    refine am_iload_n (j := 1) d_LH_does_11 rfl rfl ?_
    refine am_iconst (v := (1 : Int32)) d_LH_does_12 (by decide) ?_
    refine aj_ne (F := am_oC) (tgt := 27) d_LH_does_13 (by decide) (fun c => ?_) (fun c => ?_)
    · have h := h.2 c
      refine am_iload_n (j := 1) d_LH_does_27 rfl rfl ?_
      refine am_iconst (v := (2 : Int32)) d_LH_does_28 (by decide) ?_
      refine aj_ne (F := am_oC) (tgt := 43) d_LH_does_29 (by decide) (fun c => ?_) (fun c => ?_)
      · have h := h.2 c
        refine am_iload_n (j := 1) d_LH_does_43 rfl rfl ?_
        refine am_iconst (v := (3 : Int32)) d_LH_does_44 (by decide) ?_
        refine aj_ne (F := am_oC) (tgt := 55) d_LH_does_45 (by decide) (fun c => ?_) (fun c => ?_)
        · have h := h.2 c
          refine am_iload_n (j := 1) d_LH_does_55 rfl rfl ?_
          refine am_iconst (v := (4 : Int32)) d_LH_does_56 (by decide) ?_
          refine aj_ne (F := am_oC) (tgt := 68) d_LH_does_57 (by decide) (fun c => ?_) (fun c => ?_)
          · have h := h.2 c
            refine am_iload_n (j := 1) d_LH_does_68 rfl rfl ?_
            refine am_iconst (v := (5 : Int32)) d_LH_does_69 (by decide) ?_
            refine aj_ne (F := am_oC) (tgt := 82) d_LH_does_70 (by decide) (fun c => ?_) (fun c => ?_)
            · have h := h.2 c
              refine am_iload_n (j := 1) d_LH_does_82 rfl rfl ?_
              refine am_bipush (v := (6 : Int32)) d_LH_does_83 (by decide) ?_
              refine aj_ne (F := am_oC) (tgt := 96) d_LH_does_85 (by decide) (fun c => ?_) (fun c => ?_)
              · have h := h.2 c
                refine am_iload_n (j := 1) d_LH_does_96 rfl rfl ?_
                refine am_bipush (v := (7 : Int32)) d_LH_does_97 (by decide) ?_
                refine aj_ne (F := am_oC) (tgt := 111) d_LH_does_99 (by decide) (fun c => ?_) (fun c => ?_)
                · have h := h.2 c
                  refine am_iload_n (j := 1) d_LH_does_111 rfl rfl ?_
                  refine am_bipush (v := (8 : Int32)) d_LH_does_112 (by decide) ?_
                  refine aj_ne (F := am_oC) (tgt := 134) d_LH_does_114 (by decide) (fun c => ?_) (fun c => ?_)
                  · have h := h.2 c
                    refine am_iload_n (j := 1) d_LH_does_134 rfl rfl ?_
                    refine am_bipush (v := (9 : Int32)) d_LH_does_135 (by decide) ?_
                    refine aj_ne (F := am_oC) (tgt := 149) d_LH_does_137 (by decide) (fun c => ?_) (fun c => ?_)
                    · have h := h.2 c
                      refine am_iload_n (j := 1) d_LH_does_149 rfl rfl ?_
                      refine am_bipush (v := (10 : Int32)) d_LH_does_150 (by decide) ?_
                      refine aj_ne (F := am_oC) (tgt := 162) d_LH_does_152 (by decide) (fun c => ?_) (fun c => ?_)
                      · have h := h.2 c
                        refine am_aload_n (j := 0) d_LH_does_162 rfl rfl ?_
                        refine am_iload_n (j := 2) d_LH_does_163 rfl rfl ?_
                        obtain ⟨hc, h⟩ := h
                        obtain ⟨hz, h⟩ := h
                        refine am_caseN (F := am_oC) (q := (h_CB_run s x2).1) (c := 0) (fun c0 => ?_) (fun c0 => ?_)
                        · have h := h.1 c0
                          refine ak_EH (as := [.int x2]) (rest := []) d_LH_does_164 cw_LH_does_164 rfl (ch_CB_run hg hc) rfl rfl (by decide) sh_0 rfl (Nat.le_of_ble_eq_true rfl) (by decide) (by decide) (fun n => absurd c0 n) (fun _ => ?_)
                          refine ai_eq (F := am_oC) (tgt := 174) d_LH_does_167 (by decide) (fun c => ?_) (fun c => ?_)
                          · have h := h.1 c
                            refine am_iconst (v := (0 : Int32)) d_LH_does_174 (by decide) ?_
                            exact am_iret d_LH_does_175 rfl rfl (by decide) (by decide) am_oC_ok
                          · have h := h.2 c
                            refine am_iconst (v := (1 : Int32)) d_LH_does_170 (by decide) ?_
                            refine am_goto (tgt := 175) d_LH_does_171 (by decide) ?_
                            exact am_iret d_LH_does_175 rfl rfl (by decide) (by decide) am_oC_ok
                        · have h := h.2 c0
                          refine am_caseN (F := am_oC) (q := (h_CB_run s x2).1) (c := 1) (fun c1 => ?_) (fun c1 => ?_)
                          · have h := h.1 c1
                            refine ak_EH (as := [.int x2]) (rest := []) d_LH_does_164 cw_LH_does_164 rfl (ch_CB_run hg hc) rfl rfl (by decide) sh_0 rfl (Nat.le_of_ble_eq_true rfl) (by decide) (by decide) (fun _ => ⟨176, by rw [c1]; exact hd_LH_does_164_1, fun q9 => ?_⟩) (fun n => absurd n c0)
                            refine am_astoreS (lv2 := [(5, .retAddr q9), (0, .ref 0), (1, .int x1), (2, .int x2), (3, .int x3), (4, .int x4)]) d_LH_does_176 (by decide) rfl ?_
                            refine am_ldc (v := (-9999999 : Int32)) d_LH_does_178 aw_3_220 ?_
                            exact am_iret d_LH_does_180 rfl rfl (by decide) (by decide) am_oC_ok
                          · have h := h.2 c1
                            refine am_caseN (F := am_oC) (q := (h_CB_run s x2).1) (c := 2) (fun c2 => ?_) (fun c2 => ?_)
                            · have h := h.1 c2
                              refine ak_EH (as := [.int x2]) (rest := []) d_LH_does_164 cw_LH_does_164 rfl (ch_CB_run hg hc) rfl rfl (by decide) sh_0 rfl (Nat.le_of_ble_eq_true rfl) (by decide) (by decide) (fun _ => ⟨181, by rw [c2]; exact hd_LH_does_164_2, fun q9 => ?_⟩) (fun n => absurd n c0)
                              refine am_astoreS (lv2 := [(5, .retAddr q9), (0, .ref 0), (1, .int x1), (2, .int x2), (3, .int x3), (4, .int x4)]) d_LH_does_181 (by decide) rfl ?_
                              refine am_ldc (v := (-9999999 : Int32)) d_LH_does_183 aw_3_220 ?_
                              exact am_iret d_LH_does_185 rfl rfl (by decide) (by decide) am_oC_ok
                            · have h := h.2 c2
                              have c3 : (h_CB_run s x2).1 = 3 := by rcases hz with z | z | z | z <;> first | exact z | exact absurd z c0 | exact absurd z c1 | exact absurd z c2
                              refine ak_EH (as := [.int x2]) (rest := []) d_LH_does_164 cw_LH_does_164 rfl (ch_CB_run hg hc) rfl rfl (by decide) sh_0 rfl (Nat.le_of_ble_eq_true rfl) (by decide) (by decide) (fun _ => ⟨186, by rw [c3]; exact hd_LH_does_164_3, fun q9 => ?_⟩) (fun n => absurd n c0)
                              refine am_astoreS (lv2 := [(5, .retAddr q9), (0, .ref 0), (1, .int x1), (2, .int x2), (3, .int x3), (4, .int x4)]) d_LH_does_186 (by decide) rfl ?_
                              refine am_ldc (v := (-9999999 : Int32)) d_LH_does_188 aw_3_220 ?_
                              exact am_iret d_LH_does_190 rfl rfl (by decide) (by decide) am_oC_ok
                      · have h := h.1 c
                        refine am_aload_n (j := 0) d_LH_does_155 rfl rfl ?_
                        obtain ⟨hc, h⟩ := h
                        obtain ⟨hz, h⟩ := h
                        refine am_caseN (F := am_oC) (q := (h_CB_undo s).1) (c := 0) (fun c0 => ?_) (fun c0 => ?_)
                        · have h := h.1 c0
                          refine ak_EH (as := []) (rest := []) d_LH_does_156 cw_LH_does_156 rfl (ch_CB_undo hg hc) rfl rfl (by decide) sh_0 rfl (Nat.le_of_ble_eq_true rfl) (by decide) (by decide) (fun n => absurd c0 n) (fun _ => ?_)
                          refine am_goto (tgt := 175) d_LH_does_159 (by decide) ?_
                          exact am_iret d_LH_does_175 rfl rfl (by decide) (by decide) am_oC_ok
                        · have h := h.2 c0
                          refine am_caseN (F := am_oC) (q := (h_CB_undo s).1) (c := 1) (fun c1 => ?_) (fun c1 => ?_)
                          · have h := h.1 c1
                            refine ak_EH (as := []) (rest := []) d_LH_does_156 cw_LH_does_156 rfl (ch_CB_undo hg hc) rfl rfl (by decide) sh_0 rfl (Nat.le_of_ble_eq_true rfl) (by decide) (by decide) (fun _ => ⟨176, by rw [c1]; exact hd_LH_does_156_1, fun q9 => ?_⟩) (fun n => absurd n c0)
                            refine am_astoreS (lv2 := [(5, .retAddr q9), (0, .ref 0), (1, .int x1), (2, .int x2), (3, .int x3), (4, .int x4)]) d_LH_does_176 (by decide) rfl ?_
                            refine am_ldc (v := (-9999999 : Int32)) d_LH_does_178 aw_3_220 ?_
                            exact am_iret d_LH_does_180 rfl rfl (by decide) (by decide) am_oC_ok
                          · have h := h.2 c1
                            refine am_caseN (F := am_oC) (q := (h_CB_undo s).1) (c := 2) (fun c2 => ?_) (fun c2 => ?_)
                            · have h := h.1 c2
                              refine ak_EH (as := []) (rest := []) d_LH_does_156 cw_LH_does_156 rfl (ch_CB_undo hg hc) rfl rfl (by decide) sh_0 rfl (Nat.le_of_ble_eq_true rfl) (by decide) (by decide) (fun _ => ⟨181, by rw [c2]; exact hd_LH_does_156_2, fun q9 => ?_⟩) (fun n => absurd n c0)
                              refine am_astoreS (lv2 := [(5, .retAddr q9), (0, .ref 0), (1, .int x1), (2, .int x2), (3, .int x3), (4, .int x4)]) d_LH_does_181 (by decide) rfl ?_
                              refine am_ldc (v := (-9999999 : Int32)) d_LH_does_183 aw_3_220 ?_
                              exact am_iret d_LH_does_185 rfl rfl (by decide) (by decide) am_oC_ok
                            · have h := h.2 c2
                              have c3 : (h_CB_undo s).1 = 3 := by rcases hz with z | z | z | z <;> first | exact z | exact absurd z c0 | exact absurd z c1 | exact absurd z c2
                              refine ak_EH (as := []) (rest := []) d_LH_does_156 cw_LH_does_156 rfl (ch_CB_undo hg hc) rfl rfl (by decide) sh_0 rfl (Nat.le_of_ble_eq_true rfl) (by decide) (by decide) (fun _ => ⟨186, by rw [c3]; exact hd_LH_does_156_3, fun q9 => ?_⟩) (fun n => absurd n c0)
                              refine am_astoreS (lv2 := [(5, .retAddr q9), (0, .ref 0), (1, .int x1), (2, .int x2), (3, .int x3), (4, .int x4)]) d_LH_does_186 (by decide) rfl ?_
                              refine am_ldc (v := (-9999999 : Int32)) d_LH_does_188 aw_3_220 ?_
                              exact am_iret d_LH_does_190 rfl rfl (by decide) (by decide) am_oC_ok
                    · have h := h.1 c
                      refine am_aload_n (j := 0) d_LH_does_140 rfl rfl ?_
                      refine am_iload_n (j := 2) d_LH_does_141 rfl rfl ?_
                      refine am_iload_n (j := 3) d_LH_does_142 rfl rfl ?_
                      obtain ⟨hc, h⟩ := h
                      obtain ⟨hz, h⟩ := h
                      refine am_caseN (F := am_oC) (q := (f_LH_opens s x2 x3).1) (c := 0) (fun c0 => ?_) (fun c0 => ?_)
                      · have h := h.1 c0
                        refine ak_EHS (as := [.ref 0, .int x2, .int x3]) (rest := []) d_LH_does_143 cw_LH_does_143 rfl (ct_LH_opens hg hc) rfl rfl (Nat.le_of_ble_eq_true rfl) (by decide) (by decide) (fun n => absurd c0 n) (fun _ => ?_)
                        refine am_goto (tgt := 175) d_LH_does_146 (by decide) ?_
                        exact am_iret d_LH_does_175 rfl rfl (by decide) (by decide) am_oC_ok
                      · have h := h.2 c0
                        refine am_caseN (F := am_oC) (q := (f_LH_opens s x2 x3).1) (c := 1) (fun c1 => ?_) (fun c1 => ?_)
                        · have h := h.1 c1
                          refine ak_EHS (as := [.ref 0, .int x2, .int x3]) (rest := []) d_LH_does_143 cw_LH_does_143 rfl (ct_LH_opens hg hc) rfl rfl (Nat.le_of_ble_eq_true rfl) (by decide) (by decide) (fun _ => ⟨176, by rw [c1]; exact hd_LH_does_143_1, fun q9 => ?_⟩) (fun n => absurd n c0)
                          refine am_astoreS (lv2 := [(5, .retAddr q9), (0, .ref 0), (1, .int x1), (2, .int x2), (3, .int x3), (4, .int x4)]) d_LH_does_176 (by decide) rfl ?_
                          refine am_ldc (v := (-9999999 : Int32)) d_LH_does_178 aw_3_220 ?_
                          exact am_iret d_LH_does_180 rfl rfl (by decide) (by decide) am_oC_ok
                        · have h := h.2 c1
                          refine am_caseN (F := am_oC) (q := (f_LH_opens s x2 x3).1) (c := 2) (fun c2 => ?_) (fun c2 => ?_)
                          · have h := h.1 c2
                            refine ak_EHS (as := [.ref 0, .int x2, .int x3]) (rest := []) d_LH_does_143 cw_LH_does_143 rfl (ct_LH_opens hg hc) rfl rfl (Nat.le_of_ble_eq_true rfl) (by decide) (by decide) (fun _ => ⟨181, by rw [c2]; exact hd_LH_does_143_2, fun q9 => ?_⟩) (fun n => absurd n c0)
                            refine am_astoreS (lv2 := [(5, .retAddr q9), (0, .ref 0), (1, .int x1), (2, .int x2), (3, .int x3), (4, .int x4)]) d_LH_does_181 (by decide) rfl ?_
                            refine am_ldc (v := (-9999999 : Int32)) d_LH_does_183 aw_3_220 ?_
                            exact am_iret d_LH_does_185 rfl rfl (by decide) (by decide) am_oC_ok
                          · have h := h.2 c2
                            have c3 : (f_LH_opens s x2 x3).1 = 3 := by rcases hz with z | z | z | z <;> first | exact z | exact absurd z c0 | exact absurd z c1 | exact absurd z c2
                            refine ak_EHS (as := [.ref 0, .int x2, .int x3]) (rest := []) d_LH_does_143 cw_LH_does_143 rfl (ct_LH_opens hg hc) rfl rfl (Nat.le_of_ble_eq_true rfl) (by decide) (by decide) (fun _ => ⟨186, by rw [c3]; exact hd_LH_does_143_3, fun q9 => ?_⟩) (fun n => absurd n c0)
                            refine am_astoreS (lv2 := [(5, .retAddr q9), (0, .ref 0), (1, .int x1), (2, .int x2), (3, .int x3), (4, .int x4)]) d_LH_does_186 (by decide) rfl ?_
                            refine am_ldc (v := (-9999999 : Int32)) d_LH_does_188 aw_3_220 ?_
                            exact am_iret d_LH_does_190 rfl rfl (by decide) (by decide) am_oC_ok
                  · have h := h.1 c
                    refine am_aload_n (j := 0) d_LH_does_117 rfl rfl ?_
                    refine am_iload_n (j := 2) d_LH_does_118 rfl rfl ?_
                    refine am_iload_n (j := 3) d_LH_does_119 rfl rfl ?_
                    obtain ⟨hc, h⟩ := h
                    obtain ⟨hz, h⟩ := h
                    refine am_caseN (F := am_oC) (q := (h_CB_remove s x2 x3).1) (c := 0) (fun c0 => ?_) (fun c0 => ?_)
                    · have h := h.1 c0
                      refine ak_EH (as := [.int x2, .int x3]) (rest := []) d_LH_does_120 cw_LH_does_120 rfl (ch_CB_remove hg hc) rfl rfl (by decide) sh_0 rfl (Nat.le_of_ble_eq_true rfl) (by decide) (by decide) (fun n => absurd c0 n) (fun _ => ?_)
                      refine ai_eq (F := am_oC) (tgt := 130) d_LH_does_123 (by decide) (fun c => ?_) (fun c => ?_)
                      · have h := h.1 c
                        refine am_iconst (v := (0 : Int32)) d_LH_does_130 (by decide) ?_
                        refine am_goto (tgt := 175) d_LH_does_131 (by decide) ?_
                        exact am_iret d_LH_does_175 rfl rfl (by decide) (by decide) am_oC_ok
                      · have h := h.2 c
                        refine am_iconst (v := (1 : Int32)) d_LH_does_126 (by decide) ?_
                        refine am_goto (tgt := 175) d_LH_does_127 (by decide) ?_
                        exact am_iret d_LH_does_175 rfl rfl (by decide) (by decide) am_oC_ok
                    · have h := h.2 c0
                      refine am_caseN (F := am_oC) (q := (h_CB_remove s x2 x3).1) (c := 1) (fun c1 => ?_) (fun c1 => ?_)
                      · have h := h.1 c1
                        refine ak_EH (as := [.int x2, .int x3]) (rest := []) d_LH_does_120 cw_LH_does_120 rfl (ch_CB_remove hg hc) rfl rfl (by decide) sh_0 rfl (Nat.le_of_ble_eq_true rfl) (by decide) (by decide) (fun _ => ⟨176, by rw [c1]; exact hd_LH_does_120_1, fun q9 => ?_⟩) (fun n => absurd n c0)
                        refine am_astoreS (lv2 := [(5, .retAddr q9), (0, .ref 0), (1, .int x1), (2, .int x2), (3, .int x3), (4, .int x4)]) d_LH_does_176 (by decide) rfl ?_
                        refine am_ldc (v := (-9999999 : Int32)) d_LH_does_178 aw_3_220 ?_
                        exact am_iret d_LH_does_180 rfl rfl (by decide) (by decide) am_oC_ok
                      · have h := h.2 c1
                        refine am_caseN (F := am_oC) (q := (h_CB_remove s x2 x3).1) (c := 2) (fun c2 => ?_) (fun c2 => ?_)
                        · have h := h.1 c2
                          refine ak_EH (as := [.int x2, .int x3]) (rest := []) d_LH_does_120 cw_LH_does_120 rfl (ch_CB_remove hg hc) rfl rfl (by decide) sh_0 rfl (Nat.le_of_ble_eq_true rfl) (by decide) (by decide) (fun _ => ⟨181, by rw [c2]; exact hd_LH_does_120_2, fun q9 => ?_⟩) (fun n => absurd n c0)
                          refine am_astoreS (lv2 := [(5, .retAddr q9), (0, .ref 0), (1, .int x1), (2, .int x2), (3, .int x3), (4, .int x4)]) d_LH_does_181 (by decide) rfl ?_
                          refine am_ldc (v := (-9999999 : Int32)) d_LH_does_183 aw_3_220 ?_
                          exact am_iret d_LH_does_185 rfl rfl (by decide) (by decide) am_oC_ok
                        · have h := h.2 c2
                          have c3 : (h_CB_remove s x2 x3).1 = 3 := by rcases hz with z | z | z | z <;> first | exact z | exact absurd z c0 | exact absurd z c1 | exact absurd z c2
                          refine ak_EH (as := [.int x2, .int x3]) (rest := []) d_LH_does_120 cw_LH_does_120 rfl (ch_CB_remove hg hc) rfl rfl (by decide) sh_0 rfl (Nat.le_of_ble_eq_true rfl) (by decide) (by decide) (fun _ => ⟨186, by rw [c3]; exact hd_LH_does_120_3, fun q9 => ?_⟩) (fun n => absurd n c0)
                          refine am_astoreS (lv2 := [(5, .retAddr q9), (0, .ref 0), (1, .int x1), (2, .int x2), (3, .int x3), (4, .int x4)]) d_LH_does_186 (by decide) rfl ?_
                          refine am_ldc (v := (-9999999 : Int32)) d_LH_does_188 aw_3_220 ?_
                          exact am_iret d_LH_does_190 rfl rfl (by decide) (by decide) am_oC_ok
                · have h := h.1 c
                  refine am_aload_n (j := 0) d_LH_does_102 rfl rfl ?_
                  refine am_iload_n (j := 2) d_LH_does_103 rfl rfl ?_
                  refine am_iload_n (j := 3) d_LH_does_104 rfl rfl ?_
                  obtain ⟨hc, h⟩ := h
                  obtain ⟨hz, h⟩ := h
                  refine am_caseN (F := am_oC) (q := (h_CB_enterInside s x2 x3).1) (c := 0) (fun c0 => ?_) (fun c0 => ?_)
                  · have h := h.1 c0
                    refine ak_EH (as := [.int x2, .int x3]) (rest := []) d_LH_does_105 cw_LH_does_105 rfl (ch_CB_enterInside hg hc) rfl rfl (by decide) sh_0 rfl (Nat.le_of_ble_eq_true rfl) (by decide) (by decide) (fun n => absurd c0 n) (fun _ => ?_)
                    refine am_goto (tgt := 175) d_LH_does_108 (by decide) ?_
                    exact am_iret d_LH_does_175 rfl rfl (by decide) (by decide) am_oC_ok
                  · have h := h.2 c0
                    refine am_caseN (F := am_oC) (q := (h_CB_enterInside s x2 x3).1) (c := 1) (fun c1 => ?_) (fun c1 => ?_)
                    · have h := h.1 c1
                      refine ak_EH (as := [.int x2, .int x3]) (rest := []) d_LH_does_105 cw_LH_does_105 rfl (ch_CB_enterInside hg hc) rfl rfl (by decide) sh_0 rfl (Nat.le_of_ble_eq_true rfl) (by decide) (by decide) (fun _ => ⟨176, by rw [c1]; exact hd_LH_does_105_1, fun q9 => ?_⟩) (fun n => absurd n c0)
                      refine am_astoreS (lv2 := [(5, .retAddr q9), (0, .ref 0), (1, .int x1), (2, .int x2), (3, .int x3), (4, .int x4)]) d_LH_does_176 (by decide) rfl ?_
                      refine am_ldc (v := (-9999999 : Int32)) d_LH_does_178 aw_3_220 ?_
                      exact am_iret d_LH_does_180 rfl rfl (by decide) (by decide) am_oC_ok
                    · have h := h.2 c1
                      refine am_caseN (F := am_oC) (q := (h_CB_enterInside s x2 x3).1) (c := 2) (fun c2 => ?_) (fun c2 => ?_)
                      · have h := h.1 c2
                        refine ak_EH (as := [.int x2, .int x3]) (rest := []) d_LH_does_105 cw_LH_does_105 rfl (ch_CB_enterInside hg hc) rfl rfl (by decide) sh_0 rfl (Nat.le_of_ble_eq_true rfl) (by decide) (by decide) (fun _ => ⟨181, by rw [c2]; exact hd_LH_does_105_2, fun q9 => ?_⟩) (fun n => absurd n c0)
                        refine am_astoreS (lv2 := [(5, .retAddr q9), (0, .ref 0), (1, .int x1), (2, .int x2), (3, .int x3), (4, .int x4)]) d_LH_does_181 (by decide) rfl ?_
                        refine am_ldc (v := (-9999999 : Int32)) d_LH_does_183 aw_3_220 ?_
                        exact am_iret d_LH_does_185 rfl rfl (by decide) (by decide) am_oC_ok
                      · have h := h.2 c2
                        have c3 : (h_CB_enterInside s x2 x3).1 = 3 := by rcases hz with z | z | z | z <;> first | exact z | exact absurd z c0 | exact absurd z c1 | exact absurd z c2
                        refine ak_EH (as := [.int x2, .int x3]) (rest := []) d_LH_does_105 cw_LH_does_105 rfl (ch_CB_enterInside hg hc) rfl rfl (by decide) sh_0 rfl (Nat.le_of_ble_eq_true rfl) (by decide) (by decide) (fun _ => ⟨186, by rw [c3]; exact hd_LH_does_105_3, fun q9 => ?_⟩) (fun n => absurd n c0)
                        refine am_astoreS (lv2 := [(5, .retAddr q9), (0, .ref 0), (1, .int x1), (2, .int x2), (3, .int x3), (4, .int x4)]) d_LH_does_186 (by decide) rfl ?_
                        refine am_ldc (v := (-9999999 : Int32)) d_LH_does_188 aw_3_220 ?_
                        exact am_iret d_LH_does_190 rfl rfl (by decide) (by decide) am_oC_ok
              · have h := h.1 c
                refine am_aload_n (j := 0) d_LH_does_88 rfl rfl ?_
                refine am_iload_n (j := 2) d_LH_does_89 rfl rfl ?_
                obtain ⟨hc, h⟩ := h
                obtain ⟨hz, h⟩ := h
                refine am_caseN (F := am_oC) (q := (h_CB_enter s x2).1) (c := 0) (fun c0 => ?_) (fun c0 => ?_)
                · have h := h.1 c0
                  refine ak_EH (as := [.int x2]) (rest := []) d_LH_does_90 cw_LH_does_90 rfl (ch_CB_enter hg hc) rfl rfl (by decide) sh_0 rfl (Nat.le_of_ble_eq_true rfl) (by decide) (by decide) (fun n => absurd c0 n) (fun _ => ?_)
                  refine am_goto (tgt := 175) d_LH_does_93 (by decide) ?_
                  exact am_iret d_LH_does_175 rfl rfl (by decide) (by decide) am_oC_ok
                · have h := h.2 c0
                  refine am_caseN (F := am_oC) (q := (h_CB_enter s x2).1) (c := 1) (fun c1 => ?_) (fun c1 => ?_)
                  · have h := h.1 c1
                    refine ak_EH (as := [.int x2]) (rest := []) d_LH_does_90 cw_LH_does_90 rfl (ch_CB_enter hg hc) rfl rfl (by decide) sh_0 rfl (Nat.le_of_ble_eq_true rfl) (by decide) (by decide) (fun _ => ⟨176, by rw [c1]; exact hd_LH_does_90_1, fun q9 => ?_⟩) (fun n => absurd n c0)
                    refine am_astoreS (lv2 := [(5, .retAddr q9), (0, .ref 0), (1, .int x1), (2, .int x2), (3, .int x3), (4, .int x4)]) d_LH_does_176 (by decide) rfl ?_
                    refine am_ldc (v := (-9999999 : Int32)) d_LH_does_178 aw_3_220 ?_
                    exact am_iret d_LH_does_180 rfl rfl (by decide) (by decide) am_oC_ok
                  · have h := h.2 c1
                    refine am_caseN (F := am_oC) (q := (h_CB_enter s x2).1) (c := 2) (fun c2 => ?_) (fun c2 => ?_)
                    · have h := h.1 c2
                      refine ak_EH (as := [.int x2]) (rest := []) d_LH_does_90 cw_LH_does_90 rfl (ch_CB_enter hg hc) rfl rfl (by decide) sh_0 rfl (Nat.le_of_ble_eq_true rfl) (by decide) (by decide) (fun _ => ⟨181, by rw [c2]; exact hd_LH_does_90_2, fun q9 => ?_⟩) (fun n => absurd n c0)
                      refine am_astoreS (lv2 := [(5, .retAddr q9), (0, .ref 0), (1, .int x1), (2, .int x2), (3, .int x3), (4, .int x4)]) d_LH_does_181 (by decide) rfl ?_
                      refine am_ldc (v := (-9999999 : Int32)) d_LH_does_183 aw_3_220 ?_
                      exact am_iret d_LH_does_185 rfl rfl (by decide) (by decide) am_oC_ok
                    · have h := h.2 c2
                      have c3 : (h_CB_enter s x2).1 = 3 := by rcases hz with z | z | z | z <;> first | exact z | exact absurd z c0 | exact absurd z c1 | exact absurd z c2
                      refine ak_EH (as := [.int x2]) (rest := []) d_LH_does_90 cw_LH_does_90 rfl (ch_CB_enter hg hc) rfl rfl (by decide) sh_0 rfl (Nat.le_of_ble_eq_true rfl) (by decide) (by decide) (fun _ => ⟨186, by rw [c3]; exact hd_LH_does_90_3, fun q9 => ?_⟩) (fun n => absurd n c0)
                      refine am_astoreS (lv2 := [(5, .retAddr q9), (0, .ref 0), (1, .int x1), (2, .int x2), (3, .int x3), (4, .int x4)]) d_LH_does_186 (by decide) rfl ?_
                      refine am_ldc (v := (-9999999 : Int32)) d_LH_does_188 aw_3_220 ?_
                      exact am_iret d_LH_does_190 rfl rfl (by decide) (by decide) am_oC_ok
            · have h := h.1 c
              refine am_aload_n (j := 0) d_LH_does_73 rfl rfl ?_
              refine am_iload_n (j := 2) d_LH_does_74 rfl rfl ?_
              refine am_iload_n (j := 3) d_LH_does_75 rfl rfl ?_
              obtain ⟨hc, h⟩ := h
              obtain ⟨hz, h⟩ := h
              refine am_caseN (F := am_oC) (q := (h_CB_type s x2 x3).1) (c := 0) (fun c0 => ?_) (fun c0 => ?_)
              · have h := h.1 c0
                refine ak_EH (as := [.int x2, .int x3]) (rest := []) d_LH_does_76 cw_LH_does_76 rfl (ch_CB_type hg hc) rfl rfl (by decide) sh_0 rfl (Nat.le_of_ble_eq_true rfl) (by decide) (by decide) (fun n => absurd c0 n) (fun _ => ?_)
                refine am_goto (tgt := 175) d_LH_does_79 (by decide) ?_
                exact am_iret d_LH_does_175 rfl rfl (by decide) (by decide) am_oC_ok
              · have h := h.2 c0
                refine am_caseN (F := am_oC) (q := (h_CB_type s x2 x3).1) (c := 1) (fun c1 => ?_) (fun c1 => ?_)
                · have h := h.1 c1
                  refine ak_EH (as := [.int x2, .int x3]) (rest := []) d_LH_does_76 cw_LH_does_76 rfl (ch_CB_type hg hc) rfl rfl (by decide) sh_0 rfl (Nat.le_of_ble_eq_true rfl) (by decide) (by decide) (fun _ => ⟨176, by rw [c1]; exact hd_LH_does_76_1, fun q9 => ?_⟩) (fun n => absurd n c0)
                  refine am_astoreS (lv2 := [(5, .retAddr q9), (0, .ref 0), (1, .int x1), (2, .int x2), (3, .int x3), (4, .int x4)]) d_LH_does_176 (by decide) rfl ?_
                  refine am_ldc (v := (-9999999 : Int32)) d_LH_does_178 aw_3_220 ?_
                  exact am_iret d_LH_does_180 rfl rfl (by decide) (by decide) am_oC_ok
                · have h := h.2 c1
                  refine am_caseN (F := am_oC) (q := (h_CB_type s x2 x3).1) (c := 2) (fun c2 => ?_) (fun c2 => ?_)
                  · have h := h.1 c2
                    refine ak_EH (as := [.int x2, .int x3]) (rest := []) d_LH_does_76 cw_LH_does_76 rfl (ch_CB_type hg hc) rfl rfl (by decide) sh_0 rfl (Nat.le_of_ble_eq_true rfl) (by decide) (by decide) (fun _ => ⟨181, by rw [c2]; exact hd_LH_does_76_2, fun q9 => ?_⟩) (fun n => absurd n c0)
                    refine am_astoreS (lv2 := [(5, .retAddr q9), (0, .ref 0), (1, .int x1), (2, .int x2), (3, .int x3), (4, .int x4)]) d_LH_does_181 (by decide) rfl ?_
                    refine am_ldc (v := (-9999999 : Int32)) d_LH_does_183 aw_3_220 ?_
                    exact am_iret d_LH_does_185 rfl rfl (by decide) (by decide) am_oC_ok
                  · have h := h.2 c2
                    have c3 : (h_CB_type s x2 x3).1 = 3 := by rcases hz with z | z | z | z <;> first | exact z | exact absurd z c0 | exact absurd z c1 | exact absurd z c2
                    refine ak_EH (as := [.int x2, .int x3]) (rest := []) d_LH_does_76 cw_LH_does_76 rfl (ch_CB_type hg hc) rfl rfl (by decide) sh_0 rfl (Nat.le_of_ble_eq_true rfl) (by decide) (by decide) (fun _ => ⟨186, by rw [c3]; exact hd_LH_does_76_3, fun q9 => ?_⟩) (fun n => absurd n c0)
                    refine am_astoreS (lv2 := [(5, .retAddr q9), (0, .ref 0), (1, .int x1), (2, .int x2), (3, .int x3), (4, .int x4)]) d_LH_does_186 (by decide) rfl ?_
                    refine am_ldc (v := (-9999999 : Int32)) d_LH_does_188 aw_3_220 ?_
                    exact am_iret d_LH_does_190 rfl rfl (by decide) (by decide) am_oC_ok
          · have h := h.1 c
            refine am_aload_n (j := 0) d_LH_does_60 rfl rfl ?_
            refine am_iload_n (j := 2) d_LH_does_61 rfl rfl ?_
            obtain ⟨hc, h⟩ := h
            obtain ⟨hz, h⟩ := h
            refine am_caseN (F := am_oC) (q := (f_CB_order s x2).1) (c := 0) (fun c0 => ?_) (fun c0 => ?_)
            · have h := h.1 c0
              refine ak_EH (as := [.int x2]) (rest := []) d_LH_does_62 cw_LH_does_62 rfl (ct_CB_order hg hc) rfl rfl (by decide) sh_0 rfl (Nat.le_of_ble_eq_true rfl) (by decide) (by decide) (fun n => absurd c0 n) (fun _ => ?_)
              refine am_goto (tgt := 175) d_LH_does_65 (by decide) ?_
              exact am_iret d_LH_does_175 rfl rfl (by decide) (by decide) am_oC_ok
            · have h := h.2 c0
              refine am_caseN (F := am_oC) (q := (f_CB_order s x2).1) (c := 1) (fun c1 => ?_) (fun c1 => ?_)
              · have h := h.1 c1
                refine ak_EH (as := [.int x2]) (rest := []) d_LH_does_62 cw_LH_does_62 rfl (ct_CB_order hg hc) rfl rfl (by decide) sh_0 rfl (Nat.le_of_ble_eq_true rfl) (by decide) (by decide) (fun _ => ⟨176, by rw [c1]; exact hd_LH_does_62_1, fun q9 => ?_⟩) (fun n => absurd n c0)
                refine am_astoreS (lv2 := [(5, .retAddr q9), (0, .ref 0), (1, .int x1), (2, .int x2), (3, .int x3), (4, .int x4)]) d_LH_does_176 (by decide) rfl ?_
                refine am_ldc (v := (-9999999 : Int32)) d_LH_does_178 aw_3_220 ?_
                exact am_iret d_LH_does_180 rfl rfl (by decide) (by decide) am_oC_ok
              · have h := h.2 c1
                refine am_caseN (F := am_oC) (q := (f_CB_order s x2).1) (c := 2) (fun c2 => ?_) (fun c2 => ?_)
                · have h := h.1 c2
                  refine ak_EH (as := [.int x2]) (rest := []) d_LH_does_62 cw_LH_does_62 rfl (ct_CB_order hg hc) rfl rfl (by decide) sh_0 rfl (Nat.le_of_ble_eq_true rfl) (by decide) (by decide) (fun _ => ⟨181, by rw [c2]; exact hd_LH_does_62_2, fun q9 => ?_⟩) (fun n => absurd n c0)
                  refine am_astoreS (lv2 := [(5, .retAddr q9), (0, .ref 0), (1, .int x1), (2, .int x2), (3, .int x3), (4, .int x4)]) d_LH_does_181 (by decide) rfl ?_
                  refine am_ldc (v := (-9999999 : Int32)) d_LH_does_183 aw_3_220 ?_
                  exact am_iret d_LH_does_185 rfl rfl (by decide) (by decide) am_oC_ok
                · have h := h.2 c2
                  have c3 : (f_CB_order s x2).1 = 3 := by rcases hz with z | z | z | z <;> first | exact z | exact absurd z c0 | exact absurd z c1 | exact absurd z c2
                  refine ak_EH (as := [.int x2]) (rest := []) d_LH_does_62 cw_LH_does_62 rfl (ct_CB_order hg hc) rfl rfl (by decide) sh_0 rfl (Nat.le_of_ble_eq_true rfl) (by decide) (by decide) (fun _ => ⟨186, by rw [c3]; exact hd_LH_does_62_3, fun q9 => ?_⟩) (fun n => absurd n c0)
                  refine am_astoreS (lv2 := [(5, .retAddr q9), (0, .ref 0), (1, .int x1), (2, .int x2), (3, .int x3), (4, .int x4)]) d_LH_does_186 (by decide) rfl ?_
                  refine am_ldc (v := (-9999999 : Int32)) d_LH_does_188 aw_3_220 ?_
                  exact am_iret d_LH_does_190 rfl rfl (by decide) (by decide) am_oC_ok
        · have h := h.1 c
          refine am_aload_n (j := 0) d_LH_does_48 rfl rfl ?_
          obtain ⟨hz, h⟩ := h
          refine am_caseN (F := am_oC) (q := (h_CB_addAct s).1) (c := 0) (fun c0 => ?_) (fun c0 => ?_)
          · have h := h.1 c0
            refine ak_EH (as := []) (rest := []) d_LH_does_49 cw_LH_does_49 rfl (ch_CB_addAct hg) rfl rfl (by decide) sh_0 rfl (Nat.le_of_ble_eq_true rfl) (by decide) (by decide) (fun n => absurd c0 n) (fun _ => ?_)
            refine am_goto (tgt := 175) d_LH_does_52 (by decide) ?_
            exact am_iret d_LH_does_175 rfl rfl (by decide) (by decide) am_oC_ok
          · have h := h.2 c0
            refine am_caseN (F := am_oC) (q := (h_CB_addAct s).1) (c := 1) (fun c1 => ?_) (fun c1 => ?_)
            · have h := h.1 c1
              refine ak_EH (as := []) (rest := []) d_LH_does_49 cw_LH_does_49 rfl (ch_CB_addAct hg) rfl rfl (by decide) sh_0 rfl (Nat.le_of_ble_eq_true rfl) (by decide) (by decide) (fun _ => ⟨176, by rw [c1]; exact hd_LH_does_49_1, fun q9 => ?_⟩) (fun n => absurd n c0)
              refine am_astoreS (lv2 := [(5, .retAddr q9), (0, .ref 0), (1, .int x1), (2, .int x2), (3, .int x3), (4, .int x4)]) d_LH_does_176 (by decide) rfl ?_
              refine am_ldc (v := (-9999999 : Int32)) d_LH_does_178 aw_3_220 ?_
              exact am_iret d_LH_does_180 rfl rfl (by decide) (by decide) am_oC_ok
            · have h := h.2 c1
              refine am_caseN (F := am_oC) (q := (h_CB_addAct s).1) (c := 2) (fun c2 => ?_) (fun c2 => ?_)
              · have h := h.1 c2
                refine ak_EH (as := []) (rest := []) d_LH_does_49 cw_LH_does_49 rfl (ch_CB_addAct hg) rfl rfl (by decide) sh_0 rfl (Nat.le_of_ble_eq_true rfl) (by decide) (by decide) (fun _ => ⟨181, by rw [c2]; exact hd_LH_does_49_2, fun q9 => ?_⟩) (fun n => absurd n c0)
                refine am_astoreS (lv2 := [(5, .retAddr q9), (0, .ref 0), (1, .int x1), (2, .int x2), (3, .int x3), (4, .int x4)]) d_LH_does_181 (by decide) rfl ?_
                refine am_ldc (v := (-9999999 : Int32)) d_LH_does_183 aw_3_220 ?_
                exact am_iret d_LH_does_185 rfl rfl (by decide) (by decide) am_oC_ok
              · have h := h.2 c2
                have c3 : (h_CB_addAct s).1 = 3 := by rcases hz with z | z | z | z <;> first | exact z | exact absurd z c0 | exact absurd z c1 | exact absurd z c2
                refine ak_EH (as := []) (rest := []) d_LH_does_49 cw_LH_does_49 rfl (ch_CB_addAct hg) rfl rfl (by decide) sh_0 rfl (Nat.le_of_ble_eq_true rfl) (by decide) (by decide) (fun _ => ⟨186, by rw [c3]; exact hd_LH_does_49_3, fun q9 => ?_⟩) (fun n => absurd n c0)
                refine am_astoreS (lv2 := [(5, .retAddr q9), (0, .ref 0), (1, .int x1), (2, .int x2), (3, .int x3), (4, .int x4)]) d_LH_does_186 (by decide) rfl ?_
                refine am_ldc (v := (-9999999 : Int32)) d_LH_does_188 aw_3_220 ?_
                exact am_iret d_LH_does_190 rfl rfl (by decide) (by decide) am_oC_ok
      · have h := h.1 c
        refine am_aload_n (j := 0) d_LH_does_32 rfl rfl ?_
        refine am_iload_n (j := 2) d_LH_does_33 rfl rfl ?_
        refine am_iload_n (j := 3) d_LH_does_34 rfl rfl ?_
        refine am_iload (j := 4) d_LH_does_35 rfl ?_
        obtain ⟨hc, h⟩ := h
        obtain ⟨hz, h⟩ := h
        refine am_caseN (F := am_oC) (q := (h_CB_addLink s x2 x3 x4).1) (c := 0) (fun c0 => ?_) (fun c0 => ?_)
        · have h := h.1 c0
          refine ak_EH (as := [.int x2, .int x3, .int x4]) (rest := []) d_LH_does_37 cw_LH_does_37 rfl (ch_CB_addLink hg hc) rfl rfl (by decide) sh_0 rfl (Nat.le_of_ble_eq_true rfl) (by decide) (by decide) (fun n => absurd c0 n) (fun _ => ?_)
          refine am_goto (tgt := 175) d_LH_does_40 (by decide) ?_
          exact am_iret d_LH_does_175 rfl rfl (by decide) (by decide) am_oC_ok
        · have h := h.2 c0
          refine am_caseN (F := am_oC) (q := (h_CB_addLink s x2 x3 x4).1) (c := 1) (fun c1 => ?_) (fun c1 => ?_)
          · have h := h.1 c1
            refine ak_EH (as := [.int x2, .int x3, .int x4]) (rest := []) d_LH_does_37 cw_LH_does_37 rfl (ch_CB_addLink hg hc) rfl rfl (by decide) sh_0 rfl (Nat.le_of_ble_eq_true rfl) (by decide) (by decide) (fun _ => ⟨176, by rw [c1]; exact hd_LH_does_37_1, fun q9 => ?_⟩) (fun n => absurd n c0)
            refine am_astoreS (lv2 := [(5, .retAddr q9), (0, .ref 0), (1, .int x1), (2, .int x2), (3, .int x3), (4, .int x4)]) d_LH_does_176 (by decide) rfl ?_
            refine am_ldc (v := (-9999999 : Int32)) d_LH_does_178 aw_3_220 ?_
            exact am_iret d_LH_does_180 rfl rfl (by decide) (by decide) am_oC_ok
          · have h := h.2 c1
            refine am_caseN (F := am_oC) (q := (h_CB_addLink s x2 x3 x4).1) (c := 2) (fun c2 => ?_) (fun c2 => ?_)
            · have h := h.1 c2
              refine ak_EH (as := [.int x2, .int x3, .int x4]) (rest := []) d_LH_does_37 cw_LH_does_37 rfl (ch_CB_addLink hg hc) rfl rfl (by decide) sh_0 rfl (Nat.le_of_ble_eq_true rfl) (by decide) (by decide) (fun _ => ⟨181, by rw [c2]; exact hd_LH_does_37_2, fun q9 => ?_⟩) (fun n => absurd n c0)
              refine am_astoreS (lv2 := [(5, .retAddr q9), (0, .ref 0), (1, .int x1), (2, .int x2), (3, .int x3), (4, .int x4)]) d_LH_does_181 (by decide) rfl ?_
              refine am_ldc (v := (-9999999 : Int32)) d_LH_does_183 aw_3_220 ?_
              exact am_iret d_LH_does_185 rfl rfl (by decide) (by decide) am_oC_ok
            · have h := h.2 c2
              have c3 : (h_CB_addLink s x2 x3 x4).1 = 3 := by rcases hz with z | z | z | z <;> first | exact z | exact absurd z c0 | exact absurd z c1 | exact absurd z c2
              refine ak_EH (as := [.int x2, .int x3, .int x4]) (rest := []) d_LH_does_37 cw_LH_does_37 rfl (ch_CB_addLink hg hc) rfl rfl (by decide) sh_0 rfl (Nat.le_of_ble_eq_true rfl) (by decide) (by decide) (fun _ => ⟨186, by rw [c3]; exact hd_LH_does_37_3, fun q9 => ?_⟩) (fun n => absurd n c0)
              refine am_astoreS (lv2 := [(5, .retAddr q9), (0, .ref 0), (1, .int x1), (2, .int x2), (3, .int x3), (4, .int x4)]) d_LH_does_186 (by decide) rfl ?_
              refine am_ldc (v := (-9999999 : Int32)) d_LH_does_188 aw_3_220 ?_
              exact am_iret d_LH_does_190 rfl rfl (by decide) (by decide) am_oC_ok
    · have h := h.1 c
      refine am_aload_n (j := 0) d_LH_does_16 rfl rfl ?_
      refine am_iload_n (j := 2) d_LH_does_17 rfl rfl ?_
      refine am_iload_n (j := 3) d_LH_does_18 rfl rfl ?_
      refine am_iload (j := 4) d_LH_does_19 rfl ?_
      obtain ⟨hc, h⟩ := h
      obtain ⟨hz, h⟩ := h
      refine am_caseN (F := am_oC) (q := (h_CB_addNumber s x2 x3 x4).1) (c := 0) (fun c0 => ?_) (fun c0 => ?_)
      · have h := h.1 c0
        refine ak_EH (as := [.int x2, .int x3, .int x4]) (rest := []) d_LH_does_21 cw_LH_does_21 rfl (ch_CB_addNumber hg hc) rfl rfl (by decide) sh_0 rfl (Nat.le_of_ble_eq_true rfl) (by decide) (by decide) (fun n => absurd c0 n) (fun _ => ?_)
        refine am_goto (tgt := 175) d_LH_does_24 (by decide) ?_
        exact am_iret d_LH_does_175 rfl rfl (by decide) (by decide) am_oC_ok
      · have h := h.2 c0
        refine am_caseN (F := am_oC) (q := (h_CB_addNumber s x2 x3 x4).1) (c := 1) (fun c1 => ?_) (fun c1 => ?_)
        · have h := h.1 c1
          refine ak_EH (as := [.int x2, .int x3, .int x4]) (rest := []) d_LH_does_21 cw_LH_does_21 rfl (ch_CB_addNumber hg hc) rfl rfl (by decide) sh_0 rfl (Nat.le_of_ble_eq_true rfl) (by decide) (by decide) (fun _ => ⟨176, by rw [c1]; exact hd_LH_does_21_1, fun q9 => ?_⟩) (fun n => absurd n c0)
          refine am_astoreS (lv2 := [(5, .retAddr q9), (0, .ref 0), (1, .int x1), (2, .int x2), (3, .int x3), (4, .int x4)]) d_LH_does_176 (by decide) rfl ?_
          refine am_ldc (v := (-9999999 : Int32)) d_LH_does_178 aw_3_220 ?_
          exact am_iret d_LH_does_180 rfl rfl (by decide) (by decide) am_oC_ok
        · have h := h.2 c1
          refine am_caseN (F := am_oC) (q := (h_CB_addNumber s x2 x3 x4).1) (c := 2) (fun c2 => ?_) (fun c2 => ?_)
          · have h := h.1 c2
            refine ak_EH (as := [.int x2, .int x3, .int x4]) (rest := []) d_LH_does_21 cw_LH_does_21 rfl (ch_CB_addNumber hg hc) rfl rfl (by decide) sh_0 rfl (Nat.le_of_ble_eq_true rfl) (by decide) (by decide) (fun _ => ⟨181, by rw [c2]; exact hd_LH_does_21_2, fun q9 => ?_⟩) (fun n => absurd n c0)
            refine am_astoreS (lv2 := [(5, .retAddr q9), (0, .ref 0), (1, .int x1), (2, .int x2), (3, .int x3), (4, .int x4)]) d_LH_does_181 (by decide) rfl ?_
            refine am_ldc (v := (-9999999 : Int32)) d_LH_does_183 aw_3_220 ?_
            exact am_iret d_LH_does_185 rfl rfl (by decide) (by decide) am_oC_ok
          · have h := h.2 c2
            have c3 : (h_CB_addNumber s x2 x3 x4).1 = 3 := by rcases hz with z | z | z | z <;> first | exact z | exact absurd z c0 | exact absurd z c1 | exact absurd z c2
            refine ak_EH (as := [.int x2, .int x3, .int x4]) (rest := []) d_LH_does_21 cw_LH_does_21 rfl (ch_CB_addNumber hg hc) rfl rfl (by decide) sh_0 rfl (Nat.le_of_ble_eq_true rfl) (by decide) (by decide) (fun _ => ⟨186, by rw [c3]; exact hd_LH_does_21_3, fun q9 => ?_⟩) (fun n => absurd n c0)
            refine am_astoreS (lv2 := [(5, .retAddr q9), (0, .ref 0), (1, .int x1), (2, .int x2), (3, .int x3), (4, .int x4)]) d_LH_does_186 (by decide) rfl ?_
            refine am_ldc (v := (-9999999 : Int32)) d_LH_does_188 aw_3_220 ?_
            exact am_iret d_LH_does_190 rfl rfl (by decide) (by decide) am_oC_ok
  · have h := h.1 c
    refine am_aload_n (j := 0) d_LH_does_4 rfl rfl ?_
    obtain ⟨hz, h⟩ := h
    refine am_caseN (F := am_oC) (q := (h_CB_addTable s).1) (c := 0) (fun c0 => ?_) (fun c0 => ?_)
    · have h := h.1 c0
      refine ak_EH (as := []) (rest := []) d_LH_does_5 cw_LH_does_5 rfl (ch_CB_addTable hg) rfl rfl (by decide) sh_0 rfl (Nat.le_of_ble_eq_true rfl) (by decide) (by decide) (fun n => absurd c0 n) (fun _ => ?_)
      refine am_goto (tgt := 175) d_LH_does_8 (by decide) ?_
      exact am_iret d_LH_does_175 rfl rfl (by decide) (by decide) am_oC_ok
    · have h := h.2 c0
      refine am_caseN (F := am_oC) (q := (h_CB_addTable s).1) (c := 1) (fun c1 => ?_) (fun c1 => ?_)
      · have h := h.1 c1
        refine ak_EH (as := []) (rest := []) d_LH_does_5 cw_LH_does_5 rfl (ch_CB_addTable hg) rfl rfl (by decide) sh_0 rfl (Nat.le_of_ble_eq_true rfl) (by decide) (by decide) (fun _ => ⟨176, by rw [c1]; exact hd_LH_does_5_1, fun q9 => ?_⟩) (fun n => absurd n c0)
        refine am_astoreS (lv2 := [(5, .retAddr q9), (0, .ref 0), (1, .int x1), (2, .int x2), (3, .int x3), (4, .int x4)]) d_LH_does_176 (by decide) rfl ?_
        refine am_ldc (v := (-9999999 : Int32)) d_LH_does_178 aw_3_220 ?_
        exact am_iret d_LH_does_180 rfl rfl (by decide) (by decide) am_oC_ok
      · have h := h.2 c1
        refine am_caseN (F := am_oC) (q := (h_CB_addTable s).1) (c := 2) (fun c2 => ?_) (fun c2 => ?_)
        · have h := h.1 c2
          refine ak_EH (as := []) (rest := []) d_LH_does_5 cw_LH_does_5 rfl (ch_CB_addTable hg) rfl rfl (by decide) sh_0 rfl (Nat.le_of_ble_eq_true rfl) (by decide) (by decide) (fun _ => ⟨181, by rw [c2]; exact hd_LH_does_5_2, fun q9 => ?_⟩) (fun n => absurd n c0)
          refine am_astoreS (lv2 := [(5, .retAddr q9), (0, .ref 0), (1, .int x1), (2, .int x2), (3, .int x3), (4, .int x4)]) d_LH_does_181 (by decide) rfl ?_
          refine am_ldc (v := (-9999999 : Int32)) d_LH_does_183 aw_3_220 ?_
          exact am_iret d_LH_does_185 rfl rfl (by decide) (by decide) am_oC_ok
        · have h := h.2 c2
          have c3 : (h_CB_addTable s).1 = 3 := by rcases hz with z | z | z | z <;> first | exact z | exact absurd z c0 | exact absurd z c1 | exact absurd z c2
          refine ak_EH (as := []) (rest := []) d_LH_does_5 cw_LH_does_5 rfl (ch_CB_addTable hg) rfl rfl (by decide) sh_0 rfl (Nat.le_of_ble_eq_true rfl) (by decide) (by decide) (fun _ => ⟨186, by rw [c3]; exact hd_LH_does_5_3, fun q9 => ?_⟩) (fun n => absurd n c0)
          refine am_astoreS (lv2 := [(5, .retAddr q9), (0, .ref 0), (1, .int x1), (2, .int x2), (3, .int x3), (4, .int x4)]) d_LH_does_186 (by decide) rfl ?_
          refine am_ldc (v := (-9999999 : Int32)) d_LH_does_188 aw_3_220 ?_
          exact am_iret d_LH_does_190 rfl rfl (by decide) (by decide) am_oC_ok
theorem ct_LH_does {l : Launch} {g : am_Gl} (hg : g.2.2.2.1 = true) {s : am_M} {x1 : Int32} {x2 : Int32} {x3 : Int32} {x4 : Int32} (h : p_LH_does s x1 x2 x3 x4) : AC l g m_LH_does 207 s [.ref 0, .int x1, .int x2, .int x3, .int x4] (am_oC (f_LH_does s x1 x2 x3 x4)) := am_enterH ok_LH_does rfl rfl (Nat.le_of_ble_eq_true rfl) rfl (fun ad0 => w_LH_does hg h)
end

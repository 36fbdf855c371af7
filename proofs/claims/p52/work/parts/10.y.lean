noncomputable section
def f_LH_low  (s : am_M) (x0 : Int32) (x1 : Int32) : Int32 := ((x0 &&& (2147483647 : Int32)) - (x0 &&& (2147483647 : Int32)) / x1 * x1)
def p_LH_low  (s : am_M) (x0 : Int32) (x1 : Int32) : Prop := ¬ (x1 = 0) ∧ (True)
set_option maxRecDepth 8000 in
theorem w_LH_low {l : Launch} {g : am_Gl} (hg : g.2.2.2.1 = true) {ad0 : Nat → Nat} {s : am_M} {x0 : Int32} {x1 : Int32} (h : p_LH_low s x0 x1) : AW l g m_LH_low 207 ad0 ((am_oI s) (f_LH_low s x0 x1)) 0 0 207 s 0 [(0, .int x0), (1, .int x1)] [] := by
  refine am_iload_n (j := 0) d_LH_low_0 rfl rfl ?_
  refine am_ldc (v := (2147483647 : Int32)) d_LH_low_1 aw_1_189 ?_
  refine am_iand d_LH_low_3 ?_
  refine am_iload_n (j := 1) d_LH_low_4 rfl rfl ?_
  obtain ⟨h0, h⟩ := h
  refine am_irem d_LH_low_5 h0 ?_
  exact am_iret d_LH_low_6 rfl rfl (by decide) (by decide) am_oI_ok
theorem ct_LH_low {l : Launch} {g : am_Gl} (hg : g.2.2.2.1 = true) {s : am_M} {x0 : Int32} {x1 : Int32} (h : p_LH_low s x0 x1) : AC l g m_LH_low 207 s [.int x0, .int x1] ((am_oI s) (f_LH_low s x0 x1)) := am_enter ok_LH_low rfl (Nat.le_of_ble_eq_true rfl) rfl (fun ad0 => w_LH_low hg h)
theorem cw_LH_number_37 : am_cs m_LH_number m_LH_low 156 2 := ⟨⟨ok_LH_low, rfl, by decide +kernel, by decide, by decide⟩, aw_1_186, aw_1_187⟩
theorem cw_LH_number_22 : am_cs m_LH_number m_LH_low 156 2 := ⟨⟨ok_LH_low, rfl, by decide +kernel, by decide, by decide⟩, aw_1_186, aw_1_187⟩
def f_LH_number  (s : am_M) (x0 : Int32) (x1 : Int32) : Int32 := (if (x0 &&& (7 : Int32)) = 0 then (-1000000 : Int32) else (if x1 = 0 then ((f_LH_low s (x0 >>> ((3 : Int32) &&& 31)) (16 : Int32)) - (2 : Int32)) else ((f_LH_low s (x0 >>> ((3 : Int32) &&& 31)) (30000 : Int32)) - (15000 : Int32))))
def p_LH_number  (s : am_M) (x0 : Int32) (x1 : Int32) : Prop := (((x0 &&& (7 : Int32)) = 0) → True) ∧ (¬ ((x0 &&& (7 : Int32)) = 0) → ((x1 = 0) → p_LH_low s (x0 >>> ((3 : Int32) &&& 31)) (16 : Int32) ∧ (True)) ∧ (¬ (x1 = 0) → p_LH_low s (x0 >>> ((3 : Int32) &&& 31)) (30000 : Int32) ∧ (True)))
set_option maxRecDepth 8000 in
theorem w_LH_number {l : Launch} {g : am_Gl} (hg : g.2.2.2.1 = true) {ad0 : Nat → Nat} {s : am_M} {x0 : Int32} {x1 : Int32} (h : p_LH_number s x0 x1) : AW l g m_LH_number 207 ad0 ((am_oI s) (f_LH_number s x0 x1)) 0 0 207 s 0 [(0, .int x0), (1, .int x1)] [] := by
  refine am_iload_n (j := 0) d_LH_number_0 rfl rfl ?_
  refine am_bipush (v := (7 : Int32)) d_LH_number_1 (by decide) ?_
  refine am_iand d_LH_number_3 ?_
  refine ai_ne (F := (am_oI s)) (tgt := 12) d_LH_number_4 (by decide) (fun c => ?_) (fun c => ?_)
  · have h := h.2 c
    refine am_iload_n (j := 1) d_LH_number_12 rfl rfl ?_
    refine ai_eq (F := (am_oI s)) (tgt := 32) d_LH_number_13 (by decide) (fun c => ?_) (fun c => ?_)
    · have h := h.1 c
      refine am_iload_n (j := 0) d_LH_number_32 rfl rfl ?_
      refine am_iconst (v := (3 : Int32)) d_LH_number_33 (by decide) ?_
      refine am_ishr d_LH_number_34 ?_
      refine am_bipush (v := (16 : Int32)) d_LH_number_35 (by decide) ?_
      obtain ⟨hc, h⟩ := h
      refine ak_SI (as := [.int (x0 >>> ((3 : Int32) &&& 31)), .int (16 : Int32)]) (rest := []) d_LH_number_37 cw_LH_number_37 rfl rfl rfl (ct_LH_low hg hc) rfl rfl (Nat.le_of_ble_eq_true rfl) (by decide) (by decide) ?_
      refine am_iconst (v := (2 : Int32)) d_LH_number_40 (by decide) ?_
      refine am_isub d_LH_number_41 ?_
      exact am_iret d_LH_number_42 rfl rfl (by decide) (by decide) am_oI_ok
    · have h := h.2 c
      refine am_iload_n (j := 0) d_LH_number_16 rfl rfl ?_
      refine am_iconst (v := (3 : Int32)) d_LH_number_17 (by decide) ?_
      refine am_ishr d_LH_number_18 ?_
      refine am_sipush (v := (30000 : Int32)) d_LH_number_19 (by decide) ?_
      obtain ⟨hc, h⟩ := h
      refine ak_SI (as := [.int (x0 >>> ((3 : Int32) &&& 31)), .int (30000 : Int32)]) (rest := []) d_LH_number_22 cw_LH_number_22 rfl rfl rfl (ct_LH_low hg hc) rfl rfl (Nat.le_of_ble_eq_true rfl) (by decide) (by decide) ?_
      refine am_sipush (v := (15000 : Int32)) d_LH_number_25 (by decide) ?_
      refine am_isub d_LH_number_28 ?_
      refine am_goto (tgt := 42) d_LH_number_29 (by decide) ?_
      exact am_iret d_LH_number_42 rfl rfl (by decide) (by decide) am_oI_ok
  · have h := h.1 c
    refine am_ldc (v := (-1000000 : Int32)) d_LH_number_7 aw_4_168 ?_
    refine am_goto (tgt := 42) d_LH_number_9 (by decide) ?_
    exact am_iret d_LH_number_42 rfl rfl (by decide) (by decide) am_oI_ok
theorem ct_LH_number {l : Launch} {g : am_Gl} (hg : g.2.2.2.1 = true) {s : am_M} {x0 : Int32} {x1 : Int32} (h : p_LH_number s x0 x1) : AC l g m_LH_number 207 s [.int x0, .int x1] ((am_oI s) (f_LH_number s x0 x1)) := am_enter ok_LH_number rfl (Nat.le_of_ble_eq_true rfl) rfl (fun ad0 => w_LH_number hg h)
theorem cw_LH_opens_3 : am_cv m_LH_opens m_CB_openForm 62 2 := ⟨⟨ok_CB_openForm, rfl, by decide +kernel, by decide, by decide⟩, aw_3_77, aw_3_78, aw_3_79⟩
def f_LH_opens  (s : am_M) (x1 : Int32) (x2 : Int32) : Nat × Int32 × am_M := (if (h_CB_openForm s x1 x2).1 = 0 then (0, (0 : Int32), (h_CB_openForm s x1 x2).2) else ((h_CB_openForm s x1 x2).1, 0, (h_CB_openForm s x1 x2).2))
def p_LH_opens  (s : am_M) (x1 : Int32) (x2 : Int32) : Prop := p_CB_openForm s x1 x2 ∧ ((((h_CB_openForm s x1 x2).1 = 0) → True))
set_option maxRecDepth 8000 in
theorem w_LH_opens {l : Launch} {g : am_Gl} (hg : g.2.2.2.1 = true) {ad0 : Nat → Nat} {s : am_M} {x1 : Int32} {x2 : Int32} (h : p_LH_opens s x1 x2) : AW l g m_LH_opens 207 ad0 (am_oE (f_LH_opens s x1 x2)) 0 0 207 s 0 [(0, .ref 0), (1, .int x1), (2, .int x2)] [] := by
  refine am_aload_n (j := 0) d_LH_opens_0 rfl rfl ?_
  refine am_iload_n (j := 1) d_LH_opens_1 rfl rfl ?_
  refine am_iload_n (j := 2) d_LH_opens_2 rfl rfl ?_
  obtain ⟨hc, h⟩ := h
  refine ak_V (F := am_oE) (as := [.int x1, .int x2]) (rest := []) d_LH_opens_3 cw_LH_opens_3 rfl rfl rfl (ch_CB_openForm hg hc) rfl rfl (by decide) sh_0 rfl (Nat.le_of_ble_eq_true rfl) (by decide) (by decide) am_oE_x (fun c => ?_)
  have h := h c
  refine am_iconst (v := (0 : Int32)) d_LH_opens_6 (by decide) ?_
  exact am_iret d_LH_opens_7 rfl rfl (by decide) (by decide) am_oE_ok
theorem ct_LH_opens {l : Launch} {g : am_Gl} (hg : g.2.2.2.1 = true) {s : am_M} {x1 : Int32} {x2 : Int32} (h : p_LH_opens s x1 x2) : AC l g m_LH_opens 207 s [.ref 0, .int x1, .int x2] (am_oE (f_LH_opens s x1 x2)) := am_enter ok_LH_opens rfl (Nat.le_of_ble_eq_true rfl) rfl (fun ad0 => w_LH_opens hg h)
theorem cw_LH_does_164 : am_cv m_LH_does m_CB_run 51 1 := ⟨⟨ok_CB_run, rfl, by decide +kernel, by decide, by decide⟩, aw_3_86, aw_3_87, aw_3_88⟩
theorem cw_LH_does_156 : am_cv m_LH_does m_CB_undo 48 0 := ⟨⟨ok_CB_undo, rfl, by decide +kernel, by decide, by decide⟩, aw_3_81, aw_3_82, aw_3_83⟩
theorem cw_LH_does_143 : am_cs m_LH_does m_LH_opens 42 3 := ⟨⟨ok_LH_opens, rfl, by decide +kernel, by decide, by decide⟩, aw_3_74, aw_3_75⟩
theorem cw_LH_does_120 : am_cv m_LH_does m_CB_remove 38 2 := ⟨⟨ok_CB_remove, rfl, by decide +kernel, by decide, by decide⟩, aw_3_41, aw_3_42, aw_3_43⟩
theorem cw_LH_does_105 : am_cv m_LH_does m_CB_enterInside 35 2 := ⟨⟨ok_CB_enterInside, rfl, by decide +kernel, by decide, by decide⟩, aw_3_10, aw_3_11, aw_3_12⟩
theorem cw_LH_does_90 : am_cv m_LH_does m_CB_enter 32 1 := ⟨⟨ok_CB_enter, rfl, by decide +kernel, by decide, by decide⟩, aw_2_125, aw_2_126, aw_2_127⟩
theorem cw_LH_does_76 : am_cv m_LH_does m_CB_type 28 2 := ⟨⟨ok_CB_type, rfl, by decide +kernel, by decide, by decide⟩, aw_2_117, aw_2_118, aw_2_119⟩
theorem cw_LH_does_62 : am_cv m_LH_does m_CB_order 24 1 := ⟨⟨ok_CB_order, rfl, by decide +kernel, by decide, by decide⟩, aw_2_113, aw_2_114, aw_2_115⟩
theorem cw_LH_does_49 : am_cv m_LH_does m_CB_addAct 21 0 := ⟨⟨ok_CB_addAct, rfl, by decide +kernel, by decide, by decide⟩, aw_2_109, aw_2_110, aw_2_111⟩
theorem cw_LH_does_37 : am_cv m_LH_does m_CB_addLink 18 3 := ⟨⟨ok_CB_addLink, rfl, by decide +kernel, by decide, by decide⟩, aw_2_97, aw_2_98, aw_2_99⟩
theorem cw_LH_does_21 : am_cv m_LH_does m_CB_addNumber 14 3 := ⟨⟨ok_CB_addNumber, rfl, by decide +kernel, by decide, by decide⟩, aw_2_30, aw_2_31, aw_2_32⟩
theorem cw_LH_does_5 : am_cv m_LH_does m_CB_addTable 8 0 := ⟨⟨ok_CB_addTable, rfl, by decide +kernel, by decide, by decide⟩, aw_1_199, aw_1_200, aw_1_201⟩
theorem hd_LH_does_1 : am_hd m_LH_does 105 (am_exn 1) 176 := ⟨[], ⟨0, 175, 176, 55⟩, [⟨0, 175, 181, 58⟩, ⟨0, 175, 186, 60⟩], rfl, by decide, rfl, by decide, aw_1_196, by decide +kernel, fun z h => absurd h List.not_mem_nil⟩
theorem hd_LH_does_1 : am_hd m_LH_does 120 (am_exn 1) 176 := ⟨[], ⟨0, 175, 176, 55⟩, [⟨0, 175, 181, 58⟩, ⟨0, 175, 186, 60⟩], rfl, by decide, rfl, by decide, aw_1_196, by decide +kernel, fun z h => absurd h List.not_mem_nil⟩
theorem hd_LH_does_1 : am_hd m_LH_does 143 (am_exn 1) 176 := ⟨[], ⟨0, 175, 176, 55⟩, [⟨0, 175, 181, 58⟩, ⟨0, 175, 186, 60⟩], rfl, by decide, rfl, by decide, aw_1_196, by decide +kernel, fun z h => absurd h List.not_mem_nil⟩
theorem hd_LH_does_1 : am_hd m_LH_does 156 (am_exn 1) 176 := ⟨[], ⟨0, 175, 176, 55⟩, [⟨0, 175, 181, 58⟩, ⟨0, 175, 186, 60⟩], rfl, by decide, rfl, by decide, aw_1_196, by decide +kernel, fun z h => absurd h List.not_mem_nil⟩
theorem hd_LH_does_1 : am_hd m_LH_does 164 (am_exn 1) 176 := ⟨[], ⟨0, 175, 176, 55⟩, [⟨0, 175, 181, 58⟩, ⟨0, 175, 186, 60⟩], rfl, by decide, rfl, by decide, aw_1_196, by decide +kernel, fun z h => absurd h List.not_mem_nil⟩
theorem hd_LH_does_1 : am_hd m_LH_does 21 (am_exn 1) 176 := ⟨[], ⟨0, 175, 176, 55⟩, [⟨0, 175, 181, 58⟩, ⟨0, 175, 186, 60⟩], rfl, by decide, rfl, by decide, aw_1_196, by decide +kernel, fun z h => absurd h List.not_mem_nil⟩
theorem hd_LH_does_1 : am_hd m_LH_does 37 (am_exn 1) 176 := ⟨[], ⟨0, 175, 176, 55⟩, [⟨0, 175, 181, 58⟩, ⟨0, 175, 186, 60⟩], rfl, by decide, rfl, by decide, aw_1_196, by decide +kernel, fun z h => absurd h List.not_mem_nil⟩
theorem hd_LH_does_1 : am_hd m_LH_does 49 (am_exn 1) 176 := ⟨[], ⟨0, 175, 176, 55⟩, [⟨0, 175, 181, 58⟩, ⟨0, 175, 186, 60⟩], rfl, by decide, rfl, by decide, aw_1_196, by decide +kernel, fun z h => absurd h List.not_mem_nil⟩
theorem hd_LH_does_1 : am_hd m_LH_does 5 (am_exn 1) 176 := ⟨[], ⟨0, 175, 176, 55⟩, [⟨0, 175, 181, 58⟩, ⟨0, 175, 186, 60⟩], rfl, by decide, rfl, by decide, aw_1_196, by decide +kernel, fun z h => absurd h List.not_mem_nil⟩
theorem hd_LH_does_1 : am_hd m_LH_does 62 (am_exn 1) 176 := ⟨[], ⟨0, 175, 176, 55⟩, [⟨0, 175, 181, 58⟩, ⟨0, 175, 186, 60⟩], rfl, by decide, rfl, by decide, aw_1_196, by decide +kernel, fun z h => absurd h List.not_mem_nil⟩
theorem hd_LH_does_1 : am_hd m_LH_does 76 (am_exn 1) 176 := ⟨[], ⟨0, 175, 176, 55⟩, [⟨0, 175, 181, 58⟩, ⟨0, 175, 186, 60⟩], rfl, by decide, rfl, by decide, aw_1_196, by decide +kernel, fun z h => absurd h List.not_mem_nil⟩
theorem hd_LH_does_1 : am_hd m_LH_does 90 (am_exn 1) 176 := ⟨[], ⟨0, 175, 176, 55⟩, [⟨0, 175, 181, 58⟩, ⟨0, 175, 186, 60⟩], rfl, by decide, rfl, by decide, aw_1_196, by decide +kernel, fun z h => absurd h List.not_mem_nil⟩
theorem hd_LH_does_2 : am_hd m_LH_does 105 (am_exn 2) 181 := ⟨[⟨0, 175, 176, 55⟩], ⟨0, 175, 181, 58⟩, [⟨0, 175, 186, 60⟩], rfl, by decide, rfl, by decide, aw_1_197, by decide +kernel, List.forall_mem_cons.mpr ⟨Or.inr ⟨by decide, "java/lang/IndexOutOfBoundsException", aw_1_196, by decide⟩, fun z h => absurd h List.not_mem_nil⟩⟩
theorem hd_LH_does_2 : am_hd m_LH_does 120 (am_exn 2) 181 := ⟨[⟨0, 175, 176, 55⟩], ⟨0, 175, 181, 58⟩, [⟨0, 175, 186, 60⟩], rfl, by decide, rfl, by decide, aw_1_197, by decide +kernel, List.forall_mem_cons.mpr ⟨Or.inr ⟨by decide, "java/lang/IndexOutOfBoundsException", aw_1_196, by decide⟩, fun z h => absurd h List.not_mem_nil⟩⟩
theorem hd_LH_does_2 : am_hd m_LH_does 143 (am_exn 2) 181 := ⟨[⟨0, 175, 176, 55⟩], ⟨0, 175, 181, 58⟩, [⟨0, 175, 186, 60⟩], rfl, by decide, rfl, by decide, aw_1_197, by decide +kernel, List.forall_mem_cons.mpr ⟨Or.inr ⟨by decide, "java/lang/IndexOutOfBoundsException", aw_1_196, by decide⟩, fun z h => absurd h List.not_mem_nil⟩⟩
theorem hd_LH_does_2 : am_hd m_LH_does 156 (am_exn 2) 181 := ⟨[⟨0, 175, 176, 55⟩], ⟨0, 175, 181, 58⟩, [⟨0, 175, 186, 60⟩], rfl, by decide, rfl, by decide, aw_1_197, by decide +kernel, List.forall_mem_cons.mpr ⟨Or.inr ⟨by decide, "java/lang/IndexOutOfBoundsException", aw_1_196, by decide⟩, fun z h => absurd h List.not_mem_nil⟩⟩
theorem hd_LH_does_2 : am_hd m_LH_does 164 (am_exn 2) 181 := ⟨[⟨0, 175, 176, 55⟩], ⟨0, 175, 181, 58⟩, [⟨0, 175, 186, 60⟩], rfl, by decide, rfl, by decide, aw_1_197, by decide +kernel, List.forall_mem_cons.mpr ⟨Or.inr ⟨by decide, "java/lang/IndexOutOfBoundsException", aw_1_196, by decide⟩, fun z h => absurd h List.not_mem_nil⟩⟩
theorem hd_LH_does_2 : am_hd m_LH_does 21 (am_exn 2) 181 := ⟨[⟨0, 175, 176, 55⟩], ⟨0, 175, 181, 58⟩, [⟨0, 175, 186, 60⟩], rfl, by decide, rfl, by decide, aw_1_197, by decide +kernel, List.forall_mem_cons.mpr ⟨Or.inr ⟨by decide, "java/lang/IndexOutOfBoundsException", aw_1_196, by decide⟩, fun z h => absurd h List.not_mem_nil⟩⟩
theorem hd_LH_does_2 : am_hd m_LH_does 37 (am_exn 2) 181 := ⟨[⟨0, 175, 176, 55⟩], ⟨0, 175, 181, 58⟩, [⟨0, 175, 186, 60⟩], rfl, by decide, rfl, by decide, aw_1_197, by decide +kernel, List.forall_mem_cons.mpr ⟨Or.inr ⟨by decide, "java/lang/IndexOutOfBoundsException", aw_1_196, by decide⟩, fun z h => absurd h List.not_mem_nil⟩⟩
theorem hd_LH_does_2 : am_hd m_LH_does 49 (am_exn 2) 181 := ⟨[⟨0, 175, 176, 55⟩], ⟨0, 175, 181, 58⟩, [⟨0, 175, 186, 60⟩], rfl, by decide, rfl, by decide, aw_1_197, by decide +kernel, List.forall_mem_cons.mpr ⟨Or.inr ⟨by decide, "java/lang/IndexOutOfBoundsException", aw_1_196, by decide⟩, fun z h => absurd h List.not_mem_nil⟩⟩
theorem hd_LH_does_2 : am_hd m_LH_does 5 (am_exn 2) 181 := ⟨[⟨0, 175, 176, 55⟩], ⟨0, 175, 181, 58⟩, [⟨0, 175, 186, 60⟩], rfl, by decide, rfl, by decide, aw_1_197, by decide +kernel, List.forall_mem_cons.mpr ⟨Or.inr ⟨by decide, "java/lang/IndexOutOfBoundsException", aw_1_196, by decide⟩, fun z h => absurd h List.not_mem_nil⟩⟩
theorem hd_LH_does_2 : am_hd m_LH_does 62 (am_exn 2) 181 := ⟨[⟨0, 175, 176, 55⟩], ⟨0, 175, 181, 58⟩, [⟨0, 175, 186, 60⟩], rfl, by decide, rfl, by decide, aw_1_197, by decide +kernel, List.forall_mem_cons.mpr ⟨Or.inr ⟨by decide, "java/lang/IndexOutOfBoundsException", aw_1_196, by decide⟩, fun z h => absurd h List.not_mem_nil⟩⟩
theorem hd_LH_does_2 : am_hd m_LH_does 76 (am_exn 2) 181 := ⟨[⟨0, 175, 176, 55⟩], ⟨0, 175, 181, 58⟩, [⟨0, 175, 186, 60⟩], rfl, by decide, rfl, by decide, aw_1_197, by decide +kernel, List.forall_mem_cons.mpr ⟨Or.inr ⟨by decide, "java/lang/IndexOutOfBoundsException", aw_1_196, by decide⟩, fun z h => absurd h List.not_mem_nil⟩⟩
theorem hd_LH_does_2 : am_hd m_LH_does 90 (am_exn 2) 181 := ⟨[⟨0, 175, 176, 55⟩], ⟨0, 175, 181, 58⟩, [⟨0, 175, 186, 60⟩], rfl, by decide, rfl, by decide, aw_1_197, by decide +kernel, List.forall_mem_cons.mpr ⟨Or.inr ⟨by decide, "java/lang/IndexOutOfBoundsException", aw_1_196, by decide⟩, fun z h => absurd h List.not_mem_nil⟩⟩
theorem hd_LH_does_3 : am_hd m_LH_does 105 (am_exn 3) 186 := ⟨[⟨0, 175, 176, 55⟩, ⟨0, 175, 181, 58⟩], ⟨0, 175, 186, 60⟩, [], rfl, by decide, rfl, by decide, aw_1_198, by decide +kernel, List.forall_mem_cons.mpr ⟨Or.inr ⟨by decide, "java/lang/IndexOutOfBoundsException", aw_1_196, by decide⟩, List.forall_mem_cons.mpr ⟨Or.inr ⟨by decide, "java/lang/IllegalArgumentException", aw_1_197, by decide⟩, fun z h => absurd h List.not_mem_nil⟩⟩⟩
theorem hd_LH_does_3 : am_hd m_LH_does 120 (am_exn 3) 186 := ⟨[⟨0, 175, 176, 55⟩, ⟨0, 175, 181, 58⟩], ⟨0, 175, 186, 60⟩, [], rfl, by decide, rfl, by decide, aw_1_198, by decide +kernel, List.forall_mem_cons.mpr ⟨Or.inr ⟨by decide, "java/lang/IndexOutOfBoundsException", aw_1_196, by decide⟩, List.forall_mem_cons.mpr ⟨Or.inr ⟨by decide, "java/lang/IllegalArgumentException", aw_1_197, by decide⟩, fun z h => absurd h List.not_mem_nil⟩⟩⟩
theorem hd_LH_does_3 : am_hd m_LH_does 143 (am_exn 3) 186 := ⟨[⟨0, 175, 176, 55⟩, ⟨0, 175, 181, 58⟩], ⟨0, 175, 186, 60⟩, [], rfl, by decide, rfl, by decide, aw_1_198, by decide +kernel, List.forall_mem_cons.mpr ⟨Or.inr ⟨by decide, "java/lang/IndexOutOfBoundsException", aw_1_196, by decide⟩, List.forall_mem_cons.mpr ⟨Or.inr ⟨by decide, "java/lang/IllegalArgumentException", aw_1_197, by decide⟩, fun z h => absurd h List.not_mem_nil⟩⟩⟩
theorem hd_LH_does_3 : am_hd m_LH_does 156 (am_exn 3) 186 := ⟨[⟨0, 175, 176, 55⟩, ⟨0, 175, 181, 58⟩], ⟨0, 175, 186, 60⟩, [], rfl, by decide, rfl, by decide, aw_1_198, by decide +kernel, List.forall_mem_cons.mpr ⟨Or.inr ⟨by decide, "java/lang/IndexOutOfBoundsException", aw_1_196, by decide⟩, List.forall_mem_cons.mpr ⟨Or.inr ⟨by decide, "java/lang/IllegalArgumentException", aw_1_197, by decide⟩, fun z h => absurd h List.not_mem_nil⟩⟩⟩
theorem hd_LH_does_3 : am_hd m_LH_does 164 (am_exn 3) 186 := ⟨[⟨0, 175, 176, 55⟩, ⟨0, 175, 181, 58⟩], ⟨0, 175, 186, 60⟩, [], rfl, by decide, rfl, by decide, aw_1_198, by decide +kernel, List.forall_mem_cons.mpr ⟨Or.inr ⟨by decide, "java/lang/IndexOutOfBoundsException", aw_1_196, by decide⟩, List.forall_mem_cons.mpr ⟨Or.inr ⟨by decide, "java/lang/IllegalArgumentException", aw_1_197, by decide⟩, fun z h => absurd h List.not_mem_nil⟩⟩⟩
theorem hd_LH_does_3 : am_hd m_LH_does 21 (am_exn 3) 186 := ⟨[⟨0, 175, 176, 55⟩, ⟨0, 175, 181, 58⟩], ⟨0, 175, 186, 60⟩, [], rfl, by decide, rfl, by decide, aw_1_198, by decide +kernel, List.forall_mem_cons.mpr ⟨Or.inr ⟨by decide, "java/lang/IndexOutOfBoundsException", aw_1_196, by decide⟩, List.forall_mem_cons.mpr ⟨Or.inr ⟨by decide, "java/lang/IllegalArgumentException", aw_1_197, by decide⟩, fun z h => absurd h List.not_mem_nil⟩⟩⟩
theorem hd_LH_does_3 : am_hd m_LH_does 37 (am_exn 3) 186 := ⟨[⟨0, 175, 176, 55⟩, ⟨0, 175, 181, 58⟩], ⟨0, 175, 186, 60⟩, [], rfl, by decide, rfl, by decide, aw_1_198, by decide +kernel, List.forall_mem_cons.mpr ⟨Or.inr ⟨by decide, "java/lang/IndexOutOfBoundsException", aw_1_196, by decide⟩, List.forall_mem_cons.mpr ⟨Or.inr ⟨by decide, "java/lang/IllegalArgumentException", aw_1_197, by decide⟩, fun z h => absurd h List.not_mem_nil⟩⟩⟩
theorem hd_LH_does_3 : am_hd m_LH_does 49 (am_exn 3) 186 := ⟨[⟨0, 175, 176, 55⟩, ⟨0, 175, 181, 58⟩], ⟨0, 175, 186, 60⟩, [], rfl, by decide, rfl, by decide, aw_1_198, by decide +kernel, List.forall_mem_cons.mpr ⟨Or.inr ⟨by decide, "java/lang/IndexOutOfBoundsException", aw_1_196, by decide⟩, List.forall_mem_cons.mpr ⟨Or.inr ⟨by decide, "java/lang/IllegalArgumentException", aw_1_197, by decide⟩, fun z h => absurd h List.not_mem_nil⟩⟩⟩
theorem hd_LH_does_3 : am_hd m_LH_does 5 (am_exn 3) 186 := ⟨[⟨0, 175, 176, 55⟩, ⟨0, 175, 181, 58⟩], ⟨0, 175, 186, 60⟩, [], rfl, by decide, rfl, by decide, aw_1_198, by decide +kernel, List.forall_mem_cons.mpr ⟨Or.inr ⟨by decide, "java/lang/IndexOutOfBoundsException", aw_1_196, by decide⟩, List.forall_mem_cons.mpr ⟨Or.inr ⟨by decide, "java/lang/IllegalArgumentException", aw_1_197, by decide⟩, fun z h => absurd h List.not_mem_nil⟩⟩⟩
theorem hd_LH_does_3 : am_hd m_LH_does 62 (am_exn 3) 186 := ⟨[⟨0, 175, 176, 55⟩, ⟨0, 175, 181, 58⟩], ⟨0, 175, 186, 60⟩, [], rfl, by decide, rfl, by decide, aw_1_198, by decide +kernel, List.forall_mem_cons.mpr ⟨Or.inr ⟨by decide, "java/lang/IndexOutOfBoundsException", aw_1_196, by decide⟩, List.forall_mem_cons.mpr ⟨Or.inr ⟨by decide, "java/lang/IllegalArgumentException", aw_1_197, by decide⟩, fun z h => absurd h List.not_mem_nil⟩⟩⟩
theorem hd_LH_does_3 : am_hd m_LH_does 76 (am_exn 3) 186 := ⟨[⟨0, 175, 176, 55⟩, ⟨0, 175, 181, 58⟩], ⟨0, 175, 186, 60⟩, [], rfl, by decide, rfl, by decide, aw_1_198, by decide +kernel, List.forall_mem_cons.mpr ⟨Or.inr ⟨by decide, "java/lang/IndexOutOfBoundsException", aw_1_196, by decide⟩, List.forall_mem_cons.mpr ⟨Or.inr ⟨by decide, "java/lang/IllegalArgumentException", aw_1_197, by decide⟩, fun z h => absurd h List.not_mem_nil⟩⟩⟩
theorem hd_LH_does_3 : am_hd m_LH_does 90 (am_exn 3) 186 := ⟨[⟨0, 175, 176, 55⟩, ⟨0, 175, 181, 58⟩], ⟨0, 175, 186, 60⟩, [], rfl, by decide, rfl, by decide, aw_1_198, by decide +kernel, List.forall_mem_cons.mpr ⟨Or.inr ⟨by decide, "java/lang/IndexOutOfBoundsException", aw_1_196, by decide⟩, List.forall_mem_cons.mpr ⟨Or.inr ⟨by decide, "java/lang/IllegalArgumentException", aw_1_197, by decide⟩, fun z h => absurd h List.not_mem_nil⟩⟩⟩
def f_LH_does  (s : am_M) (x1 : Int32) (x2 : Int32) (x3 : Int32) (x4 : Int32) : Int32 × am_M := (if x1 = 0 then (if (h_CB_addTable s).1 = 0 then ((h_CB_addTable s).2.1, (h_CB_addTable s).2.2) else (if (h_CB_addTable s).1 = 1 then ((-9999999 : Int32), (h_CB_addTable s).2.2) else (if (h_CB_addTable s).1 = 2 then ((-9999999 : Int32), (h_CB_addTable s).2.2) else ((-9999999 : Int32), (h_CB_addTable s).2.2)))) else (if x1 = (1 : Int32) then (if (h_CB_addNumber s x2 x3 x4).1 = 0 then ((h_CB_addNumber s x2 x3 x4).2.1, (h_CB_addNumber s x2 x3 x4).2.2) else (if (h_CB_addNumber s x2 x3 x4).1 = 1 then ((-9999999 : Int32), (h_CB_addNumber s x2 x3 x4).2.2) else (if (h_CB_addNumber s x2 x3 x4).1 = 2 then ((-9999999 : Int32), (h_CB_addNumber s x2 x3 x4).2.2) else ((-9999999 : Int32), (h_CB_addNumber s x2 x3 x4).2.2)))) else (if x1 = (2 : Int32) then (if (h_CB_addLink s x2 x3 x4).1 = 0 then ((h_CB_addLink s x2 x3 x4).2.1, (h_CB_addLink s x2 x3 x4).2.2) else (if (h_CB_addLink s x2 x3 x4).1 = 1 then ((-9999999 : Int32), (h_CB_addLink s x2 x3 x4).2.2) else (if (h_CB_addLink s x2 x3 x4).1 = 2 then ((-9999999 : Int32), (h_CB_addLink s x2 x3 x4).2.2) else ((-9999999 : Int32), (h_CB_addLink s x2 x3 x4).2.2)))) else (if x1 = (3 : Int32) then (if (h_CB_addAct s).1 = 0 then ((h_CB_addAct s).2.1, (h_CB_addAct s).2.2) else (if (h_CB_addAct s).1 = 1 then ((-9999999 : Int32), (h_CB_addAct s).2.2) else (if (h_CB_addAct s).1 = 2 then ((-9999999 : Int32), (h_CB_addAct s).2.2) else ((-9999999 : Int32), (h_CB_addAct s).2.2)))) else (if x1 = (4 : Int32) then (if (f_CB_order s x2).1 = 0 then ((f_CB_order s x2).2.1, (f_CB_order s x2).2.2) else (if (f_CB_order s x2).1 = 1 then ((-9999999 : Int32), (f_CB_order s x2).2.2) else (if (f_CB_order s x2).1 = 2 then ((-9999999 : Int32), (f_CB_order s x2).2.2) else ((-9999999 : Int32), (f_CB_order s x2).2.2)))) else (if x1 = (5 : Int32) then (if (h_CB_type s x2 x3).1 = 0 then ((h_CB_type s x2 x3).2.1, (h_CB_type s x2 x3).2.2) else (if (h_CB_type s x2 x3).1 = 1 then ((-9999999 : Int32), (h_CB_type s x2 x3).2.2) else (if (h_CB_type s x2 x3).1 = 2 then ((-9999999 : Int32), (h_CB_type s x2 x3).2.2) else ((-9999999 : Int32), (h_CB_type s x2 x3).2.2)))) else (if x1 = (6 : Int32) then (if (h_CB_enter s x2).1 = 0 then ((h_CB_enter s x2).2.1, (h_CB_enter s x2).2.2) else (if (h_CB_enter s x2).1 = 1 then ((-9999999 : Int32), (h_CB_enter s x2).2.2) else (if (h_CB_enter s x2).1 = 2 then ((-9999999 : Int32), (h_CB_enter s x2).2.2) else ((-9999999 : Int32), (h_CB_enter s x2).2.2)))) else (if x1 = (7 : Int32) then (if (h_CB_enterInside s x2 x3).1 = 0 then ((h_CB_enterInside s x2 x3).2.1, (h_CB_enterInside s x2 x3).2.2) else (if (h_CB_enterInside s x2 x3).1 = 1 then ((-9999999 : Int32), (h_CB_enterInside s x2 x3).2.2) else (if (h_CB_enterInside s x2 x3).1 = 2 then ((-9999999 : Int32), (h_CB_enterInside s x2 x3).2.2) else ((-9999999 : Int32), (h_CB_enterInside s x2 x3).2.2)))) else (if x1 = (8 : Int32) then (if (h_CB_remove s x2 x3).1 = 0 then (if (h_CB_remove s x2 x3).2.1 = 0 then ((0 : Int32), (h_CB_remove s x2 x3).2.2) else ((1 : Int32), (h_CB_remove s x2 x3).2.2)) else (if (h_CB_remove s x2 x3).1 = 1 then ((-9999999 : Int32), (h_CB_remove s x2 x3).2.2) else (if (h_CB_remove s x2 x3).1 = 2 then ((-9999999 : Int32), (h_CB_remove s x2 x3).2.2) else ((-9999999 : Int32), (h_CB_remove s x2 x3).2.2)))) else (if x1 = (9 : Int32) then (if (f_LH_opens s x2 x3).1 = 0 then ((f_LH_opens s x2 x3).2.1, (f_LH_opens s x2 x3).2.2) else (if (f_LH_opens s x2 x3).1 = 1 then ((-9999999 : Int32), (f_LH_opens s x2 x3).2.2) else (if (f_LH_opens s x2 x3).1 = 2 then ((-9999999 : Int32), (f_LH_opens s x2 x3).2.2) else ((-9999999 : Int32), (f_LH_opens s x2 x3).2.2)))) else (if x1 = (10 : Int32) then (if (h_CB_undo s).1 = 0 then ((h_CB_undo s).2.1, (h_CB_undo s).2.2) else (if (h_CB_undo s).1 = 1 then ((-9999999 : Int32), (h_CB_undo s).2.2) else (if (h_CB_undo s).1 = 2 then ((-9999999 : Int32), (h_CB_undo s).2.2) else ((-9999999 : Int32), (h_CB_undo s).2.2)))) else (if (h_CB_run s x2).1 = 0 then (if (h_CB_run s x2).2.1 = 0 then ((0 : Int32), (h_CB_run s x2).2.2) else ((1 : Int32), (h_CB_run s x2).2.2)) else (if (h_CB_run s x2).1 = 1 then ((-9999999 : Int32), (h_CB_run s x2).2.2) else (if (h_CB_run s x2).1 = 2 then ((-9999999 : Int32), (h_CB_run s x2).2.2) else ((-9999999 : Int32), (h_CB_run s x2).2.2)))))))))))))))
def p_LH_does  (s : am_M) (x1 : Int32) (x2 : Int32) (x3 : Int32) (x4 : Int32) : Prop := ((x1 = 0) → ((h_CB_addTable s).1 = 0 ∨ (h_CB_addTable s).1 = 1 ∨ (h_CB_addTable s).1 = 2 ∨ (h_CB_addTable s).1 = 3) ∧ ((((h_CB_addTable s).1 = 0) → True) ∧ (¬ ((h_CB_addTable s).1 = 0) → (((h_CB_addTable s).1 = 1) → True) ∧ (¬ ((h_CB_addTable s).1 = 1) → (((h_CB_addTable s).1 = 2) → True) ∧ (¬ ((h_CB_addTable s).1 = 2) → True))))) ∧ (¬ (x1 = 0) → ((x1 = (1 : Int32)) → p_CB_addNumber s x2 x3 x4 ∧ (((h_CB_addNumber s x2 x3 x4).1 = 0 ∨ (h_CB_addNumber s x2 x3 x4).1 = 1 ∨ (h_CB_addNumber s x2 x3 x4).1 = 2 ∨ (h_CB_addNumber s x2 x3 x4).1 = 3) ∧ ((((h_CB_addNumber s x2 x3 x4).1 = 0) → True) ∧ (¬ ((h_CB_addNumber s x2 x3 x4).1 = 0) → (((h_CB_addNumber s x2 x3 x4).1 = 1) → True) ∧ (¬ ((h_CB_addNumber s x2 x3 x4).1 = 1) → (((h_CB_addNumber s x2 x3 x4).1 = 2) → True) ∧ (¬ ((h_CB_addNumber s x2 x3 x4).1 = 2) → True)))))) ∧ (¬ (x1 = (1 : Int32)) → ((x1 = (2 : Int32)) → p_CB_addLink s x2 x3 x4 ∧ (((h_CB_addLink s x2 x3 x4).1 = 0 ∨ (h_CB_addLink s x2 x3 x4).1 = 1 ∨ (h_CB_addLink s x2 x3 x4).1 = 2 ∨ (h_CB_addLink s x2 x3 x4).1 = 3) ∧ ((((h_CB_addLink s x2 x3 x4).1 = 0) → True) ∧ (¬ ((h_CB_addLink s x2 x3 x4).1 = 0) → (((h_CB_addLink s x2 x3 x4).1 = 1) → True) ∧ (¬ ((h_CB_addLink s x2 x3 x4).1 = 1) → (((h_CB_addLink s x2 x3 x4).1 = 2) → True) ∧ (¬ ((h_CB_addLink s x2 x3 x4).1 = 2) → True)))))) ∧ (¬ (x1 = (2 : Int32)) → ((x1 = (3 : Int32)) → ((h_CB_addAct s).1 = 0 ∨ (h_CB_addAct s).1 = 1 ∨ (h_CB_addAct s).1 = 2 ∨ (h_CB_addAct s).1 = 3) ∧ ((((h_CB_addAct s).1 = 0) → True) ∧ (¬ ((h_CB_addAct s).1 = 0) → (((h_CB_addAct s).1 = 1) → True) ∧ (¬ ((h_CB_addAct s).1 = 1) → (((h_CB_addAct s).1 = 2) → True) ∧ (¬ ((h_CB_addAct s).1 = 2) → True))))) ∧ (¬ (x1 = (3 : Int32)) → ((x1 = (4 : Int32)) → p_CB_order s x2 ∧ (((f_CB_order s x2).1 = 0 ∨ (f_CB_order s x2).1 = 1 ∨ (f_CB_order s x2).1 = 2 ∨ (f_CB_order s x2).1 = 3) ∧ ((((f_CB_order s x2).1 = 0) → True) ∧ (¬ ((f_CB_order s x2).1 = 0) → (((f_CB_order s x2).1 = 1) → True) ∧ (¬ ((f_CB_order s x2).1 = 1) → (((f_CB_order s x2).1 = 2) → True) ∧ (¬ ((f_CB_order s x2).1 = 2) → True)))))) ∧ (¬ (x1 = (4 : Int32)) → ((x1 = (5 : Int32)) → p_CB_type s x2 x3 ∧ (((h_CB_type s x2 x3).1 = 0 ∨ (h_CB_type s x2 x3).1 = 1 ∨ (h_CB_type s x2 x3).1 = 2 ∨ (h_CB_type s x2 x3).1 = 3) ∧ ((((h_CB_type s x2 x3).1 = 0) → True) ∧ (¬ ((h_CB_type s x2 x3).1 = 0) → (((h_CB_type s x2 x3).1 = 1) → True) ∧ (¬ ((h_CB_type s x2 x3).1 = 1) → (((h_CB_type s x2 x3).1 = 2) → True) ∧ (¬ ((h_CB_type s x2 x3).1 = 2) → True)))))) ∧ (¬ (x1 = (5 : Int32)) → ((x1 = (6 : Int32)) → p_CB_enter s x2 ∧ (((h_CB_enter s x2).1 = 0 ∨ (h_CB_enter s x2).1 = 1 ∨ (h_CB_enter s x2).1 = 2 ∨ (h_CB_enter s x2).1 = 3) ∧ ((((h_CB_enter s x2).1 = 0) → True) ∧ (¬ ((h_CB_enter s x2).1 = 0) → (((h_CB_enter s x2).1 = 1) → True) ∧ (¬ ((h_CB_enter s x2).1 = 1) → (((h_CB_enter s x2).1 = 2) → True) ∧ (¬ ((h_CB_enter s x2).1 = 2) → True)))))) ∧ (¬ (x1 = (6 : Int32)) → ((x1 = (7 : Int32)) → p_CB_enterInside s x2 x3 ∧ (((h_CB_enterInside s x2 x3).1 = 0 ∨ (h_CB_enterInside s x2 x3).1 = 1 ∨ (h_CB_enterInside s x2 x3).1 = 2 ∨ (h_CB_enterInside s x2 x3).1 = 3) ∧ ((((h_CB_enterInside s x2 x3).1 = 0) → True) ∧ (¬ ((h_CB_enterInside s x2 x3).1 = 0) → (((h_CB_enterInside s x2 x3).1 = 1) → True) ∧ (¬ ((h_CB_enterInside s x2 x3).1 = 1) → (((h_CB_enterInside s x2 x3).1 = 2) → True) ∧ (¬ ((h_CB_enterInside s x2 x3).1 = 2) → True)))))) ∧ (¬ (x1 = (7 : Int32)) → ((x1 = (8 : Int32)) → p_CB_remove s x2 x3 ∧ (((h_CB_remove s x2 x3).1 = 0 ∨ (h_CB_remove s x2 x3).1 = 1 ∨ (h_CB_remove s x2 x3).1 = 2 ∨ (h_CB_remove s x2 x3).1 = 3) ∧ ((((h_CB_remove s x2 x3).1 = 0) → (((h_CB_remove s x2 x3).2.1 = 0) → True) ∧ (¬ ((h_CB_remove s x2 x3).2.1 = 0) → True)) ∧ (¬ ((h_CB_remove s x2 x3).1 = 0) → (((h_CB_remove s x2 x3).1 = 1) → True) ∧ (¬ ((h_CB_remove s x2 x3).1 = 1) → (((h_CB_remove s x2 x3).1 = 2) → True) ∧ (¬ ((h_CB_remove s x2 x3).1 = 2) → True)))))) ∧ (¬ (x1 = (8 : Int32)) → ((x1 = (9 : Int32)) → p_LH_opens s x2 x3 ∧ (((f_LH_opens s x2 x3).1 = 0 ∨ (f_LH_opens s x2 x3).1 = 1 ∨ (f_LH_opens s x2 x3).1 = 2 ∨ (f_LH_opens s x2 x3).1 = 3) ∧ ((((f_LH_opens s x2 x3).1 = 0) → True) ∧ (¬ ((f_LH_opens s x2 x3).1 = 0) → (((f_LH_opens s x2 x3).1 = 1) → True) ∧ (¬ ((f_LH_opens s x2 x3).1 = 1) → (((f_LH_opens s x2 x3).1 = 2) → True) ∧ (¬ ((f_LH_opens s x2 x3).1 = 2) → True)))))) ∧ (¬ (x1 = (9 : Int32)) → ((x1 = (10 : Int32)) → p_CB_undo s ∧ (((h_CB_undo s).1 = 0 ∨ (h_CB_undo s).1 = 1 ∨ (h_CB_undo s).1 = 2 ∨ (h_CB_undo s).1 = 3) ∧ ((((h_CB_undo s).1 = 0) → True) ∧ (¬ ((h_CB_undo s).1 = 0) → (((h_CB_undo s).1 = 1) → True) ∧ (¬ ((h_CB_undo s).1 = 1) → (((h_CB_undo s).1 = 2) → True) ∧ (¬ ((h_CB_undo s).1 = 2) → True)))))) ∧ (¬ (x1 = (10 : Int32)) → p_CB_run s x2 ∧ (((h_CB_run s x2).1 = 0 ∨ (h_CB_run s x2).1 = 1 ∨ (h_CB_run s x2).1 = 2 ∨ (h_CB_run s x2).1 = 3) ∧ ((((h_CB_run s x2).1 = 0) → (((h_CB_run s x2).2.1 = 0) → True) ∧ (¬ ((h_CB_run s x2).2.1 = 0) → True)) ∧ (¬ ((h_CB_run s x2).1 = 0) → (((h_CB_run s x2).1 = 1) → True) ∧ (¬ ((h_CB_run s x2).1 = 1) → (((h_CB_run s x2).1 = 2) → True) ∧ (¬ ((h_CB_run s x2).1 = 2) → True))))))))))))))))
set_option maxRecDepth 8000 in
theorem w_LH_does {l : Launch} {g : am_Gl} (hg : g.2.2.2.1 = true) {ad0 : Nat → Nat} {s : am_M} {x1 : Int32} {x2 : Int32} {x3 : Int32} {x4 : Int32} (h : p_LH_does s x1 x2 x3 x4) : AW l g m_LH_does 207 ad0 (am_oC (f_LH_does s x1 x2 x3 x4)) 0 0 207 s 0 [(0, .ref 0), (1, .int x1), (2, .int x2), (3, .int x3), (4, .int x4)] [] := by
  refine am_iload_n (j := 1) d_LH_does_0 rfl rfl ?_
  refine ai_ne (F := am_oC) (tgt := 11) d_LH_does_1 (by decide) (fun c => ?_) (fun c => ?_)
  · have h := h.2 c
    refine am_iload_n (j := 1) d_LH_does_11 rfl rfl ?_
    refine am_iconst (v := (1 : Int32)) d_LH_does_12 (by decide) ?_
    refine aj_ne (F := am_oC) (tgt := 27) d_LH_does_13 (by decide) (fun c => ?_) (fun c => ?_)
    · have h := h.2 c
      refine am_iload_n (j := 1) d_LH_does_27 rfl rfl ?_
      refine am_iconst (v := (2 : Int32)) d_LH_does_28 (by decide) ?_
      refine aj_ne (F := am_oC) (tgt := 43) d_LH_does_29 (by decide) (fun c => ?_) (fun c => ?_)
      · have h := h.2 c
        refine am_iload_n (j := 1) d_LH_does_43 rfl rfl ?_
        refine am_iconst (v := (3 : Int32)) d_LH_does_44 (by decide) ?_
        refine aj_ne (F := am_oC) (tgt := 55) d_LH_does_45 (by decide) (fun c => ?_) (fun c => ?_)
        · have h := h.2 c
          refine am_iload_n (j := 1) d_LH_does_55 rfl rfl ?_
          refine am_iconst (v := (4 : Int32)) d_LH_does_56 (by decide) ?_
          refine aj_ne (F := am_oC) (tgt := 68) d_LH_does_57 (by decide) (fun c => ?_) (fun c => ?_)
          · have h := h.2 c
            refine am_iload_n (j := 1) d_LH_does_68 rfl rfl ?_
            refine am_iconst (v := (5 : Int32)) d_LH_does_69 (by decide) ?_
            refine aj_ne (F := am_oC) (tgt := 82) d_LH_does_70 (by decide) (fun c => ?_) (fun c => ?_)
            · have h := h.2 c
              refine am_iload_n (j := 1) d_LH_does_82 rfl rfl ?_
              refine am_bipush (v := (6 : Int32)) d_LH_does_83 (by decide) ?_
              refine aj_ne (F := am_oC) (tgt := 96) d_LH_does_85 (by decide) (fun c => ?_) (fun c => ?_)
              · have h := h.2 c
                refine am_iload_n (j := 1) d_LH_does_96 rfl rfl ?_
                refine am_bipush (v := (7 : Int32)) d_LH_does_97 (by decide) ?_
                refine aj_ne (F := am_oC) (tgt := 111) d_LH_does_99 (by decide) (fun c => ?_) (fun c => ?_)
                · have h := h.2 c
                  refine am_iload_n (j := 1) d_LH_does_111 rfl rfl ?_
                  refine am_bipush (v := (8 : Int32)) d_LH_does_112 (by decide) ?_
                  refine aj_ne (F := am_oC) (tgt := 134) d_LH_does_114 (by decide) (fun c => ?_) (fun c => ?_)
                  · have h := h.2 c
                    refine am_iload_n (j := 1) d_LH_does_134 rfl rfl ?_
                    refine am_bipush (v := (9 : Int32)) d_LH_does_135 (by decide) ?_
                    refine aj_ne (F := am_oC) (tgt := 149) d_LH_does_137 (by decide) (fun c => ?_) (fun c => ?_)
                    · have h := h.2 c
                      refine am_iload_n (j := 1) d_LH_does_149 rfl rfl ?_
                      refine am_bipush (v := (10 : Int32)) d_LH_does_150 (by decide) ?_
                      refine aj_ne (F := am_oC) (tgt := 162) d_LH_does_152 (by decide) (fun c => ?_) (fun c => ?_)
                      · have h := h.2 c
                        refine am_aload_n (j := 0) d_LH_does_162 rfl rfl ?_
                        refine am_iload_n (j := 2) d_LH_does_163 rfl rfl ?_
                        obtain ⟨hc, h⟩ := h
                        obtain ⟨hz, h⟩ := h
                        refine am_caseN (F := am_oC) (q := (h_CB_run s x2).1) (c := 0) (fun c0 => ?_) (fun c0 => ?_)
                        · have h := h.1 c0
                          refine ak_EH (as := [.int x2]) (rest := []) d_LH_does_164 cw_LH_does_164 rfl (ch_CB_run hg hc) rfl rfl (by decide) sh_0 rfl (Nat.le_of_ble_eq_true rfl) (by decide) (by decide) (fun n => absurd c0 n) (fun _ => ?_)
                          refine ai_eq (F := am_oC) (tgt := 174) d_LH_does_167 (by decide) (fun c => ?_) (fun c => ?_)
                          · have h := h.1 c
                            refine am_iconst (v := (0 : Int32)) d_LH_does_174 (by decide) ?_
                            exact am_iret d_LH_does_175 rfl rfl (by decide) (by decide) am_oC_ok
                          · have h := h.2 c
                            refine am_iconst (v := (1 : Int32)) d_LH_does_170 (by decide) ?_
                            refine am_goto (tgt := 175) d_LH_does_171 (by decide) ?_
                            exact am_iret d_LH_does_175 rfl rfl (by decide) (by decide) am_oC_ok
                        · have h := h.2 c0
                          refine am_caseN (F := am_oC) (q := (h_CB_run s x2).1) (c := 1) (fun c1 => ?_) (fun c1 => ?_)
                          · have h := h.1 c1
                            refine ak_EH (as := [.int x2]) (rest := []) d_LH_does_164 cw_LH_does_164 rfl (ch_CB_run hg hc) rfl rfl (by decide) sh_0 rfl (Nat.le_of_ble_eq_true rfl) (by decide) (by decide) (fun _ => ⟨176, by rw [c1]; exact hd_LH_does_1, fun q9 => ?_⟩) (fun n => absurd n c0)
                            refine am_astoreS (lv2 := [(5, .retAddr q9), (0, .ref 0), (1, .int x1), (2, .int x2), (3, .int x3), (4, .int x4)]) d_LH_does_176 (by decide) rfl ?_
                            refine am_ldc (v := (-9999999 : Int32)) d_LH_does_178 aw_3_220 ?_
                            exact am_iret d_LH_does_180 rfl rfl (by decide) (by decide) am_oC_ok
                          · have h := h.2 c1
                            refine am_caseN (F := am_oC) (q := (h_CB_run s x2).1) (c := 2) (fun c2 => ?_) (fun c2 => ?_)
                            · have h := h.1 c2
                              refine ak_EH (as := [.int x2]) (rest := []) d_LH_does_164 cw_LH_does_164 rfl (ch_CB_run hg hc) rfl rfl (by decide) sh_0 rfl (Nat.le_of_ble_eq_true rfl) (by decide) (by decide) (fun _ => ⟨181, by rw [c2]; exact hd_LH_does_2, fun q9 => ?_⟩) (fun n => absurd n c0)
                              refine am_astoreS (lv2 := [(5, .retAddr q9), (0, .ref 0), (1, .int x1), (2, .int x2), (3, .int x3), (4, .int x4)]) d_LH_does_181 (by decide) rfl ?_
                              refine am_ldc (v := (-9999999 : Int32)) d_LH_does_183 aw_3_220 ?_
                              exact am_iret d_LH_does_185 rfl rfl (by decide) (by decide) am_oC_ok
                            · have h := h.2 c2
                              have c3 : (h_CB_run s x2).1 = 3 := by rcases hz with z | z | z | z <;> first | exact z | exact absurd z c0 | exact absurd z c1 | exact absurd z c2
                              refine ak_EH (as := [.int x2]) (rest := []) d_LH_does_164 cw_LH_does_164 rfl (ch_CB_run hg hc) rfl rfl (by decide) sh_0 rfl (Nat.le_of_ble_eq_true rfl) (by decide) (by decide) (fun _ => ⟨186, by rw [c3]; exact hd_LH_does_3, fun q9 => ?_⟩) (fun n => absurd n c0)
                              refine am_astoreS (lv2 := [(5, .retAddr q9), (0, .ref 0), (1, .int x1), (2, .int x2), (3, .int x3), (4, .int x4)]) d_LH_does_186 (by decide) rfl ?_
                              refine am_ldc (v := (-9999999 : Int32)) d_LH_does_188 aw_3_220 ?_
                              exact am_iret d_LH_does_190 rfl rfl (by decide) (by decide) am_oC_ok
                      · have h := h.1 c
                        refine am_aload_n (j := 0) d_LH_does_155 rfl rfl ?_
                        obtain ⟨hc, h⟩ := h
                        obtain ⟨hz, h⟩ := h
                        refine am_caseN (F := am_oC) (q := (h_CB_undo s).1) (c := 0) (fun c0 => ?_) (fun c0 => ?_)
                        · have h := h.1 c0
                          refine ak_EH (as := []) (rest := []) d_LH_does_156 cw_LH_does_156 rfl (ch_CB_undo hg hc) rfl rfl (by decide) sh_0 rfl (Nat.le_of_ble_eq_true rfl) (by decide) (by decide) (fun n => absurd c0 n) (fun _ => ?_)
                          refine am_goto (tgt := 175) d_LH_does_159 (by decide) ?_
                          exact am_iret d_LH_does_175 rfl rfl (by decide) (by decide) am_oC_ok
                        · have h := h.2 c0
                          refine am_caseN (F := am_oC) (q := (h_CB_undo s).1) (c := 1) (fun c1 => ?_) (fun c1 => ?_)
                          · have h := h.1 c1
                            refine ak_EH (as := []) (rest := []) d_LH_does_156 cw_LH_does_156 rfl (ch_CB_undo hg hc) rfl rfl (by decide) sh_0 rfl (Nat.le_of_ble_eq_true rfl) (by decide) (by decide) (fun _ => ⟨176, by rw [c1]; exact hd_LH_does_1, fun q9 => ?_⟩) (fun n => absurd n c0)
                            refine am_astoreS (lv2 := [(5, .retAddr q9), (0, .ref 0), (1, .int x1), (2, .int x2), (3, .int x3), (4, .int x4)]) d_LH_does_176 (by decide) rfl ?_
                            refine am_ldc (v := (-9999999 : Int32)) d_LH_does_178 aw_3_220 ?_
                            exact am_iret d_LH_does_180 rfl rfl (by decide) (by decide) am_oC_ok
                          · have h := h.2 c1
                            refine am_caseN (F := am_oC) (q := (h_CB_undo s).1) (c := 2) (fun c2 => ?_) (fun c2 => ?_)
                            · have h := h.1 c2
                              refine ak_EH (as := []) (rest := []) d_LH_does_156 cw_LH_does_156 rfl (ch_CB_undo hg hc) rfl rfl (by decide) sh_0 rfl (Nat.le_of_ble_eq_true rfl) (by decide) (by decide) (fun _ => ⟨181, by rw [c2]; exact hd_LH_does_2, fun q9 => ?_⟩) (fun n => absurd n c0)
                              refine am_astoreS (lv2 := [(5, .retAddr q9), (0, .ref 0), (1, .int x1), (2, .int x2), (3, .int x3), (4, .int x4)]) d_LH_does_181 (by decide) rfl ?_
                              refine am_ldc (v := (-9999999 : Int32)) d_LH_does_183 aw_3_220 ?_
                              exact am_iret d_LH_does_185 rfl rfl (by decide) (by decide) am_oC_ok
                            · have h := h.2 c2
                              have c3 : (h_CB_undo s).1 = 3 := by rcases hz with z | z | z | z <;> first | exact z | exact absurd z c0 | exact absurd z c1 | exact absurd z c2
                              refine ak_EH (as := []) (rest := []) d_LH_does_156 cw_LH_does_156 rfl (ch_CB_undo hg hc) rfl rfl (by decide) sh_0 rfl (Nat.le_of_ble_eq_true rfl) (by decide) (by decide) (fun _ => ⟨186, by rw [c3]; exact hd_LH_does_3, fun q9 => ?_⟩) (fun n => absurd n c0)
                              refine am_astoreS (lv2 := [(5, .retAddr q9), (0, .ref 0), (1, .int x1), (2, .int x2), (3, .int x3), (4, .int x4)]) d_LH_does_186 (by decide) rfl ?_
                              refine am_ldc (v := (-9999999 : Int32)) d_LH_does_188 aw_3_220 ?_
                              exact am_iret d_LH_does_190 rfl rfl (by decide) (by decide) am_oC_ok
                    · have h := h.1 c
                      refine am_aload_n (j := 0) d_LH_does_140 rfl rfl ?_
                      refine am_iload_n (j := 2) d_LH_does_141 rfl rfl ?_
                      refine am_iload_n (j := 3) d_LH_does_142 rfl rfl ?_
                      obtain ⟨hc, h⟩ := h
                      obtain ⟨hz, h⟩ := h
                      refine am_caseN (F := am_oC) (q := (f_LH_opens s x2 x3).1) (c := 0) (fun c0 => ?_) (fun c0 => ?_)
                      · have h := h.1 c0
                        refine ak_EHS (as := [.ref 0, .int x2, .int x3]) (rest := []) d_LH_does_143 cw_LH_does_143 rfl (ct_LH_opens hg hc) rfl rfl (Nat.le_of_ble_eq_true rfl) (by decide) (by decide) (fun n => absurd c0 n) (fun _ => ?_)
                        refine am_goto (tgt := 175) d_LH_does_146 (by decide) ?_
                        exact am_iret d_LH_does_175 rfl rfl (by decide) (by decide) am_oC_ok
                      · have h := h.2 c0
                        refine am_caseN (F := am_oC) (q := (f_LH_opens s x2 x3).1) (c := 1) (fun c1 => ?_) (fun c1 => ?_)
                        · have h := h.1 c1
                          refine ak_EHS (as := [.ref 0, .int x2, .int x3]) (rest := []) d_LH_does_143 cw_LH_does_143 rfl (ct_LH_opens hg hc) rfl rfl (Nat.le_of_ble_eq_true rfl) (by decide) (by decide) (fun _ => ⟨176, by rw [c1]; exact hd_LH_does_1, fun q9 => ?_⟩) (fun n => absurd n c0)
                          refine am_astoreS (lv2 := [(5, .retAddr q9), (0, .ref 0), (1, .int x1), (2, .int x2), (3, .int x3), (4, .int x4)]) d_LH_does_176 (by decide) rfl ?_
                          refine am_ldc (v := (-9999999 : Int32)) d_LH_does_178 aw_3_220 ?_
                          exact am_iret d_LH_does_180 rfl rfl (by decide) (by decide) am_oC_ok
                        · have h := h.2 c1
                          refine am_caseN (F := am_oC) (q := (f_LH_opens s x2 x3).1) (c := 2) (fun c2 => ?_) (fun c2 => ?_)
                          · have h := h.1 c2
                            refine ak_EHS (as := [.ref 0, .int x2, .int x3]) (rest := []) d_LH_does_143 cw_LH_does_143 rfl (ct_LH_opens hg hc) rfl rfl (Nat.le_of_ble_eq_true rfl) (by decide) (by decide) (fun _ => ⟨181, by rw [c2]; exact hd_LH_does_2, fun q9 => ?_⟩) (fun n => absurd n c0)
                            refine am_astoreS (lv2 := [(5, .retAddr q9), (0, .ref 0), (1, .int x1), (2, .int x2), (3, .int x3), (4, .int x4)]) d_LH_does_181 (by decide) rfl ?_
                            refine am_ldc (v := (-9999999 : Int32)) d_LH_does_183 aw_3_220 ?_
                            exact am_iret d_LH_does_185 rfl rfl (by decide) (by decide) am_oC_ok
                          · have h := h.2 c2
                            have c3 : (f_LH_opens s x2 x3).1 = 3 := by rcases hz with z | z | z | z <;> first | exact z | exact absurd z c0 | exact absurd z c1 | exact absurd z c2
                            refine ak_EHS (as := [.ref 0, .int x2, .int x3]) (rest := []) d_LH_does_143 cw_LH_does_143 rfl (ct_LH_opens hg hc) rfl rfl (Nat.le_of_ble_eq_true rfl) (by decide) (by decide) (fun _ => ⟨186, by rw [c3]; exact hd_LH_does_3, fun q9 => ?_⟩) (fun n => absurd n c0)
                            refine am_astoreS (lv2 := [(5, .retAddr q9), (0, .ref 0), (1, .int x1), (2, .int x2), (3, .int x3), (4, .int x4)]) d_LH_does_186 (by decide) rfl ?_
                            refine am_ldc (v := (-9999999 : Int32)) d_LH_does_188 aw_3_220 ?_
                            exact am_iret d_LH_does_190 rfl rfl (by decide) (by decide) am_oC_ok
                  · have h := h.1 c
                    refine am_aload_n (j := 0) d_LH_does_117 rfl rfl ?_
                    refine am_iload_n (j := 2) d_LH_does_118 rfl rfl ?_
                    refine am_iload_n (j := 3) d_LH_does_119 rfl rfl ?_
                    obtain ⟨hc, h⟩ := h
                    obtain ⟨hz, h⟩ := h
                    refine am_caseN (F := am_oC) (q := (h_CB_remove s x2 x3).1) (c := 0) (fun c0 => ?_) (fun c0 => ?_)
                    · have h := h.1 c0
                      refine ak_EH (as := [.int x2, .int x3]) (rest := []) d_LH_does_120 cw_LH_does_120 rfl (ch_CB_remove hg hc) rfl rfl (by decide) sh_0 rfl (Nat.le_of_ble_eq_true rfl) (by decide) (by decide) (fun n => absurd c0 n) (fun _ => ?_)
                      refine ai_eq (F := am_oC) (tgt := 130) d_LH_does_123 (by decide) (fun c => ?_) (fun c => ?_)
                      · have h := h.1 c
                        refine am_iconst (v := (0 : Int32)) d_LH_does_130 (by decide) ?_
                        refine am_goto (tgt := 175) d_LH_does_131 (by decide) ?_
                        exact am_iret d_LH_does_175 rfl rfl (by decide) (by decide) am_oC_ok
                      · have h := h.2 c
                        refine am_iconst (v := (1 : Int32)) d_LH_does_126 (by decide) ?_
                        refine am_goto (tgt := 175) d_LH_does_127 (by decide) ?_
                        exact am_iret d_LH_does_175 rfl rfl (by decide) (by decide) am_oC_ok
                    · have h := h.2 c0
                      refine am_caseN (F := am_oC) (q := (h_CB_remove s x2 x3).1) (c := 1) (fun c1 => ?_) (fun c1 => ?_)
                      · have h := h.1 c1
                        refine ak_EH (as := [.int x2, .int x3]) (rest := []) d_LH_does_120 cw_LH_does_120 rfl (ch_CB_remove hg hc) rfl rfl (by decide) sh_0 rfl (Nat.le_of_ble_eq_true rfl) (by decide) (by decide) (fun _ => ⟨176, by rw [c1]; exact hd_LH_does_1, fun q9 => ?_⟩) (fun n => absurd n c0)
                        refine am_astoreS (lv2 := [(5, .retAddr q9), (0, .ref 0), (1, .int x1), (2, .int x2), (3, .int x3), (4, .int x4)]) d_LH_does_176 (by decide) rfl ?_
                        refine am_ldc (v := (-9999999 : Int32)) d_LH_does_178 aw_3_220 ?_
                        exact am_iret d_LH_does_180 rfl rfl (by decide) (by decide) am_oC_ok
                      · have h := h.2 c1
                        refine am_caseN (F := am_oC) (q := (h_CB_remove s x2 x3).1) (c := 2) (fun c2 => ?_) (fun c2 => ?_)
                        · have h := h.1 c2
                          refine ak_EH (as := [.int x2, .int x3]) (rest := []) d_LH_does_120 cw_LH_does_120 rfl (ch_CB_remove hg hc) rfl rfl (by decide) sh_0 rfl (Nat.le_of_ble_eq_true rfl) (by decide) (by decide) (fun _ => ⟨181, by rw [c2]; exact hd_LH_does_2, fun q9 => ?_⟩) (fun n => absurd n c0)
                          refine am_astoreS (lv2 := [(5, .retAddr q9), (0, .ref 0), (1, .int x1), (2, .int x2), (3, .int x3), (4, .int x4)]) d_LH_does_181 (by decide) rfl ?_
                          refine am_ldc (v := (-9999999 : Int32)) d_LH_does_183 aw_3_220 ?_
                          exact am_iret d_LH_does_185 rfl rfl (by decide) (by decide) am_oC_ok
                        · have h := h.2 c2
                          have c3 : (h_CB_remove s x2 x3).1 = 3 := by rcases hz with z | z | z | z <;> first | exact z | exact absurd z c0 | exact absurd z c1 | exact absurd z c2
                          refine ak_EH (as := [.int x2, .int x3]) (rest := []) d_LH_does_120 cw_LH_does_120 rfl (ch_CB_remove hg hc) rfl rfl (by decide) sh_0 rfl (Nat.le_of_ble_eq_true rfl) (by decide) (by decide) (fun _ => ⟨186, by rw [c3]; exact hd_LH_does_3, fun q9 => ?_⟩) (fun n => absurd n c0)
                          refine am_astoreS (lv2 := [(5, .retAddr q9), (0, .ref 0), (1, .int x1), (2, .int x2), (3, .int x3), (4, .int x4)]) d_LH_does_186 (by decide) rfl ?_
                          refine am_ldc (v := (-9999999 : Int32)) d_LH_does_188 aw_3_220 ?_
                          exact am_iret d_LH_does_190 rfl rfl (by decide) (by decide) am_oC_ok
                · have h := h.1 c
                  refine am_aload_n (j := 0) d_LH_does_102 rfl rfl ?_
                  refine am_iload_n (j := 2) d_LH_does_103 rfl rfl ?_
                  refine am_iload_n (j := 3) d_LH_does_104 rfl rfl ?_
                  obtain ⟨hc, h⟩ := h
                  obtain ⟨hz, h⟩ := h
                  refine am_caseN (F := am_oC) (q := (h_CB_enterInside s x2 x3).1) (c := 0) (fun c0 => ?_) (fun c0 => ?_)
                  · have h := h.1 c0
                    refine ak_EH (as := [.int x2, .int x3]) (rest := []) d_LH_does_105 cw_LH_does_105 rfl (ch_CB_enterInside hg hc) rfl rfl (by decide) sh_0 rfl (Nat.le_of_ble_eq_true rfl) (by decide) (by decide) (fun n => absurd c0 n) (fun _ => ?_)
                    refine am_goto (tgt := 175) d_LH_does_108 (by decide) ?_
                    exact am_iret d_LH_does_175 rfl rfl (by decide) (by decide) am_oC_ok
                  · have h := h.2 c0
                    refine am_caseN (F := am_oC) (q := (h_CB_enterInside s x2 x3).1) (c := 1) (fun c1 => ?_) (fun c1 => ?_)
                    · have h := h.1 c1
                      refine ak_EH (as := [.int x2, .int x3]) (rest := []) d_LH_does_105 cw_LH_does_105 rfl (ch_CB_enterInside hg hc) rfl rfl (by decide) sh_0 rfl (Nat.le_of_ble_eq_true rfl) (by decide) (by decide) (fun _ => ⟨176, by rw [c1]; exact hd_LH_does_1, fun q9 => ?_⟩) (fun n => absurd n c0)
                      refine am_astoreS (lv2 := [(5, .retAddr q9), (0, .ref 0), (1, .int x1), (2, .int x2), (3, .int x3), (4, .int x4)]) d_LH_does_176 (by decide) rfl ?_
                      refine am_ldc (v := (-9999999 : Int32)) d_LH_does_178 aw_3_220 ?_
                      exact am_iret d_LH_does_180 rfl rfl (by decide) (by decide) am_oC_ok
                    · have h := h.2 c1
                      refine am_caseN (F := am_oC) (q := (h_CB_enterInside s x2 x3).1) (c := 2) (fun c2 => ?_) (fun c2 => ?_)
                      · have h := h.1 c2
                        refine ak_EH (as := [.int x2, .int x3]) (rest := []) d_LH_does_105 cw_LH_does_105 rfl (ch_CB_enterInside hg hc) rfl rfl (by decide) sh_0 rfl (Nat.le_of_ble_eq_true rfl) (by decide) (by decide) (fun _ => ⟨181, by rw [c2]; exact hd_LH_does_2, fun q9 => ?_⟩) (fun n => absurd n c0)
                        refine am_astoreS (lv2 := [(5, .retAddr q9), (0, .ref 0), (1, .int x1), (2, .int x2), (3, .int x3), (4, .int x4)]) d_LH_does_181 (by decide) rfl ?_
                        refine am_ldc (v := (-9999999 : Int32)) d_LH_does_183 aw_3_220 ?_
                        exact am_iret d_LH_does_185 rfl rfl (by decide) (by decide) am_oC_ok
                      · have h := h.2 c2
                        have c3 : (h_CB_enterInside s x2 x3).1 = 3 := by rcases hz with z | z | z | z <;> first | exact z | exact absurd z c0 | exact absurd z c1 | exact absurd z c2
                        refine ak_EH (as := [.int x2, .int x3]) (rest := []) d_LH_does_105 cw_LH_does_105 rfl (ch_CB_enterInside hg hc) rfl rfl (by decide) sh_0 rfl (Nat.le_of_ble_eq_true rfl) (by decide) (by decide) (fun _ => ⟨186, by rw [c3]; exact hd_LH_does_3, fun q9 => ?_⟩) (fun n => absurd n c0)
                        refine am_astoreS (lv2 := [(5, .retAddr q9), (0, .ref 0), (1, .int x1), (2, .int x2), (3, .int x3), (4, .int x4)]) d_LH_does_186 (by decide) rfl ?_
                        refine am_ldc (v := (-9999999 : Int32)) d_LH_does_188 aw_3_220 ?_
                        exact am_iret d_LH_does_190 rfl rfl (by decide) (by decide) am_oC_ok
              · have h := h.1 c
                refine am_aload_n (j := 0) d_LH_does_88 rfl rfl ?_
                refine am_iload_n (j := 2) d_LH_does_89 rfl rfl ?_
                obtain ⟨hc, h⟩ := h
                obtain ⟨hz, h⟩ := h
                refine am_caseN (F := am_oC) (q := (h_CB_enter s x2).1) (c := 0) (fun c0 => ?_) (fun c0 => ?_)
                · have h := h.1 c0
                  refine ak_EH (as := [.int x2]) (rest := []) d_LH_does_90 cw_LH_does_90 rfl (ch_CB_enter hg hc) rfl rfl (by decide) sh_0 rfl (Nat.le_of_ble_eq_true rfl) (by decide) (by decide) (fun n => absurd c0 n) (fun _ => ?_)
                  refine am_goto (tgt := 175) d_LH_does_93 (by decide) ?_
                  exact am_iret d_LH_does_175 rfl rfl (by decide) (by decide) am_oC_ok
                · have h := h.2 c0
                  refine am_caseN (F := am_oC) (q := (h_CB_enter s x2).1) (c := 1) (fun c1 => ?_) (fun c1 => ?_)
                  · have h := h.1 c1
                    refine ak_EH (as := [.int x2]) (rest := []) d_LH_does_90 cw_LH_does_90 rfl (ch_CB_enter hg hc) rfl rfl (by decide) sh_0 rfl (Nat.le_of_ble_eq_true rfl) (by decide) (by decide) (fun _ => ⟨176, by rw [c1]; exact hd_LH_does_1, fun q9 => ?_⟩) (fun n => absurd n c0)
                    refine am_astoreS (lv2 := [(5, .retAddr q9), (0, .ref 0), (1, .int x1), (2, .int x2), (3, .int x3), (4, .int x4)]) d_LH_does_176 (by decide) rfl ?_
                    refine am_ldc (v := (-9999999 : Int32)) d_LH_does_178 aw_3_220 ?_
                    exact am_iret d_LH_does_180 rfl rfl (by decide) (by decide) am_oC_ok
                  · have h := h.2 c1
                    refine am_caseN (F := am_oC) (q := (h_CB_enter s x2).1) (c := 2) (fun c2 => ?_) (fun c2 => ?_)
                    · have h := h.1 c2
                      refine ak_EH (as := [.int x2]) (rest := []) d_LH_does_90 cw_LH_does_90 rfl (ch_CB_enter hg hc) rfl rfl (by decide) sh_0 rfl (Nat.le_of_ble_eq_true rfl) (by decide) (by decide) (fun _ => ⟨181, by rw [c2]; exact hd_LH_does_2, fun q9 => ?_⟩) (fun n => absurd n c0)
                      refine am_astoreS (lv2 := [(5, .retAddr q9), (0, .ref 0), (1, .int x1), (2, .int x2), (3, .int x3), (4, .int x4)]) d_LH_does_181 (by decide) rfl ?_
                      refine am_ldc (v := (-9999999 : Int32)) d_LH_does_183 aw_3_220 ?_
                      exact am_iret d_LH_does_185 rfl rfl (by decide) (by decide) am_oC_ok
                    · have h := h.2 c2
                      have c3 : (h_CB_enter s x2).1 = 3 := by rcases hz with z | z | z | z <;> first | exact z | exact absurd z c0 | exact absurd z c1 | exact absurd z c2
                      refine ak_EH (as := [.int x2]) (rest := []) d_LH_does_90 cw_LH_does_90 rfl (ch_CB_enter hg hc) rfl rfl (by decide) sh_0 rfl (Nat.le_of_ble_eq_true rfl) (by decide) (by decide) (fun _ => ⟨186, by rw [c3]; exact hd_LH_does_3, fun q9 => ?_⟩) (fun n => absurd n c0)
                      refine am_astoreS (lv2 := [(5, .retAddr q9), (0, .ref 0), (1, .int x1), (2, .int x2), (3, .int x3), (4, .int x4)]) d_LH_does_186 (by decide) rfl ?_
                      refine am_ldc (v := (-9999999 : Int32)) d_LH_does_188 aw_3_220 ?_
                      exact am_iret d_LH_does_190 rfl rfl (by decide) (by decide) am_oC_ok
            · have h := h.1 c
              refine am_aload_n (j := 0) d_LH_does_73 rfl rfl ?_
              refine am_iload_n (j := 2) d_LH_does_74 rfl rfl ?_
              refine am_iload_n (j := 3) d_LH_does_75 rfl rfl ?_
              obtain ⟨hc, h⟩ := h
              obtain ⟨hz, h⟩ := h
              refine am_caseN (F := am_oC) (q := (h_CB_type s x2 x3).1) (c := 0) (fun c0 => ?_) (fun c0 => ?_)
              · have h := h.1 c0
                refine ak_EH (as := [.int x2, .int x3]) (rest := []) d_LH_does_76 cw_LH_does_76 rfl (ch_CB_type hg hc) rfl rfl (by decide) sh_0 rfl (Nat.le_of_ble_eq_true rfl) (by decide) (by decide) (fun n => absurd c0 n) (fun _ => ?_)
                refine am_goto (tgt := 175) d_LH_does_79 (by decide) ?_
                exact am_iret d_LH_does_175 rfl rfl (by decide) (by decide) am_oC_ok
              · have h := h.2 c0
                refine am_caseN (F := am_oC) (q := (h_CB_type s x2 x3).1) (c := 1) (fun c1 => ?_) (fun c1 => ?_)
                · have h := h.1 c1
                  refine ak_EH (as := [.int x2, .int x3]) (rest := []) d_LH_does_76 cw_LH_does_76 rfl (ch_CB_type hg hc) rfl rfl (by decide) sh_0 rfl (Nat.le_of_ble_eq_true rfl) (by decide) (by decide) (fun _ => ⟨176, by rw [c1]; exact hd_LH_does_1, fun q9 => ?_⟩) (fun n => absurd n c0)
                  refine am_astoreS (lv2 := [(5, .retAddr q9), (0, .ref 0), (1, .int x1), (2, .int x2), (3, .int x3), (4, .int x4)]) d_LH_does_176 (by decide) rfl ?_
                  refine am_ldc (v := (-9999999 : Int32)) d_LH_does_178 aw_3_220 ?_
                  exact am_iret d_LH_does_180 rfl rfl (by decide) (by decide) am_oC_ok
                · have h := h.2 c1
                  refine am_caseN (F := am_oC) (q := (h_CB_type s x2 x3).1) (c := 2) (fun c2 => ?_) (fun c2 => ?_)
                  · have h := h.1 c2
                    refine ak_EH (as := [.int x2, .int x3]) (rest := []) d_LH_does_76 cw_LH_does_76 rfl (ch_CB_type hg hc) rfl rfl (by decide) sh_0 rfl (Nat.le_of_ble_eq_true rfl) (by decide) (by decide) (fun _ => ⟨181, by rw [c2]; exact hd_LH_does_2, fun q9 => ?_⟩) (fun n => absurd n c0)
                    refine am_astoreS (lv2 := [(5, .retAddr q9), (0, .ref 0), (1, .int x1), (2, .int x2), (3, .int x3), (4, .int x4)]) d_LH_does_181 (by decide) rfl ?_
                    refine am_ldc (v := (-9999999 : Int32)) d_LH_does_183 aw_3_220 ?_
                    exact am_iret d_LH_does_185 rfl rfl (by decide) (by decide) am_oC_ok
                  · have h := h.2 c2
                    have c3 : (h_CB_type s x2 x3).1 = 3 := by rcases hz with z | z | z | z <;> first | exact z | exact absurd z c0 | exact absurd z c1 | exact absurd z c2
                    refine ak_EH (as := [.int x2, .int x3]) (rest := []) d_LH_does_76 cw_LH_does_76 rfl (ch_CB_type hg hc) rfl rfl (by decide) sh_0 rfl (Nat.le_of_ble_eq_true rfl) (by decide) (by decide) (fun _ => ⟨186, by rw [c3]; exact hd_LH_does_3, fun q9 => ?_⟩) (fun n => absurd n c0)
                    refine am_astoreS (lv2 := [(5, .retAddr q9), (0, .ref 0), (1, .int x1), (2, .int x2), (3, .int x3), (4, .int x4)]) d_LH_does_186 (by decide) rfl ?_
                    refine am_ldc (v := (-9999999 : Int32)) d_LH_does_188 aw_3_220 ?_
                    exact am_iret d_LH_does_190 rfl rfl (by decide) (by decide) am_oC_ok
          · have h := h.1 c
            refine am_aload_n (j := 0) d_LH_does_60 rfl rfl ?_
            refine am_iload_n (j := 2) d_LH_does_61 rfl rfl ?_
            obtain ⟨hc, h⟩ := h
            obtain ⟨hz, h⟩ := h
            refine am_caseN (F := am_oC) (q := (f_CB_order s x2).1) (c := 0) (fun c0 => ?_) (fun c0 => ?_)
            · have h := h.1 c0
              refine ak_EH (as := [.int x2]) (rest := []) d_LH_does_62 cw_LH_does_62 rfl (ct_CB_order hg hc) rfl rfl (by decide) sh_0 rfl (Nat.le_of_ble_eq_true rfl) (by decide) (by decide) (fun n => absurd c0 n) (fun _ => ?_)
              refine am_goto (tgt := 175) d_LH_does_65 (by decide) ?_
              exact am_iret d_LH_does_175 rfl rfl (by decide) (by decide) am_oC_ok
            · have h := h.2 c0
              refine am_caseN (F := am_oC) (q := (f_CB_order s x2).1) (c := 1) (fun c1 => ?_) (fun c1 => ?_)
              · have h := h.1 c1
                refine ak_EH (as := [.int x2]) (rest := []) d_LH_does_62 cw_LH_does_62 rfl (ct_CB_order hg hc) rfl rfl (by decide) sh_0 rfl (Nat.le_of_ble_eq_true rfl) (by decide) (by decide) (fun _ => ⟨176, by rw [c1]; exact hd_LH_does_1, fun q9 => ?_⟩) (fun n => absurd n c0)
                refine am_astoreS (lv2 := [(5, .retAddr q9), (0, .ref 0), (1, .int x1), (2, .int x2), (3, .int x3), (4, .int x4)]) d_LH_does_176 (by decide) rfl ?_
                refine am_ldc (v := (-9999999 : Int32)) d_LH_does_178 aw_3_220 ?_
                exact am_iret d_LH_does_180 rfl rfl (by decide) (by decide) am_oC_ok
              · have h := h.2 c1
                refine am_caseN (F := am_oC) (q := (f_CB_order s x2).1) (c := 2) (fun c2 => ?_) (fun c2 => ?_)
                · have h := h.1 c2
                  refine ak_EH (as := [.int x2]) (rest := []) d_LH_does_62 cw_LH_does_62 rfl (ct_CB_order hg hc) rfl rfl (by decide) sh_0 rfl (Nat.le_of_ble_eq_true rfl) (by decide) (by decide) (fun _ => ⟨181, by rw [c2]; exact hd_LH_does_2, fun q9 => ?_⟩) (fun n => absurd n c0)
                  refine am_astoreS (lv2 := [(5, .retAddr q9), (0, .ref 0), (1, .int x1), (2, .int x2), (3, .int x3), (4, .int x4)]) d_LH_does_181 (by decide) rfl ?_
                  refine am_ldc (v := (-9999999 : Int32)) d_LH_does_183 aw_3_220 ?_
                  exact am_iret d_LH_does_185 rfl rfl (by decide) (by decide) am_oC_ok
                · have h := h.2 c2
                  have c3 : (f_CB_order s x2).1 = 3 := by rcases hz with z | z | z | z <;> first | exact z | exact absurd z c0 | exact absurd z c1 | exact absurd z c2
                  refine ak_EH (as := [.int x2]) (rest := []) d_LH_does_62 cw_LH_does_62 rfl (ct_CB_order hg hc) rfl rfl (by decide) sh_0 rfl (Nat.le_of_ble_eq_true rfl) (by decide) (by decide) (fun _ => ⟨186, by rw [c3]; exact hd_LH_does_3, fun q9 => ?_⟩) (fun n => absurd n c0)
                  refine am_astoreS (lv2 := [(5, .retAddr q9), (0, .ref 0), (1, .int x1), (2, .int x2), (3, .int x3), (4, .int x4)]) d_LH_does_186 (by decide) rfl ?_
                  refine am_ldc (v := (-9999999 : Int32)) d_LH_does_188 aw_3_220 ?_
                  exact am_iret d_LH_does_190 rfl rfl (by decide) (by decide) am_oC_ok
        · have h := h.1 c
          refine am_aload_n (j := 0) d_LH_does_48 rfl rfl ?_
          obtain ⟨hz, h⟩ := h
          refine am_caseN (F := am_oC) (q := (h_CB_addAct s).1) (c := 0) (fun c0 => ?_) (fun c0 => ?_)
          · have h := h.1 c0
            refine ak_EH (as := []) (rest := []) d_LH_does_49 cw_LH_does_49 rfl (ch_CB_addAct hg) rfl rfl (by decide) sh_0 rfl (Nat.le_of_ble_eq_true rfl) (by decide) (by decide) (fun n => absurd c0 n) (fun _ => ?_)
            refine am_goto (tgt := 175) d_LH_does_52 (by decide) ?_
            exact am_iret d_LH_does_175 rfl rfl (by decide) (by decide) am_oC_ok
          · have h := h.2 c0
            refine am_caseN (F := am_oC) (q := (h_CB_addAct s).1) (c := 1) (fun c1 => ?_) (fun c1 => ?_)
            · have h := h.1 c1
              refine ak_EH (as := []) (rest := []) d_LH_does_49 cw_LH_does_49 rfl (ch_CB_addAct hg) rfl rfl (by decide) sh_0 rfl (Nat.le_of_ble_eq_true rfl) (by decide) (by decide) (fun _ => ⟨176, by rw [c1]; exact hd_LH_does_1, fun q9 => ?_⟩) (fun n => absurd n c0)
              refine am_astoreS (lv2 := [(5, .retAddr q9), (0, .ref 0), (1, .int x1), (2, .int x2), (3, .int x3), (4, .int x4)]) d_LH_does_176 (by decide) rfl ?_
              refine am_ldc (v := (-9999999 : Int32)) d_LH_does_178 aw_3_220 ?_
              exact am_iret d_LH_does_180 rfl rfl (by decide) (by decide) am_oC_ok
            · have h := h.2 c1
              refine am_caseN (F := am_oC) (q := (h_CB_addAct s).1) (c := 2) (fun c2 => ?_) (fun c2 => ?_)
              · have h := h.1 c2
                refine ak_EH (as := []) (rest := []) d_LH_does_49 cw_LH_does_49 rfl (ch_CB_addAct hg) rfl rfl (by decide) sh_0 rfl (Nat.le_of_ble_eq_true rfl) (by decide) (by decide) (fun _ => ⟨181, by rw [c2]; exact hd_LH_does_2, fun q9 => ?_⟩) (fun n => absurd n c0)
                refine am_astoreS (lv2 := [(5, .retAddr q9), (0, .ref 0), (1, .int x1), (2, .int x2), (3, .int x3), (4, .int x4)]) d_LH_does_181 (by decide) rfl ?_
                refine am_ldc (v := (-9999999 : Int32)) d_LH_does_183 aw_3_220 ?_
                exact am_iret d_LH_does_185 rfl rfl (by decide) (by decide) am_oC_ok
              · have h := h.2 c2
                have c3 : (h_CB_addAct s).1 = 3 := by rcases hz with z | z | z | z <;> first | exact z | exact absurd z c0 | exact absurd z c1 | exact absurd z c2
                refine ak_EH (as := []) (rest := []) d_LH_does_49 cw_LH_does_49 rfl (ch_CB_addAct hg) rfl rfl (by decide) sh_0 rfl (Nat.le_of_ble_eq_true rfl) (by decide) (by decide) (fun _ => ⟨186, by rw [c3]; exact hd_LH_does_3, fun q9 => ?_⟩) (fun n => absurd n c0)
                refine am_astoreS (lv2 := [(5, .retAddr q9), (0, .ref 0), (1, .int x1), (2, .int x2), (3, .int x3), (4, .int x4)]) d_LH_does_186 (by decide) rfl ?_
                refine am_ldc (v := (-9999999 : Int32)) d_LH_does_188 aw_3_220 ?_
                exact am_iret d_LH_does_190 rfl rfl (by decide) (by decide) am_oC_ok
      · have h := h.1 c
        refine am_aload_n (j := 0) d_LH_does_32 rfl rfl ?_
        refine am_iload_n (j := 2) d_LH_does_33 rfl rfl ?_
        refine am_iload_n (j := 3) d_LH_does_34 rfl rfl ?_
        refine am_iload (j := 4) d_LH_does_35 rfl ?_
        obtain ⟨hc, h⟩ := h
        obtain ⟨hz, h⟩ := h
        refine am_caseN (F := am_oC) (q := (h_CB_addLink s x2 x3 x4).1) (c := 0) (fun c0 => ?_) (fun c0 => ?_)
        · have h := h.1 c0
          refine ak_EH (as := [.int x2, .int x3, .int x4]) (rest := []) d_LH_does_37 cw_LH_does_37 rfl (ch_CB_addLink hg hc) rfl rfl (by decide) sh_0 rfl (Nat.le_of_ble_eq_true rfl) (by decide) (by decide) (fun n => absurd c0 n) (fun _ => ?_)
          refine am_goto (tgt := 175) d_LH_does_40 (by decide) ?_
          exact am_iret d_LH_does_175 rfl rfl (by decide) (by decide) am_oC_ok
        · have h := h.2 c0
          refine am_caseN (F := am_oC) (q := (h_CB_addLink s x2 x3 x4).1) (c := 1) (fun c1 => ?_) (fun c1 => ?_)
          · have h := h.1 c1
            refine ak_EH (as := [.int x2, .int x3, .int x4]) (rest := []) d_LH_does_37 cw_LH_does_37 rfl (ch_CB_addLink hg hc) rfl rfl (by decide) sh_0 rfl (Nat.le_of_ble_eq_true rfl) (by decide) (by decide) (fun _ => ⟨176, by rw [c1]; exact hd_LH_does_1, fun q9 => ?_⟩) (fun n => absurd n c0)
            refine am_astoreS (lv2 := [(5, .retAddr q9), (0, .ref 0), (1, .int x1), (2, .int x2), (3, .int x3), (4, .int x4)]) d_LH_does_176 (by decide) rfl ?_
            refine am_ldc (v := (-9999999 : Int32)) d_LH_does_178 aw_3_220 ?_
            exact am_iret d_LH_does_180 rfl rfl (by decide) (by decide) am_oC_ok
          · have h := h.2 c1
            refine am_caseN (F := am_oC) (q := (h_CB_addLink s x2 x3 x4).1) (c := 2) (fun c2 => ?_) (fun c2 => ?_)
            · have h := h.1 c2
              refine ak_EH (as := [.int x2, .int x3, .int x4]) (rest := []) d_LH_does_37 cw_LH_does_37 rfl (ch_CB_addLink hg hc) rfl rfl (by decide) sh_0 rfl (Nat.le_of_ble_eq_true rfl) (by decide) (by decide) (fun _ => ⟨181, by rw [c2]; exact hd_LH_does_2, fun q9 => ?_⟩) (fun n => absurd n c0)
              refine am_astoreS (lv2 := [(5, .retAddr q9), (0, .ref 0), (1, .int x1), (2, .int x2), (3, .int x3), (4, .int x4)]) d_LH_does_181 (by decide) rfl ?_
              refine am_ldc (v := (-9999999 : Int32)) d_LH_does_183 aw_3_220 ?_
              exact am_iret d_LH_does_185 rfl rfl (by decide) (by decide) am_oC_ok
            · have h := h.2 c2
              have c3 : (h_CB_addLink s x2 x3 x4).1 = 3 := by rcases hz with z | z | z | z <;> first | exact z | exact absurd z c0 | exact absurd z c1 | exact absurd z c2
              refine ak_EH (as := [.int x2, .int x3, .int x4]) (rest := []) d_LH_does_37 cw_LH_does_37 rfl (ch_CB_addLink hg hc) rfl rfl (by decide) sh_0 rfl (Nat.le_of_ble_eq_true rfl) (by decide) (by decide) (fun _ => ⟨186, by rw [c3]; exact hd_LH_does_3, fun q9 => ?_⟩) (fun n => absurd n c0)
              refine am_astoreS (lv2 := [(5, .retAddr q9), (0, .ref 0), (1, .int x1), (2, .int x2), (3, .int x3), (4, .int x4)]) d_LH_does_186 (by decide) rfl ?_
              refine am_ldc (v := (-9999999 : Int32)) d_LH_does_188 aw_3_220 ?_
              exact am_iret d_LH_does_190 rfl rfl (by decide) (by decide) am_oC_ok
    · have h := h.1 c
      refine am_aload_n (j := 0) d_LH_does_16 rfl rfl ?_
      refine am_iload_n (j := 2) d_LH_does_17 rfl rfl ?_
      refine am_iload_n (j := 3) d_LH_does_18 rfl rfl ?_
      refine am_iload (j := 4) d_LH_does_19 rfl ?_
      obtain ⟨hc, h⟩ := h
      obtain ⟨hz, h⟩ := h
      refine am_caseN (F := am_oC) (q := (h_CB_addNumber s x2 x3 x4).1) (c := 0) (fun c0 => ?_) (fun c0 => ?_)
      · have h := h.1 c0
        refine ak_EH (as := [.int x2, .int x3, .int x4]) (rest := []) d_LH_does_21 cw_LH_does_21 rfl (ch_CB_addNumber hg hc) rfl rfl (by decide) sh_0 rfl (Nat.le_of_ble_eq_true rfl) (by decide) (by decide) (fun n => absurd c0 n) (fun _ => ?_)
        refine am_goto (tgt := 175) d_LH_does_24 (by decide) ?_
        exact am_iret d_LH_does_175 rfl rfl (by decide) (by decide) am_oC_ok
      · have h := h.2 c0
        refine am_caseN (F := am_oC) (q := (h_CB_addNumber s x2 x3 x4).1) (c := 1) (fun c1 => ?_) (fun c1 => ?_)
        · have h := h.1 c1
          refine ak_EH (as := [.int x2, .int x3, .int x4]) (rest := []) d_LH_does_21 cw_LH_does_21 rfl (ch_CB_addNumber hg hc) rfl rfl (by decide) sh_0 rfl (Nat.le_of_ble_eq_true rfl) (by decide) (by decide) (fun _ => ⟨176, by rw [c1]; exact hd_LH_does_1, fun q9 => ?_⟩) (fun n => absurd n c0)
          refine am_astoreS (lv2 := [(5, .retAddr q9), (0, .ref 0), (1, .int x1), (2, .int x2), (3, .int x3), (4, .int x4)]) d_LH_does_176 (by decide) rfl ?_
          refine am_ldc (v := (-9999999 : Int32)) d_LH_does_178 aw_3_220 ?_
          exact am_iret d_LH_does_180 rfl rfl (by decide) (by decide) am_oC_ok
        · have h := h.2 c1
          refine am_caseN (F := am_oC) (q := (h_CB_addNumber s x2 x3 x4).1) (c := 2) (fun c2 => ?_) (fun c2 => ?_)
          · have h := h.1 c2
            refine ak_EH (as := [.int x2, .int x3, .int x4]) (rest := []) d_LH_does_21 cw_LH_does_21 rfl (ch_CB_addNumber hg hc) rfl rfl (by decide) sh_0 rfl (Nat.le_of_ble_eq_true rfl) (by decide) (by decide) (fun _ => ⟨181, by rw [c2]; exact hd_LH_does_2, fun q9 => ?_⟩) (fun n => absurd n c0)
            refine am_astoreS (lv2 := [(5, .retAddr q9), (0, .ref 0), (1, .int x1), (2, .int x2), (3, .int x3), (4, .int x4)]) d_LH_does_181 (by decide) rfl ?_
            refine am_ldc (v := (-9999999 : Int32)) d_LH_does_183 aw_3_220 ?_
            exact am_iret d_LH_does_185 rfl rfl (by decide) (by decide) am_oC_ok
          · have h := h.2 c2
            have c3 : (h_CB_addNumber s x2 x3 x4).1 = 3 := by rcases hz with z | z | z | z <;> first | exact z | exact absurd z c0 | exact absurd z c1 | exact absurd z c2
            refine ak_EH (as := [.int x2, .int x3, .int x4]) (rest := []) d_LH_does_21 cw_LH_does_21 rfl (ch_CB_addNumber hg hc) rfl rfl (by decide) sh_0 rfl (Nat.le_of_ble_eq_true rfl) (by decide) (by decide) (fun _ => ⟨186, by rw [c3]; exact hd_LH_does_3, fun q9 => ?_⟩) (fun n => absurd n c0)
            refine am_astoreS (lv2 := [(5, .retAddr q9), (0, .ref 0), (1, .int x1), (2, .int x2), (3, .int x3), (4, .int x4)]) d_LH_does_186 (by decide) rfl ?_
            refine am_ldc (v := (-9999999 : Int32)) d_LH_does_188 aw_3_220 ?_
            exact am_iret d_LH_does_190 rfl rfl (by decide) (by decide) am_oC_ok
  · have h := h.1 c
    refine am_aload_n (j := 0) d_LH_does_4 rfl rfl ?_
    obtain ⟨hz, h⟩ := h
    refine am_caseN (F := am_oC) (q := (h_CB_addTable s).1) (c := 0) (fun c0 => ?_) (fun c0 => ?_)
    · have h := h.1 c0
      refine ak_EH (as := []) (rest := []) d_LH_does_5 cw_LH_does_5 rfl (ch_CB_addTable hg) rfl rfl (by decide) sh_0 rfl (Nat.le_of_ble_eq_true rfl) (by decide) (by decide) (fun n => absurd c0 n) (fun _ => ?_)
      refine am_goto (tgt := 175) d_LH_does_8 (by decide) ?_
      exact am_iret d_LH_does_175 rfl rfl (by decide) (by decide) am_oC_ok
    · have h := h.2 c0
      refine am_caseN (F := am_oC) (q := (h_CB_addTable s).1) (c := 1) (fun c1 => ?_) (fun c1 => ?_)
      · have h := h.1 c1
        refine ak_EH (as := []) (rest := []) d_LH_does_5 cw_LH_does_5 rfl (ch_CB_addTable hg) rfl rfl (by decide) sh_0 rfl (Nat.le_of_ble_eq_true rfl) (by decide) (by decide) (fun _ => ⟨176, by rw [c1]; exact hd_LH_does_1, fun q9 => ?_⟩) (fun n => absurd n c0)
        refine am_astoreS (lv2 := [(5, .retAddr q9), (0, .ref 0), (1, .int x1), (2, .int x2), (3, .int x3), (4, .int x4)]) d_LH_does_176 (by decide) rfl ?_
        refine am_ldc (v := (-9999999 : Int32)) d_LH_does_178 aw_3_220 ?_
        exact am_iret d_LH_does_180 rfl rfl (by decide) (by decide) am_oC_ok
      · have h := h.2 c1
        refine am_caseN (F := am_oC) (q := (h_CB_addTable s).1) (c := 2) (fun c2 => ?_) (fun c2 => ?_)
        · have h := h.1 c2
          refine ak_EH (as := []) (rest := []) d_LH_does_5 cw_LH_does_5 rfl (ch_CB_addTable hg) rfl rfl (by decide) sh_0 rfl (Nat.le_of_ble_eq_true rfl) (by decide) (by decide) (fun _ => ⟨181, by rw [c2]; exact hd_LH_does_2, fun q9 => ?_⟩) (fun n => absurd n c0)
          refine am_astoreS (lv2 := [(5, .retAddr q9), (0, .ref 0), (1, .int x1), (2, .int x2), (3, .int x3), (4, .int x4)]) d_LH_does_181 (by decide) rfl ?_
          refine am_ldc (v := (-9999999 : Int32)) d_LH_does_183 aw_3_220 ?_
          exact am_iret d_LH_does_185 rfl rfl (by decide) (by decide) am_oC_ok
        · have h := h.2 c2
          have c3 : (h_CB_addTable s).1 = 3 := by rcases hz with z | z | z | z <;> first | exact z | exact absurd z c0 | exact absurd z c1 | exact absurd z c2
          refine ak_EH (as := []) (rest := []) d_LH_does_5 cw_LH_does_5 rfl (ch_CB_addTable hg) rfl rfl (by decide) sh_0 rfl (Nat.le_of_ble_eq_true rfl) (by decide) (by decide) (fun _ => ⟨186, by rw [c3]; exact hd_LH_does_3, fun q9 => ?_⟩) (fun n => absurd n c0)
          refine am_astoreS (lv2 := [(5, .retAddr q9), (0, .ref 0), (1, .int x1), (2, .int x2), (3, .int x3), (4, .int x4)]) d_LH_does_186 (by decide) rfl ?_
          refine am_ldc (v := (-9999999 : Int32)) d_LH_does_188 aw_3_220 ?_
          exact am_iret d_LH_does_190 rfl rfl (by decide) (by decide) am_oC_ok
theorem ct_LH_does {l : Launch} {g : am_Gl} (hg : g.2.2.2.1 = true) {s : am_M} {x1 : Int32} {x2 : Int32} {x3 : Int32} {x4 : Int32} (h : p_LH_does s x1 x2 x3 x4) : AC l g m_LH_does 207 s [.ref 0, .int x1, .int x2, .int x3, .int x4] (am_oC (f_LH_does s x1 x2 x3 x4)) := am_enterH ok_LH_does rfl rfl (Nat.le_of_ble_eq_true rfl) rfl (fun ad0 => w_LH_does hg h)
theorem cw_LH_sets_286 : am_cv m_LH_sets m_CB_wouldLoseAll 107 2 := ⟨⟨ok_CB_wouldLoseAll, rfl, by decide +kernel, by decide, by decide⟩, aw_4_157, aw_4_158, aw_4_159⟩
theorem cw_LH_sets_277 : am_cv m_LH_sets m_CB_wouldLose 104 4 := ⟨⟨ok_CB_wouldLose, rfl, by decide +kernel, by decide, by decide⟩, aw_4_149, aw_4_150, aw_4_151⟩
theorem cw_LH_sets_258 : am_cv m_LH_sets m_CB_cell 101 3 := ⟨⟨ok_CB_cell, rfl, by decide +kernel, by decide, by decide⟩, aw_4_144, aw_4_145, aw_4_146⟩
theorem cw_LH_sets_241 : am_cv m_LH_sets m_CB_choice 97 4 := ⟨⟨ok_CB_choice, rfl, by decide +kernel, by decide, by decide⟩, aw_4_135, aw_4_136, aw_4_137⟩
theorem cw_LH_sets_214 : am_cv m_LH_sets m_CB_put 94 4 := ⟨⟨ok_CB_put, rfl, by decide +kernel, by decide, by decide⟩, aw_4_131, aw_4_132, aw_4_133⟩
theorem cw_LH_sets_195 : am_cv m_LH_sets m_CB_addRule 91 5 := ⟨⟨ok_CB_addRule, rfl, by decide +kernel, by decide, by decide⟩, aw_4_119, aw_4_120, aw_4_121⟩
theorem cw_LH_sets_174 : am_cv m_LH_sets m_CB_setRemoval 88 3 := ⟨⟨ok_CB_setRemoval, rfl, by decide +kernel, by decide, by decide⟩, aw_4_115, aw_4_116, aw_4_117⟩
theorem cw_LH_sets_149 : am_cv m_LH_sets m_CB_drop 85 2 := ⟨⟨ok_CB_drop, rfl, by decide +kernel, by decide, by decide⟩, aw_4_81, aw_4_82, aw_4_83⟩
theorem cw_LH_sets_127 : am_cv m_LH_sets m_CB_narrow 81 4 := ⟨⟨ok_CB_narrow, rfl, by decide +kernel, by decide, by decide⟩, aw_4_69, aw_4_70, aw_4_71⟩
theorem cw_LH_sets_101 : am_cv m_LH_sets m_CB_single 78 3 := ⟨⟨ok_CB_single, rfl, by decide +kernel, by decide, by decide⟩, aw_4_61, aw_4_62, aw_4_63⟩
theorem cw_LH_sets_68 : am_cv m_LH_sets m_CB_need 74 3 := ⟨⟨ok_CB_need, rfl, by decide +kernel, by decide, by decide⟩, aw_4_48, aw_4_49, aw_4_50⟩
theorem cw_LH_sets_35 : am_cv m_LH_sets m_CB_reckonAnew 70 6 := ⟨⟨ok_CB_reckonAnew, rfl, by decide +kernel, by decide, by decide⟩, aw_4_40, aw_4_41, aw_4_42⟩
theorem cw_LH_sets_13 : am_cv m_LH_sets m_CB_addReckoned 66 5 := ⟨⟨ok_CB_addReckoned, rfl, by decide +kernel, by decide, by decide⟩, aw_3_224, aw_3_225, aw_3_226⟩
theorem hd_LH_sets_1 : am_hd m_LH_sets 101 (am_exn 1) 290 := ⟨[], ⟨0, 289, 290, 55⟩, [⟨0, 289, 295, 58⟩, ⟨0, 289, 300, 60⟩], rfl, by decide, rfl, by decide, aw_1_196, by decide +kernel, fun z h => absurd h List.not_mem_nil⟩
theorem hd_LH_sets_1 : am_hd m_LH_sets 127 (am_exn 1) 290 := ⟨[], ⟨0, 289, 290, 55⟩, [⟨0, 289, 295, 58⟩, ⟨0, 289, 300, 60⟩], rfl, by decide, rfl, by decide, aw_1_196, by decide +kernel, fun z h => absurd h List.not_mem_nil⟩
theorem hd_LH_sets_1 : am_hd m_LH_sets 13 (am_exn 1) 290 := ⟨[], ⟨0, 289, 290, 55⟩, [⟨0, 289, 295, 58⟩, ⟨0, 289, 300, 60⟩], rfl, by decide, rfl, by decide, aw_1_196, by decide +kernel, fun z h => absurd h List.not_mem_nil⟩
theorem hd_LH_sets_1 : am_hd m_LH_sets 149 (am_exn 1) 290 := ⟨[], ⟨0, 289, 290, 55⟩, [⟨0, 289, 295, 58⟩, ⟨0, 289, 300, 60⟩], rfl, by decide, rfl, by decide, aw_1_196, by decide +kernel, fun z h => absurd h List.not_mem_nil⟩
theorem hd_LH_sets_1 : am_hd m_LH_sets 174 (am_exn 1) 290 := ⟨[], ⟨0, 289, 290, 55⟩, [⟨0, 289, 295, 58⟩, ⟨0, 289, 300, 60⟩], rfl, by decide, rfl, by decide, aw_1_196, by decide +kernel, fun z h => absurd h List.not_mem_nil⟩
theorem hd_LH_sets_1 : am_hd m_LH_sets 195 (am_exn 1) 290 := ⟨[], ⟨0, 289, 290, 55⟩, [⟨0, 289, 295, 58⟩, ⟨0, 289, 300, 60⟩], rfl, by decide, rfl, by decide, aw_1_196, by decide +kernel, fun z h => absurd h List.not_mem_nil⟩
theorem hd_LH_sets_1 : am_hd m_LH_sets 214 (am_exn 1) 290 := ⟨[], ⟨0, 289, 290, 55⟩, [⟨0, 289, 295, 58⟩, ⟨0, 289, 300, 60⟩], rfl, by decide, rfl, by decide, aw_1_196, by decide +kernel, fun z h => absurd h List.not_mem_nil⟩
theorem hd_LH_sets_1 : am_hd m_LH_sets 241 (am_exn 1) 290 := ⟨[], ⟨0, 289, 290, 55⟩, [⟨0, 289, 295, 58⟩, ⟨0, 289, 300, 60⟩], rfl, by decide, rfl, by decide, aw_1_196, by decide +kernel, fun z h => absurd h List.not_mem_nil⟩
theorem hd_LH_sets_1 : am_hd m_LH_sets 258 (am_exn 1) 290 := ⟨[], ⟨0, 289, 290, 55⟩, [⟨0, 289, 295, 58⟩, ⟨0, 289, 300, 60⟩], rfl, by decide, rfl, by decide, aw_1_196, by decide +kernel, fun z h => absurd h List.not_mem_nil⟩
theorem hd_LH_sets_1 : am_hd m_LH_sets 277 (am_exn 1) 290 := ⟨[], ⟨0, 289, 290, 55⟩, [⟨0, 289, 295, 58⟩, ⟨0, 289, 300, 60⟩], rfl, by decide, rfl, by decide, aw_1_196, by decide +kernel, fun z h => absurd h List.not_mem_nil⟩
theorem hd_LH_sets_1 : am_hd m_LH_sets 286 (am_exn 1) 290 := ⟨[], ⟨0, 289, 290, 55⟩, [⟨0, 289, 295, 58⟩, ⟨0, 289, 300, 60⟩], rfl, by decide, rfl, by decide, aw_1_196, by decide +kernel, fun z h => absurd h List.not_mem_nil⟩
theorem hd_LH_sets_1 : am_hd m_LH_sets 35 (am_exn 1) 290 := ⟨[], ⟨0, 289, 290, 55⟩, [⟨0, 289, 295, 58⟩, ⟨0, 289, 300, 60⟩], rfl, by decide, rfl, by decide, aw_1_196, by decide +kernel, fun z h => absurd h List.not_mem_nil⟩
theorem hd_LH_sets_1 : am_hd m_LH_sets 68 (am_exn 1) 290 := ⟨[], ⟨0, 289, 290, 55⟩, [⟨0, 289, 295, 58⟩, ⟨0, 289, 300, 60⟩], rfl, by decide, rfl, by decide, aw_1_196, by decide +kernel, fun z h => absurd h List.not_mem_nil⟩
theorem hd_LH_sets_2 : am_hd m_LH_sets 101 (am_exn 2) 295 := ⟨[⟨0, 289, 290, 55⟩], ⟨0, 289, 295, 58⟩, [⟨0, 289, 300, 60⟩], rfl, by decide, rfl, by decide, aw_1_197, by decide +kernel, List.forall_mem_cons.mpr ⟨Or.inr ⟨by decide, "java/lang/IndexOutOfBoundsException", aw_1_196, by decide⟩, fun z h => absurd h List.not_mem_nil⟩⟩
theorem hd_LH_sets_2 : am_hd m_LH_sets 127 (am_exn 2) 295 := ⟨[⟨0, 289, 290, 55⟩], ⟨0, 289, 295, 58⟩, [⟨0, 289, 300, 60⟩], rfl, by decide, rfl, by decide, aw_1_197, by decide +kernel, List.forall_mem_cons.mpr ⟨Or.inr ⟨by decide, "java/lang/IndexOutOfBoundsException", aw_1_196, by decide⟩, fun z h => absurd h List.not_mem_nil⟩⟩
theorem hd_LH_sets_2 : am_hd m_LH_sets 13 (am_exn 2) 295 := ⟨[⟨0, 289, 290, 55⟩], ⟨0, 289, 295, 58⟩, [⟨0, 289, 300, 60⟩], rfl, by decide, rfl, by decide, aw_1_197, by decide +kernel, List.forall_mem_cons.mpr ⟨Or.inr ⟨by decide, "java/lang/IndexOutOfBoundsException", aw_1_196, by decide⟩, fun z h => absurd h List.not_mem_nil⟩⟩
theorem hd_LH_sets_2 : am_hd m_LH_sets 149 (am_exn 2) 295 := ⟨[⟨0, 289, 290, 55⟩], ⟨0, 289, 295, 58⟩, [⟨0, 289, 300, 60⟩], rfl, by decide, rfl, by decide, aw_1_197, by decide +kernel, List.forall_mem_cons.mpr ⟨Or.inr ⟨by decide, "java/lang/IndexOutOfBoundsException", aw_1_196, by decide⟩, fun z h => absurd h List.not_mem_nil⟩⟩
theorem hd_LH_sets_2 : am_hd m_LH_sets 174 (am_exn 2) 295 := ⟨[⟨0, 289, 290, 55⟩], ⟨0, 289, 295, 58⟩, [⟨0, 289, 300, 60⟩], rfl, by decide, rfl, by decide, aw_1_197, by decide +kernel, List.forall_mem_cons.mpr ⟨Or.inr ⟨by decide, "java/lang/IndexOutOfBoundsException", aw_1_196, by decide⟩, fun z h => absurd h List.not_mem_nil⟩⟩
theorem hd_LH_sets_2 : am_hd m_LH_sets 195 (am_exn 2) 295 := ⟨[⟨0, 289, 290, 55⟩], ⟨0, 289, 295, 58⟩, [⟨0, 289, 300, 60⟩], rfl, by decide, rfl, by decide, aw_1_197, by decide +kernel, List.forall_mem_cons.mpr ⟨Or.inr ⟨by decide, "java/lang/IndexOutOfBoundsException", aw_1_196, by decide⟩, fun z h => absurd h List.not_mem_nil⟩⟩
theorem hd_LH_sets_2 : am_hd m_LH_sets 214 (am_exn 2) 295 := ⟨[⟨0, 289, 290, 55⟩], ⟨0, 289, 295, 58⟩, [⟨0, 289, 300, 60⟩], rfl, by decide, rfl, by decide, aw_1_197, by decide +kernel, List.forall_mem_cons.mpr ⟨Or.inr ⟨by decide, "java/lang/IndexOutOfBoundsException", aw_1_196, by decide⟩, fun z h => absurd h List.not_mem_nil⟩⟩
theorem hd_LH_sets_2 : am_hd m_LH_sets 241 (am_exn 2) 295 := ⟨[⟨0, 289, 290, 55⟩], ⟨0, 289, 295, 58⟩, [⟨0, 289, 300, 60⟩], rfl, by decide, rfl, by decide, aw_1_197, by decide +kernel, List.forall_mem_cons.mpr ⟨Or.inr ⟨by decide, "java/lang/IndexOutOfBoundsException", aw_1_196, by decide⟩, fun z h => absurd h List.not_mem_nil⟩⟩
theorem hd_LH_sets_2 : am_hd m_LH_sets 258 (am_exn 2) 295 := ⟨[⟨0, 289, 290, 55⟩], ⟨0, 289, 295, 58⟩, [⟨0, 289, 300, 60⟩], rfl, by decide, rfl, by decide, aw_1_197, by decide +kernel, List.forall_mem_cons.mpr ⟨Or.inr ⟨by decide, "java/lang/IndexOutOfBoundsException", aw_1_196, by decide⟩, fun z h => absurd h List.not_mem_nil⟩⟩
theorem hd_LH_sets_2 : am_hd m_LH_sets 277 (am_exn 2) 295 := ⟨[⟨0, 289, 290, 55⟩], ⟨0, 289, 295, 58⟩, [⟨0, 289, 300, 60⟩], rfl, by decide, rfl, by decide, aw_1_197, by decide +kernel, List.forall_mem_cons.mpr ⟨Or.inr ⟨by decide, "java/lang/IndexOutOfBoundsException", aw_1_196, by decide⟩, fun z h => absurd h List.not_mem_nil⟩⟩
theorem hd_LH_sets_2 : am_hd m_LH_sets 286 (am_exn 2) 295 := ⟨[⟨0, 289, 290, 55⟩], ⟨0, 289, 295, 58⟩, [⟨0, 289, 300, 60⟩], rfl, by decide, rfl, by decide, aw_1_197, by decide +kernel, List.forall_mem_cons.mpr ⟨Or.inr ⟨by decide, "java/lang/IndexOutOfBoundsException", aw_1_196, by decide⟩, fun z h => absurd h List.not_mem_nil⟩⟩
theorem hd_LH_sets_2 : am_hd m_LH_sets 35 (am_exn 2) 295 := ⟨[⟨0, 289, 290, 55⟩], ⟨0, 289, 295, 58⟩, [⟨0, 289, 300, 60⟩], rfl, by decide, rfl, by decide, aw_1_197, by decide +kernel, List.forall_mem_cons.mpr ⟨Or.inr ⟨by decide, "java/lang/IndexOutOfBoundsException", aw_1_196, by decide⟩, fun z h => absurd h List.not_mem_nil⟩⟩
theorem hd_LH_sets_2 : am_hd m_LH_sets 68 (am_exn 2) 295 := ⟨[⟨0, 289, 290, 55⟩], ⟨0, 289, 295, 58⟩, [⟨0, 289, 300, 60⟩], rfl, by decide, rfl, by decide, aw_1_197, by decide +kernel, List.forall_mem_cons.mpr ⟨Or.inr ⟨by decide, "java/lang/IndexOutOfBoundsException", aw_1_196, by decide⟩, fun z h => absurd h List.not_mem_nil⟩⟩
theorem hd_LH_sets_3 : am_hd m_LH_sets 101 (am_exn 3) 300 := ⟨[⟨0, 289, 290, 55⟩, ⟨0, 289, 295, 58⟩], ⟨0, 289, 300, 60⟩, [], rfl, by decide, rfl, by decide, aw_1_198, by decide +kernel, List.forall_mem_cons.mpr ⟨Or.inr ⟨by decide, "java/lang/IndexOutOfBoundsException", aw_1_196, by decide⟩, List.forall_mem_cons.mpr ⟨Or.inr ⟨by decide, "java/lang/IllegalArgumentException", aw_1_197, by decide⟩, fun z h => absurd h List.not_mem_nil⟩⟩⟩
theorem hd_LH_sets_3 : am_hd m_LH_sets 127 (am_exn 3) 300 := ⟨[⟨0, 289, 290, 55⟩, ⟨0, 289, 295, 58⟩], ⟨0, 289, 300, 60⟩, [], rfl, by decide, rfl, by decide, aw_1_198, by decide +kernel, List.forall_mem_cons.mpr ⟨Or.inr ⟨by decide, "java/lang/IndexOutOfBoundsException", aw_1_196, by decide⟩, List.forall_mem_cons.mpr ⟨Or.inr ⟨by decide, "java/lang/IllegalArgumentException", aw_1_197, by decide⟩, fun z h => absurd h List.not_mem_nil⟩⟩⟩
theorem hd_LH_sets_3 : am_hd m_LH_sets 13 (am_exn 3) 300 := ⟨[⟨0, 289, 290, 55⟩, ⟨0, 289, 295, 58⟩], ⟨0, 289, 300, 60⟩, [], rfl, by decide, rfl, by decide, aw_1_198, by decide +kernel, List.forall_mem_cons.mpr ⟨Or.inr ⟨by decide, "java/lang/IndexOutOfBoundsException", aw_1_196, by decide⟩, List.forall_mem_cons.mpr ⟨Or.inr ⟨by decide, "java/lang/IllegalArgumentException", aw_1_197, by decide⟩, fun z h => absurd h List.not_mem_nil⟩⟩⟩
theorem hd_LH_sets_3 : am_hd m_LH_sets 149 (am_exn 3) 300 := ⟨[⟨0, 289, 290, 55⟩, ⟨0, 289, 295, 58⟩], ⟨0, 289, 300, 60⟩, [], rfl, by decide, rfl, by decide, aw_1_198, by decide +kernel, List.forall_mem_cons.mpr ⟨Or.inr ⟨by decide, "java/lang/IndexOutOfBoundsException", aw_1_196, by decide⟩, List.forall_mem_cons.mpr ⟨Or.inr ⟨by decide, "java/lang/IllegalArgumentException", aw_1_197, by decide⟩, fun z h => absurd h List.not_mem_nil⟩⟩⟩
theorem hd_LH_sets_3 : am_hd m_LH_sets 174 (am_exn 3) 300 := ⟨[⟨0, 289, 290, 55⟩, ⟨0, 289, 295, 58⟩], ⟨0, 289, 300, 60⟩, [], rfl, by decide, rfl, by decide, aw_1_198, by decide +kernel, List.forall_mem_cons.mpr ⟨Or.inr ⟨by decide, "java/lang/IndexOutOfBoundsException", aw_1_196, by decide⟩, List.forall_mem_cons.mpr ⟨Or.inr ⟨by decide, "java/lang/IllegalArgumentException", aw_1_197, by decide⟩, fun z h => absurd h List.not_mem_nil⟩⟩⟩
theorem hd_LH_sets_3 : am_hd m_LH_sets 195 (am_exn 3) 300 := ⟨[⟨0, 289, 290, 55⟩, ⟨0, 289, 295, 58⟩], ⟨0, 289, 300, 60⟩, [], rfl, by decide, rfl, by decide, aw_1_198, by decide +kernel, List.forall_mem_cons.mpr ⟨Or.inr ⟨by decide, "java/lang/IndexOutOfBoundsException", aw_1_196, by decide⟩, List.forall_mem_cons.mpr ⟨Or.inr ⟨by decide, "java/lang/IllegalArgumentException", aw_1_197, by decide⟩, fun z h => absurd h List.not_mem_nil⟩⟩⟩
theorem hd_LH_sets_3 : am_hd m_LH_sets 214 (am_exn 3) 300 := ⟨[⟨0, 289, 290, 55⟩, ⟨0, 289, 295, 58⟩], ⟨0, 289, 300, 60⟩, [], rfl, by decide, rfl, by decide, aw_1_198, by decide +kernel, List.forall_mem_cons.mpr ⟨Or.inr ⟨by decide, "java/lang/IndexOutOfBoundsException", aw_1_196, by decide⟩, List.forall_mem_cons.mpr ⟨Or.inr ⟨by decide, "java/lang/IllegalArgumentException", aw_1_197, by decide⟩, fun z h => absurd h List.not_mem_nil⟩⟩⟩
theorem hd_LH_sets_3 : am_hd m_LH_sets 241 (am_exn 3) 300 := ⟨[⟨0, 289, 290, 55⟩, ⟨0, 289, 295, 58⟩], ⟨0, 289, 300, 60⟩, [], rfl, by decide, rfl, by decide, aw_1_198, by decide +kernel, List.forall_mem_cons.mpr ⟨Or.inr ⟨by decide, "java/lang/IndexOutOfBoundsException", aw_1_196, by decide⟩, List.forall_mem_cons.mpr ⟨Or.inr ⟨by decide, "java/lang/IllegalArgumentException", aw_1_197, by decide⟩, fun z h => absurd h List.not_mem_nil⟩⟩⟩
theorem hd_LH_sets_3 : am_hd m_LH_sets 258 (am_exn 3) 300 := ⟨[⟨0, 289, 290, 55⟩, ⟨0, 289, 295, 58⟩], ⟨0, 289, 300, 60⟩, [], rfl, by decide, rfl, by decide, aw_1_198, by decide +kernel, List.forall_mem_cons.mpr ⟨Or.inr ⟨by decide, "java/lang/IndexOutOfBoundsException", aw_1_196, by decide⟩, List.forall_mem_cons.mpr ⟨Or.inr ⟨by decide, "java/lang/IllegalArgumentException", aw_1_197, by decide⟩, fun z h => absurd h List.not_mem_nil⟩⟩⟩
theorem hd_LH_sets_3 : am_hd m_LH_sets 277 (am_exn 3) 300 := ⟨[⟨0, 289, 290, 55⟩, ⟨0, 289, 295, 58⟩], ⟨0, 289, 300, 60⟩, [], rfl, by decide, rfl, by decide, aw_1_198, by decide +kernel, List.forall_mem_cons.mpr ⟨Or.inr ⟨by decide, "java/lang/IndexOutOfBoundsException", aw_1_196, by decide⟩, List.forall_mem_cons.mpr ⟨Or.inr ⟨by decide, "java/lang/IllegalArgumentException", aw_1_197, by decide⟩, fun z h => absurd h List.not_mem_nil⟩⟩⟩
theorem hd_LH_sets_3 : am_hd m_LH_sets 286 (am_exn 3) 300 := ⟨[⟨0, 289, 290, 55⟩, ⟨0, 289, 295, 58⟩], ⟨0, 289, 300, 60⟩, [], rfl, by decide, rfl, by decide, aw_1_198, by decide +kernel, List.forall_mem_cons.mpr ⟨Or.inr ⟨by decide, "java/lang/IndexOutOfBoundsException", aw_1_196, by decide⟩, List.forall_mem_cons.mpr ⟨Or.inr ⟨by decide, "java/lang/IllegalArgumentException", aw_1_197, by decide⟩, fun z h => absurd h List.not_mem_nil⟩⟩⟩
theorem hd_LH_sets_3 : am_hd m_LH_sets 35 (am_exn 3) 300 := ⟨[⟨0, 289, 290, 55⟩, ⟨0, 289, 295, 58⟩], ⟨0, 289, 300, 60⟩, [], rfl, by decide, rfl, by decide, aw_1_198, by decide +kernel, List.forall_mem_cons.mpr ⟨Or.inr ⟨by decide, "java/lang/IndexOutOfBoundsException", aw_1_196, by decide⟩, List.forall_mem_cons.mpr ⟨Or.inr ⟨by decide, "java/lang/IllegalArgumentException", aw_1_197, by decide⟩, fun z h => absurd h List.not_mem_nil⟩⟩⟩
theorem hd_LH_sets_3 : am_hd m_LH_sets 68 (am_exn 3) 300 := ⟨[⟨0, 289, 290, 55⟩, ⟨0, 289, 295, 58⟩], ⟨0, 289, 300, 60⟩, [], rfl, by decide, rfl, by decide, aw_1_198, by decide +kernel, List.forall_mem_cons.mpr ⟨Or.inr ⟨by decide, "java/lang/IndexOutOfBoundsException", aw_1_196, by decide⟩, List.forall_mem_cons.mpr ⟨Or.inr ⟨by decide, "java/lang/IllegalArgumentException", aw_1_197, by decide⟩, fun z h => absurd h List.not_mem_nil⟩⟩⟩
def f_LH_sets  (s : am_M) (x1 : Int32) (x2 : Int32) (x3 : Int32) (x4 : Int32) (x5 : Int32) (x6 : Int32) (x7 : Int32) : Int32 × am_M := (if x1 = 0 then (if (h_CB_addReckoned s x2 x3 x4 x5 x6).1 = 0 then ((h_CB_addReckoned s x2 x3 x4 x5 x6).2.1, (h_CB_addReckoned s x2 x3 x4 x5 x6).2.2) else (if (h_CB_addReckoned s x2 x3 x4 x5 x6).1 = 1 then ((-9999999 : Int32), (h_CB_addReckoned s x2 x3 x4 x5 x6).2.2) else (if (h_CB_addReckoned s x2 x3 x4 x5 x6).1 = 2 then ((-9999999 : Int32), (h_CB_addReckoned s x2 x3 x4 x5 x6).2.2) else ((-9999999 : Int32), (h_CB_addReckoned s x2 x3 x4 x5 x6).2.2)))) else (if x1 = (1 : Int32) then (if (h_CB_reckonAnew s x2 x3 x4 x5 x6 x7).1 = 0 then (if (h_CB_reckonAnew s x2 x3 x4 x5 x6 x7).2.1 = 0 then ((0 : Int32), (h_CB_reckonAnew s x2 x3 x4 x5 x6 x7).2.2) else ((1 : Int32), (h_CB_reckonAnew s x2 x3 x4 x5 x6 x7).2.2)) else (if (h_CB_reckonAnew s x2 x3 x4 x5 x6 x7).1 = 1 then ((-9999999 : Int32), (h_CB_reckonAnew s x2 x3 x4 x5 x6 x7).2.2) else (if (h_CB_reckonAnew s x2 x3 x4 x5 x6 x7).1 = 2 then ((-9999999 : Int32), (h_CB_reckonAnew s x2 x3 x4 x5 x6 x7).2.2) else ((-9999999 : Int32), (h_CB_reckonAnew s x2 x3 x4 x5 x6 x7).2.2)))) else (if x1 = (2 : Int32) then (if x4 = (1 : Int32) then (if (h_CB_need s x2 x3 (1 : Int32)).1 = 0 then (if (h_CB_need s x2 x3 (1 : Int32)).2.1 = 0 then ((0 : Int32), (h_CB_need s x2 x3 (1 : Int32)).2.2) else ((1 : Int32), (h_CB_need s x2 x3 (1 : Int32)).2.2)) else (if (h_CB_need s x2 x3 (1 : Int32)).1 = 1 then ((-9999999 : Int32), (h_CB_need s x2 x3 (1 : Int32)).2.2) else (if (h_CB_need s x2 x3 (1 : Int32)).1 = 2 then ((-9999999 : Int32), (h_CB_need s x2 x3 (1 : Int32)).2.2) else ((-9999999 : Int32), (h_CB_need s x2 x3 (1 : Int32)).2.2)))) else (if (h_CB_need s x2 x3 (0 : Int32)).1 = 0 then (if (h_CB_need s x2 x3 (0 : Int32)).2.1 = 0 then ((0 : Int32), (h_CB_need s x2 x3 (0 : Int32)).2.2) else ((1 : Int32), (h_CB_need s x2 x3 (0 : Int32)).2.2)) else (if (h_CB_need s x2 x3 (0 : Int32)).1 = 1 then ((-9999999 : Int32), (h_CB_need s x2 x3 (0 : Int32)).2.2) else (if (h_CB_need s x2 x3 (0 : Int32)).1 = 2 then ((-9999999 : Int32), (h_CB_need s x2 x3 (0 : Int32)).2.2) else ((-9999999 : Int32), (h_CB_need s x2 x3 (0 : Int32)).2.2))))) else (if x1 = (3 : Int32) then (if x4 = (1 : Int32) then (if (h_CB_single s x2 x3 (1 : Int32)).1 = 0 then (if (h_CB_single s x2 x3 (1 : Int32)).2.1 = 0 then ((0 : Int32), (h_CB_single s x2 x3 (1 : Int32)).2.2) else ((1 : Int32), (h_CB_single s x2 x3 (1 : Int32)).2.2)) else (if (h_CB_single s x2 x3 (1 : Int32)).1 = 1 then ((-9999999 : Int32), (h_CB_single s x2 x3 (1 : Int32)).2.2) else (if (h_CB_single s x2 x3 (1 : Int32)).1 = 2 then ((-9999999 : Int32), (h_CB_single s x2 x3 (1 : Int32)).2.2) else ((-9999999 : Int32), (h_CB_single s x2 x3 (1 : Int32)).2.2)))) else (if (h_CB_single s x2 x3 (0 : Int32)).1 = 0 then (if (h_CB_single s x2 x3 (0 : Int32)).2.1 = 0 then ((0 : Int32), (h_CB_single s x2 x3 (0 : Int32)).2.2) else ((1 : Int32), (h_CB_single s x2 x3 (0 : Int32)).2.2)) else (if (h_CB_single s x2 x3 (0 : Int32)).1 = 1 then ((-9999999 : Int32), (h_CB_single s x2 x3 (0 : Int32)).2.2) else (if (h_CB_single s x2 x3 (0 : Int32)).1 = 2 then ((-9999999 : Int32), (h_CB_single s x2 x3 (0 : Int32)).2.2) else ((-9999999 : Int32), (h_CB_single s x2 x3 (0 : Int32)).2.2))))) else (if x1 = (4 : Int32) then (if (h_CB_narrow s x2 x3 x4 x5).1 = 0 then (if (h_CB_narrow s x2 x3 x4 x5).2.1 = 0 then ((0 : Int32), (h_CB_narrow s x2 x3 x4 x5).2.2) else ((1 : Int32), (h_CB_narrow s x2 x3 x4 x5).2.2)) else (if (h_CB_narrow s x2 x3 x4 x5).1 = 1 then ((-9999999 : Int32), (h_CB_narrow s x2 x3 x4 x5).2.2) else (if (h_CB_narrow s x2 x3 x4 x5).1 = 2 then ((-9999999 : Int32), (h_CB_narrow s x2 x3 x4 x5).2.2) else ((-9999999 : Int32), (h_CB_narrow s x2 x3 x4 x5).2.2)))) else (if x1 = (5 : Int32) then (if (h_CB_drop s x2 x3).1 = 0 then (if (h_CB_drop s x2 x3).2.1 = 0 then ((0 : Int32), (h_CB_drop s x2 x3).2.2) else ((1 : Int32), (h_CB_drop s x2 x3).2.2)) else (if (h_CB_drop s x2 x3).1 = 1 then ((-9999999 : Int32), (h_CB_drop s x2 x3).2.2) else (if (h_CB_drop s x2 x3).1 = 2 then ((-9999999 : Int32), (h_CB_drop s x2 x3).2.2) else ((-9999999 : Int32), (h_CB_drop s x2 x3).2.2)))) else (if x1 = (6 : Int32) then (if (h_CB_setRemoval s x2 x3 x4).1 = 0 then ((h_CB_setRemoval s x2 x3 x4).2.1, (h_CB_setRemoval s x2 x3 x4).2.2) else (if (h_CB_setRemoval s x2 x3 x4).1 = 1 then ((-9999999 : Int32), (h_CB_setRemoval s x2 x3 x4).2.2) else (if (h_CB_setRemoval s x2 x3 x4).1 = 2 then ((-9999999 : Int32), (h_CB_setRemoval s x2 x3 x4).2.2) else ((-9999999 : Int32), (h_CB_setRemoval s x2 x3 x4).2.2)))) else (if x1 = (7 : Int32) then (if (h_CB_addRule s x2 x3 x4 x5 x6).1 = 0 then ((h_CB_addRule s x2 x3 x4 x5 x6).2.1, (h_CB_addRule s x2 x3 x4 x5 x6).2.2) else (if (h_CB_addRule s x2 x3 x4 x5 x6).1 = 1 then ((-9999999 : Int32), (h_CB_addRule s x2 x3 x4 x5 x6).2.2) else (if (h_CB_addRule s x2 x3 x4 x5 x6).1 = 2 then ((-9999999 : Int32), (h_CB_addRule s x2 x3 x4 x5 x6).2.2) else ((-9999999 : Int32), (h_CB_addRule s x2 x3 x4 x5 x6).2.2)))) else (if x1 = (8 : Int32) then (if (h_CB_put s x2 x3 x4 x5).1 = 0 then (if (h_CB_put s x2 x3 x4 x5).2.1 = 0 then ((0 : Int32), (h_CB_put s x2 x3 x4 x5).2.2) else ((1 : Int32), (h_CB_put s x2 x3 x4 x5).2.2)) else (if (h_CB_put s x2 x3 x4 x5).1 = 1 then ((-9999999 : Int32), (h_CB_put s x2 x3 x4 x5).2.2) else (if (h_CB_put s x2 x3 x4 x5).1 = 2 then ((-9999999 : Int32), (h_CB_put s x2 x3 x4 x5).2.2) else ((-9999999 : Int32), (h_CB_put s x2 x3 x4 x5).2.2)))) else (if x1 = (9 : Int32) then (if (h_CB_choice s x2 x3 x4 x5).1 = 0 then ((h_CB_choice s x2 x3 x4 x5).2.1, (h_CB_choice s x2 x3 x4 x5).2.2) else (if (h_CB_choice s x2 x3 x4 x5).1 = 1 then ((-9999999 : Int32), (h_CB_choice s x2 x3 x4 x5).2.2) else (if (h_CB_choice s x2 x3 x4 x5).1 = 2 then ((-9999999 : Int32), (h_CB_choice s x2 x3 x4 x5).2.2) else ((-9999999 : Int32), (h_CB_choice s x2 x3 x4 x5).2.2)))) else (if x1 = (10 : Int32) then (if (f_CB_cell s x2 x3 x4).1 = 0 then ((f_CB_cell s x2 x3 x4).2.1, (f_CB_cell s x2 x3 x4).2.2) else (if (f_CB_cell s x2 x3 x4).1 = 1 then ((-9999999 : Int32), (f_CB_cell s x2 x3 x4).2.2) else (if (f_CB_cell s x2 x3 x4).1 = 2 then ((-9999999 : Int32), (f_CB_cell s x2 x3 x4).2.2) else ((-9999999 : Int32), (f_CB_cell s x2 x3 x4).2.2)))) else (if x1 = (11 : Int32) then (if (f_CB_wouldLose s x2 x3 x4 x5).1 = 0 then ((f_CB_wouldLose s x2 x3 x4 x5).2.1, (f_CB_wouldLose s x2 x3 x4 x5).2.2) else (if (f_CB_wouldLose s x2 x3 x4 x5).1 = 1 then ((-9999999 : Int32), (f_CB_wouldLose s x2 x3 x4 x5).2.2) else (if (f_CB_wouldLose s x2 x3 x4 x5).1 = 2 then ((-9999999 : Int32), (f_CB_wouldLose s x2 x3 x4 x5).2.2) else ((-9999999 : Int32), (f_CB_wouldLose s x2 x3 x4 x5).2.2)))) else (if (f_CB_wouldLoseAll s x2 x3).1 = 0 then ((f_CB_wouldLoseAll s x2 x3).2.1, (f_CB_wouldLoseAll s x2 x3).2.2) else (if (f_CB_wouldLoseAll s x2 x3).1 = 1 then ((-9999999 : Int32), (f_CB_wouldLoseAll s x2 x3).2.2) else (if (f_CB_wouldLoseAll s x2 x3).1 = 2 then ((-9999999 : Int32), (f_CB_wouldLoseAll s x2 x3).2.2) else ((-9999999 : Int32), (f_CB_wouldLoseAll s x2 x3).2.2))))))))))))))))
def p_LH_sets  (s : am_M) (x1 : Int32) (x2 : Int32) (x3 : Int32) (x4 : Int32) (x5 : Int32) (x6 : Int32) (x7 : Int32) : Prop := ((x1 = 0) → p_CB_addReckoned s x2 x3 x4 x5 x6 ∧ (((h_CB_addReckoned s x2 x3 x4 x5 x6).1 = 0 ∨ (h_CB_addReckoned s x2 x3 x4 x5 x6).1 = 1 ∨ (h_CB_addReckoned s x2 x3 x4 x5 x6).1 = 2 ∨ (h_CB_addReckoned s x2 x3 x4 x5 x6).1 = 3) ∧ ((((h_CB_addReckoned s x2 x3 x4 x5 x6).1 = 0) → True) ∧ (¬ ((h_CB_addReckoned s x2 x3 x4 x5 x6).1 = 0) → (((h_CB_addReckoned s x2 x3 x4 x5 x6).1 = 1) → True) ∧ (¬ ((h_CB_addReckoned s x2 x3 x4 x5 x6).1 = 1) → (((h_CB_addReckoned s x2 x3 x4 x5 x6).1 = 2) → True) ∧ (¬ ((h_CB_addReckoned s x2 x3 x4 x5 x6).1 = 2) → True)))))) ∧ (¬ (x1 = 0) → ((x1 = (1 : Int32)) → p_CB_reckonAnew s x2 x3 x4 x5 x6 x7 ∧ (((h_CB_reckonAnew s x2 x3 x4 x5 x6 x7).1 = 0 ∨ (h_CB_reckonAnew s x2 x3 x4 x5 x6 x7).1 = 1 ∨ (h_CB_reckonAnew s x2 x3 x4 x5 x6 x7).1 = 2 ∨ (h_CB_reckonAnew s x2 x3 x4 x5 x6 x7).1 = 3) ∧ ((((h_CB_reckonAnew s x2 x3 x4 x5 x6 x7).1 = 0) → (((h_CB_reckonAnew s x2 x3 x4 x5 x6 x7).2.1 = 0) → True) ∧ (¬ ((h_CB_reckonAnew s x2 x3 x4 x5 x6 x7).2.1 = 0) → True)) ∧ (¬ ((h_CB_reckonAnew s x2 x3 x4 x5 x6 x7).1 = 0) → (((h_CB_reckonAnew s x2 x3 x4 x5 x6 x7).1 = 1) → True) ∧ (¬ ((h_CB_reckonAnew s x2 x3 x4 x5 x6 x7).1 = 1) → (((h_CB_reckonAnew s x2 x3 x4 x5 x6 x7).1 = 2) → True) ∧ (¬ ((h_CB_reckonAnew s x2 x3 x4 x5 x6 x7).1 = 2) → True)))))) ∧ (¬ (x1 = (1 : Int32)) → ((x1 = (2 : Int32)) → ((x4 = (1 : Int32)) → p_CB_need s x2 x3 (1 : Int32) ∧ (((h_CB_need s x2 x3 (1 : Int32)).1 = 0 ∨ (h_CB_need s x2 x3 (1 : Int32)).1 = 1 ∨ (h_CB_need s x2 x3 (1 : Int32)).1 = 2 ∨ (h_CB_need s x2 x3 (1 : Int32)).1 = 3) ∧ ((((h_CB_need s x2 x3 (1 : Int32)).1 = 0) → (((h_CB_need s x2 x3 (1 : Int32)).2.1 = 0) → True) ∧ (¬ ((h_CB_need s x2 x3 (1 : Int32)).2.1 = 0) → True)) ∧ (¬ ((h_CB_need s x2 x3 (1 : Int32)).1 = 0) → (((h_CB_need s x2 x3 (1 : Int32)).1 = 1) → True) ∧ (¬ ((h_CB_need s x2 x3 (1 : Int32)).1 = 1) → (((h_CB_need s x2 x3 (1 : Int32)).1 = 2) → True) ∧ (¬ ((h_CB_need s x2 x3 (1 : Int32)).1 = 2) → True)))))) ∧ (¬ (x4 = (1 : Int32)) → p_CB_need s x2 x3 (0 : Int32) ∧ (((h_CB_need s x2 x3 (0 : Int32)).1 = 0 ∨ (h_CB_need s x2 x3 (0 : Int32)).1 = 1 ∨ (h_CB_need s x2 x3 (0 : Int32)).1 = 2 ∨ (h_CB_need s x2 x3 (0 : Int32)).1 = 3) ∧ ((((h_CB_need s x2 x3 (0 : Int32)).1 = 0) → (((h_CB_need s x2 x3 (0 : Int32)).2.1 = 0) → True) ∧ (¬ ((h_CB_need s x2 x3 (0 : Int32)).2.1 = 0) → True)) ∧ (¬ ((h_CB_need s x2 x3 (0 : Int32)).1 = 0) → (((h_CB_need s x2 x3 (0 : Int32)).1 = 1) → True) ∧ (¬ ((h_CB_need s x2 x3 (0 : Int32)).1 = 1) → (((h_CB_need s x2 x3 (0 : Int32)).1 = 2) → True) ∧ (¬ ((h_CB_need s x2 x3 (0 : Int32)).1 = 2) → True))))))) ∧ (¬ (x1 = (2 : Int32)) → ((x1 = (3 : Int32)) → ((x4 = (1 : Int32)) → p_CB_single s x2 x3 (1 : Int32) ∧ (((h_CB_single s x2 x3 (1 : Int32)).1 = 0 ∨ (h_CB_single s x2 x3 (1 : Int32)).1 = 1 ∨ (h_CB_single s x2 x3 (1 : Int32)).1 = 2 ∨ (h_CB_single s x2 x3 (1 : Int32)).1 = 3) ∧ ((((h_CB_single s x2 x3 (1 : Int32)).1 = 0) → (((h_CB_single s x2 x3 (1 : Int32)).2.1 = 0) → True) ∧ (¬ ((h_CB_single s x2 x3 (1 : Int32)).2.1 = 0) → True)) ∧ (¬ ((h_CB_single s x2 x3 (1 : Int32)).1 = 0) → (((h_CB_single s x2 x3 (1 : Int32)).1 = 1) → True) ∧ (¬ ((h_CB_single s x2 x3 (1 : Int32)).1 = 1) → (((h_CB_single s x2 x3 (1 : Int32)).1 = 2) → True) ∧ (¬ ((h_CB_single s x2 x3 (1 : Int32)).1 = 2) → True)))))) ∧ (¬ (x4 = (1 : Int32)) → p_CB_single s x2 x3 (0 : Int32) ∧ (((h_CB_single s x2 x3 (0 : Int32)).1 = 0 ∨ (h_CB_single s x2 x3 (0 : Int32)).1 = 1 ∨ (h_CB_single s x2 x3 (0 : Int32)).1 = 2 ∨ (h_CB_single s x2 x3 (0 : Int32)).1 = 3) ∧ ((((h_CB_single s x2 x3 (0 : Int32)).1 = 0) → (((h_CB_single s x2 x3 (0 : Int32)).2.1 = 0) → True) ∧ (¬ ((h_CB_single s x2 x3 (0 : Int32)).2.1 = 0) → True)) ∧ (¬ ((h_CB_single s x2 x3 (0 : Int32)).1 = 0) → (((h_CB_single s x2 x3 (0 : Int32)).1 = 1) → True) ∧ (¬ ((h_CB_single s x2 x3 (0 : Int32)).1 = 1) → (((h_CB_single s x2 x3 (0 : Int32)).1 = 2) → True) ∧ (¬ ((h_CB_single s x2 x3 (0 : Int32)).1 = 2) → True))))))) ∧ (¬ (x1 = (3 : Int32)) → ((x1 = (4 : Int32)) → p_CB_narrow s x2 x3 x4 x5 ∧ (((h_CB_narrow s x2 x3 x4 x5).1 = 0 ∨ (h_CB_narrow s x2 x3 x4 x5).1 = 1 ∨ (h_CB_narrow s x2 x3 x4 x5).1 = 2 ∨ (h_CB_narrow s x2 x3 x4 x5).1 = 3) ∧ ((((h_CB_narrow s x2 x3 x4 x5).1 = 0) → (((h_CB_narrow s x2 x3 x4 x5).2.1 = 0) → True) ∧ (¬ ((h_CB_narrow s x2 x3 x4 x5).2.1 = 0) → True)) ∧ (¬ ((h_CB_narrow s x2 x3 x4 x5).1 = 0) → (((h_CB_narrow s x2 x3 x4 x5).1 = 1) → True) ∧ (¬ ((h_CB_narrow s x2 x3 x4 x5).1 = 1) → (((h_CB_narrow s x2 x3 x4 x5).1 = 2) → True) ∧ (¬ ((h_CB_narrow s x2 x3 x4 x5).1 = 2) → True)))))) ∧ (¬ (x1 = (4 : Int32)) → ((x1 = (5 : Int32)) → p_CB_drop s x2 x3 ∧ (((h_CB_drop s x2 x3).1 = 0 ∨ (h_CB_drop s x2 x3).1 = 1 ∨ (h_CB_drop s x2 x3).1 = 2 ∨ (h_CB_drop s x2 x3).1 = 3) ∧ ((((h_CB_drop s x2 x3).1 = 0) → (((h_CB_drop s x2 x3).2.1 = 0) → True) ∧ (¬ ((h_CB_drop s x2 x3).2.1 = 0) → True)) ∧ (¬ ((h_CB_drop s x2 x3).1 = 0) → (((h_CB_drop s x2 x3).1 = 1) → True) ∧ (¬ ((h_CB_drop s x2 x3).1 = 1) → (((h_CB_drop s x2 x3).1 = 2) → True) ∧ (¬ ((h_CB_drop s x2 x3).1 = 2) → True)))))) ∧ (¬ (x1 = (5 : Int32)) → ((x1 = (6 : Int32)) → p_CB_setRemoval s x2 x3 x4 ∧ (((h_CB_setRemoval s x2 x3 x4).1 = 0 ∨ (h_CB_setRemoval s x2 x3 x4).1 = 1 ∨ (h_CB_setRemoval s x2 x3 x4).1 = 2 ∨ (h_CB_setRemoval s x2 x3 x4).1 = 3) ∧ ((((h_CB_setRemoval s x2 x3 x4).1 = 0) → True) ∧ (¬ ((h_CB_setRemoval s x2 x3 x4).1 = 0) → (((h_CB_setRemoval s x2 x3 x4).1 = 1) → True) ∧ (¬ ((h_CB_setRemoval s x2 x3 x4).1 = 1) → (((h_CB_setRemoval s x2 x3 x4).1 = 2) → True) ∧ (¬ ((h_CB_setRemoval s x2 x3 x4).1 = 2) → True)))))) ∧ (¬ (x1 = (6 : Int32)) → ((x1 = (7 : Int32)) → p_CB_addRule s x2 x3 x4 x5 x6 ∧ (((h_CB_addRule s x2 x3 x4 x5 x6).1 = 0 ∨ (h_CB_addRule s x2 x3 x4 x5 x6).1 = 1 ∨ (h_CB_addRule s x2 x3 x4 x5 x6).1 = 2 ∨ (h_CB_addRule s x2 x3 x4 x5 x6).1 = 3) ∧ ((((h_CB_addRule s x2 x3 x4 x5 x6).1 = 0) → True) ∧ (¬ ((h_CB_addRule s x2 x3 x4 x5 x6).1 = 0) → (((h_CB_addRule s x2 x3 x4 x5 x6).1 = 1) → True) ∧ (¬ ((h_CB_addRule s x2 x3 x4 x5 x6).1 = 1) → (((h_CB_addRule s x2 x3 x4 x5 x6).1 = 2) → True) ∧ (¬ ((h_CB_addRule s x2 x3 x4 x5 x6).1 = 2) → True)))))) ∧ (¬ (x1 = (7 : Int32)) → ((x1 = (8 : Int32)) → p_CB_put s x2 x3 x4 x5 ∧ (((h_CB_put s x2 x3 x4 x5).1 = 0 ∨ (h_CB_put s x2 x3 x4 x5).1 = 1 ∨ (h_CB_put s x2 x3 x4 x5).1 = 2 ∨ (h_CB_put s x2 x3 x4 x5).1 = 3) ∧ ((((h_CB_put s x2 x3 x4 x5).1 = 0) → (((h_CB_put s x2 x3 x4 x5).2.1 = 0) → True) ∧ (¬ ((h_CB_put s x2 x3 x4 x5).2.1 = 0) → True)) ∧ (¬ ((h_CB_put s x2 x3 x4 x5).1 = 0) → (((h_CB_put s x2 x3 x4 x5).1 = 1) → True) ∧ (¬ ((h_CB_put s x2 x3 x4 x5).1 = 1) → (((h_CB_put s x2 x3 x4 x5).1 = 2) → True) ∧ (¬ ((h_CB_put s x2 x3 x4 x5).1 = 2) → True)))))) ∧ (¬ (x1 = (8 : Int32)) → ((x1 = (9 : Int32)) → p_CB_choice s x2 x3 x4 x5 ∧ (((h_CB_choice s x2 x3 x4 x5).1 = 0 ∨ (h_CB_choice s x2 x3 x4 x5).1 = 1 ∨ (h_CB_choice s x2 x3 x4 x5).1 = 2 ∨ (h_CB_choice s x2 x3 x4 x5).1 = 3) ∧ ((((h_CB_choice s x2 x3 x4 x5).1 = 0) → True) ∧ (¬ ((h_CB_choice s x2 x3 x4 x5).1 = 0) → (((h_CB_choice s x2 x3 x4 x5).1 = 1) → True) ∧ (¬ ((h_CB_choice s x2 x3 x4 x5).1 = 1) → (((h_CB_choice s x2 x3 x4 x5).1 = 2) → True) ∧ (¬ ((h_CB_choice s x2 x3 x4 x5).1 = 2) → True)))))) ∧ (¬ (x1 = (9 : Int32)) → ((x1 = (10 : Int32)) → p_CB_cell s x2 x3 x4 ∧ (((f_CB_cell s x2 x3 x4).1 = 0 ∨ (f_CB_cell s x2 x3 x4).1 = 1 ∨ (f_CB_cell s x2 x3 x4).1 = 2 ∨ (f_CB_cell s x2 x3 x4).1 = 3) ∧ ((((f_CB_cell s x2 x3 x4).1 = 0) → True) ∧ (¬ ((f_CB_cell s x2 x3 x4).1 = 0) → (((f_CB_cell s x2 x3 x4).1 = 1) → True) ∧ (¬ ((f_CB_cell s x2 x3 x4).1 = 1) → (((f_CB_cell s x2 x3 x4).1 = 2) → True) ∧ (¬ ((f_CB_cell s x2 x3 x4).1 = 2) → True)))))) ∧ (¬ (x1 = (10 : Int32)) → ((x1 = (11 : Int32)) → p_CB_wouldLose s x2 x3 x4 x5 ∧ (((f_CB_wouldLose s x2 x3 x4 x5).1 = 0 ∨ (f_CB_wouldLose s x2 x3 x4 x5).1 = 1 ∨ (f_CB_wouldLose s x2 x3 x4 x5).1 = 2 ∨ (f_CB_wouldLose s x2 x3 x4 x5).1 = 3) ∧ ((((f_CB_wouldLose s x2 x3 x4 x5).1 = 0) → True) ∧ (¬ ((f_CB_wouldLose s x2 x3 x4 x5).1 = 0) → (((f_CB_wouldLose s x2 x3 x4 x5).1 = 1) → True) ∧ (¬ ((f_CB_wouldLose s x2 x3 x4 x5).1 = 1) → (((f_CB_wouldLose s x2 x3 x4 x5).1 = 2) → True) ∧ (¬ ((f_CB_wouldLose s x2 x3 x4 x5).1 = 2) → True)))))) ∧ (¬ (x1 = (11 : Int32)) → p_CB_wouldLoseAll s x2 x3 ∧ (((f_CB_wouldLoseAll s x2 x3).1 = 0 ∨ (f_CB_wouldLoseAll s x2 x3).1 = 1 ∨ (f_CB_wouldLoseAll s x2 x3).1 = 2 ∨ (f_CB_wouldLoseAll s x2 x3).1 = 3) ∧ ((((f_CB_wouldLoseAll s x2 x3).1 = 0) → True) ∧ (¬ ((f_CB_wouldLoseAll s x2 x3).1 = 0) → (((f_CB_wouldLoseAll s x2 x3).1 = 1) → True) ∧ (¬ ((f_CB_wouldLoseAll s x2 x3).1 = 1) → (((f_CB_wouldLoseAll s x2 x3).1 = 2) → True) ∧ (¬ ((f_CB_wouldLoseAll s x2 x3).1 = 2) → True)))))))))))))))))
set_option maxRecDepth 8000 in
theorem w_LH_sets {l : Launch} {g : am_Gl} (hg : g.2.2.2.1 = true) {ad0 : Nat → Nat} {s : am_M} {x1 : Int32} {x2 : Int32} {x3 : Int32} {x4 : Int32} {x5 : Int32} {x6 : Int32} {x7 : Int32} (h : p_LH_sets s x1 x2 x3 x4 x5 x6 x7) : AW l g m_LH_sets 207 ad0 (am_oC (f_LH_sets s x1 x2 x3 x4 x5 x6 x7)) 0 0 207 s 0 [(0, .ref 0), (1, .int x1), (2, .int x2), (3, .int x3), (4, .int x4), (5, .int x5), (6, .int x6), (7, .int x7)] [] := by
  refine am_iload_n (j := 1) d_LH_sets_0 rfl rfl ?_
  refine ai_ne (F := am_oC) (tgt := 19) d_LH_sets_1 (by decide) (fun c => ?_) (fun c => ?_)
  · have h := h.2 c
    refine am_iload_n (j := 1) d_LH_sets_19 rfl rfl ?_
    refine am_iconst (v := (1 : Int32)) d_LH_sets_20 (by decide) ?_
    refine aj_ne (F := am_oC) (tgt := 49) d_LH_sets_21 (by decide) (fun c => ?_) (fun c => ?_)
    · have h := h.2 c
      refine am_iload_n (j := 1) d_LH_sets_49 rfl rfl ?_
      refine am_iconst (v := (2 : Int32)) d_LH_sets_50 (by decide) ?_
      refine aj_ne (F := am_oC) (tgt := 82) d_LH_sets_51 (by decide) (fun c => ?_) (fun c => ?_)
      · have h := h.2 c
        refine am_iload_n (j := 1) d_LH_sets_82 rfl rfl ?_
        refine am_iconst (v := (3 : Int32)) d_LH_sets_83 (by decide) ?_
        refine aj_ne (F := am_oC) (tgt := 115) d_LH_sets_84 (by decide) (fun c => ?_) (fun c => ?_)
        · have h := h.2 c
          refine am_iload_n (j := 1) d_LH_sets_115 rfl rfl ?_
          refine am_iconst (v := (4 : Int32)) d_LH_sets_116 (by decide) ?_
          refine aj_ne (F := am_oC) (tgt := 141) d_LH_sets_117 (by decide) (fun c => ?_) (fun c => ?_)
          · have h := h.2 c
            refine am_iload_n (j := 1) d_LH_sets_141 rfl rfl ?_
            refine am_iconst (v := (5 : Int32)) d_LH_sets_142 (by decide) ?_
            refine aj_ne (F := am_oC) (tgt := 163) d_LH_sets_143 (by decide) (fun c => ?_) (fun c => ?_)
            · have h := h.2 c
              refine am_iload_n (j := 1) d_LH_sets_163 rfl rfl ?_
              refine am_bipush (v := (6 : Int32)) d_LH_sets_164 (by decide) ?_
              refine aj_ne (F := am_oC) (tgt := 180) d_LH_sets_166 (by decide) (fun c => ?_) (fun c => ?_)
              · have h := h.2 c
                refine am_iload_n (j := 1) d_LH_sets_180 rfl rfl ?_
                refine am_bipush (v := (7 : Int32)) d_LH_sets_181 (by decide) ?_
                refine aj_ne (F := am_oC) (tgt := 201) d_LH_sets_183 (by decide) (fun c => ?_) (fun c => ?_)
                · have h := h.2 c
                  refine am_iload_n (j := 1) d_LH_sets_201 rfl rfl ?_
                  refine am_bipush (v := (8 : Int32)) d_LH_sets_202 (by decide) ?_
                  refine aj_ne (F := am_oC) (tgt := 228) d_LH_sets_204 (by decide) (fun c => ?_) (fun c => ?_)
                  · have h := h.2 c
                    refine am_iload_n (j := 1) d_LH_sets_228 rfl rfl ?_
                    refine am_bipush (v := (9 : Int32)) d_LH_sets_229 (by decide) ?_
                    refine aj_ne (F := am_oC) (tgt := 247) d_LH_sets_231 (by decide) (fun c => ?_) (fun c => ?_)
                    · have h := h.2 c
                      refine am_iload_n (j := 1) d_LH_sets_247 rfl rfl ?_
                      refine am_bipush (v := (10 : Int32)) d_LH_sets_248 (by decide) ?_
                      refine aj_ne (F := am_oC) (tgt := 264) d_LH_sets_250 (by decide) (fun c => ?_) (fun c => ?_)
                      · have h := h.2 c
                        refine am_iload_n (j := 1) d_LH_sets_264 rfl rfl ?_
                        refine am_bipush (v := (11 : Int32)) d_LH_sets_265 (by decide) ?_
                        refine aj_ne (F := am_oC) (tgt := 283) d_LH_sets_267 (by decide) (fun c => ?_) (fun c => ?_)
                        · have h := h.2 c
                          refine am_aload_n (j := 0) d_LH_sets_283 rfl rfl ?_
                          refine am_iload_n (j := 2) d_LH_sets_284 rfl rfl ?_
                          refine am_iload_n (j := 3) d_LH_sets_285 rfl rfl ?_
                          obtain ⟨hc, h⟩ := h
                          obtain ⟨hz, h⟩ := h
                          refine am_caseN (F := am_oC) (q := (f_CB_wouldLoseAll s x2 x3).1) (c := 0) (fun c0 => ?_) (fun c0 => ?_)
                          · have h := h.1 c0
                            refine ak_EH (as := [.int x2, .int x3]) (rest := []) d_LH_sets_286 cw_LH_sets_286 rfl (ct_CB_wouldLoseAll hg hc) rfl rfl (by decide) sh_0 rfl (Nat.le_of_ble_eq_true rfl) (by decide) (by decide) (fun n => absurd c0 n) (fun _ => ?_)
                            exact am_iret d_LH_sets_289 rfl rfl (by decide) (by decide) am_oC_ok
                          · have h := h.2 c0
                            refine am_caseN (F := am_oC) (q := (f_CB_wouldLoseAll s x2 x3).1) (c := 1) (fun c1 => ?_) (fun c1 => ?_)
                            · have h := h.1 c1
                              refine ak_EH (as := [.int x2, .int x3]) (rest := []) d_LH_sets_286 cw_LH_sets_286 rfl (ct_CB_wouldLoseAll hg hc) rfl rfl (by decide) sh_0 rfl (Nat.le_of_ble_eq_true rfl) (by decide) (by decide) (fun _ => ⟨290, by rw [c1]; exact hd_LH_sets_1, fun q9 => ?_⟩) (fun n => absurd n c0)
                              refine am_astoreS (lv2 := [(8, .retAddr q9), (0, .ref 0), (1, .int x1), (2, .int x2), (3, .int x3), (4, .int x4), (5, .int x5), (6, .int x6), (7, .int x7)]) d_LH_sets_290 (by decide) rfl ?_
                              refine am_ldc (v := (-9999999 : Int32)) d_LH_sets_292 aw_3_220 ?_
                              exact am_iret d_LH_sets_294 rfl rfl (by decide) (by decide) am_oC_ok
                            · have h := h.2 c1
                              refine am_caseN (F := am_oC) (q := (f_CB_wouldLoseAll s x2 x3).1) (c := 2) (fun c2 => ?_) (fun c2 => ?_)
                              · have h := h.1 c2
                                refine ak_EH (as := [.int x2, .int x3]) (rest := []) d_LH_sets_286 cw_LH_sets_286 rfl (ct_CB_wouldLoseAll hg hc) rfl rfl (by decide) sh_0 rfl (Nat.le_of_ble_eq_true rfl) (by decide) (by decide) (fun _ => ⟨295, by rw [c2]; exact hd_LH_sets_2, fun q9 => ?_⟩) (fun n => absurd n c0)
                                refine am_astoreS (lv2 := [(8, .retAddr q9), (0, .ref 0), (1, .int x1), (2, .int x2), (3, .int x3), (4, .int x4), (5, .int x5), (6, .int x6), (7, .int x7)]) d_LH_sets_295 (by decide) rfl ?_
                                refine am_ldc (v := (-9999999 : Int32)) d_LH_sets_297 aw_3_220 ?_
                                exact am_iret d_LH_sets_299 rfl rfl (by decide) (by decide) am_oC_ok
                              · have h := h.2 c2
                                have c3 : (f_CB_wouldLoseAll s x2 x3).1 = 3 := by rcases hz with z | z | z | z <;> first | exact z | exact absurd z c0 | exact absurd z c1 | exact absurd z c2
                                refine ak_EH (as := [.int x2, .int x3]) (rest := []) d_LH_sets_286 cw_LH_sets_286 rfl (ct_CB_wouldLoseAll hg hc) rfl rfl (by decide) sh_0 rfl (Nat.le_of_ble_eq_true rfl) (by decide) (by decide) (fun _ => ⟨300, by rw [c3]; exact hd_LH_sets_3, fun q9 => ?_⟩) (fun n => absurd n c0)
                                refine am_astoreS (lv2 := [(8, .retAddr q9), (0, .ref 0), (1, .int x1), (2, .int x2), (3, .int x3), (4, .int x4), (5, .int x5), (6, .int x6), (7, .int x7)]) d_LH_sets_300 (by decide) rfl ?_
                                refine am_ldc (v := (-9999999 : Int32)) d_LH_sets_302 aw_3_220 ?_
                                exact am_iret d_LH_sets_304 rfl rfl (by decide) (by decide) am_oC_ok
                        · have h := h.1 c
                          refine am_aload_n (j := 0) d_LH_sets_270 rfl rfl ?_
                          refine am_iload_n (j := 2) d_LH_sets_271 rfl rfl ?_
                          refine am_iload_n (j := 3) d_LH_sets_272 rfl rfl ?_
                          refine am_iload (j := 4) d_LH_sets_273 rfl ?_
                          refine am_iload (j := 5) d_LH_sets_275 rfl ?_
                          obtain ⟨hc, h⟩ := h
                          obtain ⟨hz, h⟩ := h
                          refine am_caseN (F := am_oC) (q := (f_CB_wouldLose s x2 x3 x4 x5).1) (c := 0) (fun c0 => ?_) (fun c0 => ?_)
                          · have h := h.1 c0
                            refine ak_EH (as := [.int x2, .int x3, .int x4, .int x5]) (rest := []) d_LH_sets_277 cw_LH_sets_277 rfl (ct_CB_wouldLose hg hc) rfl rfl (by decide) sh_0 rfl (Nat.le_of_ble_eq_true rfl) (by decide) (by decide) (fun n => absurd c0 n) (fun _ => ?_)
                            refine am_goto (tgt := 289) d_LH_sets_280 (by decide) ?_
                            exact am_iret d_LH_sets_289 rfl rfl (by decide) (by decide) am_oC_ok
                          · have h := h.2 c0
                            refine am_caseN (F := am_oC) (q := (f_CB_wouldLose s x2 x3 x4 x5).1) (c := 1) (fun c1 => ?_) (fun c1 => ?_)
                            · have h := h.1 c1
                              refine ak_EH (as := [.int x2, .int x3, .int x4, .int x5]) (rest := []) d_LH_sets_277 cw_LH_sets_277 rfl (ct_CB_wouldLose hg hc) rfl rfl (by decide) sh_0 rfl (Nat.le_of_ble_eq_true rfl) (by decide) (by decide) (fun _ => ⟨290, by rw [c1]; exact hd_LH_sets_1, fun q9 => ?_⟩) (fun n => absurd n c0)
                              refine am_astoreS (lv2 := [(8, .retAddr q9), (0, .ref 0), (1, .int x1), (2, .int x2), (3, .int x3), (4, .int x4), (5, .int x5), (6, .int x6), (7, .int x7)]) d_LH_sets_290 (by decide) rfl ?_
                              refine am_ldc (v := (-9999999 : Int32)) d_LH_sets_292 aw_3_220 ?_
                              exact am_iret d_LH_sets_294 rfl rfl (by decide) (by decide) am_oC_ok
                            · have h := h.2 c1
                              refine am_caseN (F := am_oC) (q := (f_CB_wouldLose s x2 x3 x4 x5).1) (c := 2) (fun c2 => ?_) (fun c2 => ?_)
                              · have h := h.1 c2
                                refine ak_EH (as := [.int x2, .int x3, .int x4, .int x5]) (rest := []) d_LH_sets_277 cw_LH_sets_277 rfl (ct_CB_wouldLose hg hc) rfl rfl (by decide) sh_0 rfl (Nat.le_of_ble_eq_true rfl) (by decide) (by decide) (fun _ => ⟨295, by rw [c2]; exact hd_LH_sets_2, fun q9 => ?_⟩) (fun n => absurd n c0)
                                refine am_astoreS (lv2 := [(8, .retAddr q9), (0, .ref 0), (1, .int x1), (2, .int x2), (3, .int x3), (4, .int x4), (5, .int x5), (6, .int x6), (7, .int x7)]) d_LH_sets_295 (by decide) rfl ?_
                                refine am_ldc (v := (-9999999 : Int32)) d_LH_sets_297 aw_3_220 ?_
                                exact am_iret d_LH_sets_299 rfl rfl (by decide) (by decide) am_oC_ok
                              · have h := h.2 c2
                                have c3 : (f_CB_wouldLose s x2 x3 x4 x5).1 = 3 := by rcases hz with z | z | z | z <;> first | exact z | exact absurd z c0 | exact absurd z c1 | exact absurd z c2
                                refine ak_EH (as := [.int x2, .int x3, .int x4, .int x5]) (rest := []) d_LH_sets_277 cw_LH_sets_277 rfl (ct_CB_wouldLose hg hc) rfl rfl (by decide) sh_0 rfl (Nat.le_of_ble_eq_true rfl) (by decide) (by decide) (fun _ => ⟨300, by rw [c3]; exact hd_LH_sets_3, fun q9 => ?_⟩) (fun n => absurd n c0)
                                refine am_astoreS (lv2 := [(8, .retAddr q9), (0, .ref 0), (1, .int x1), (2, .int x2), (3, .int x3), (4, .int x4), (5, .int x5), (6, .int x6), (7, .int x7)]) d_LH_sets_300 (by decide) rfl ?_
                                refine am_ldc (v := (-9999999 : Int32)) d_LH_sets_302 aw_3_220 ?_
                                exact am_iret d_LH_sets_304 rfl rfl (by decide) (by decide) am_oC_ok
                      · have h := h.1 c
                        refine am_aload_n (j := 0) d_LH_sets_253 rfl rfl ?_
                        refine am_iload_n (j := 2) d_LH_sets_254 rfl rfl ?_
                        refine am_iload_n (j := 3) d_LH_sets_255 rfl rfl ?_
                        refine am_iload (j := 4) d_LH_sets_256 rfl ?_
                        obtain ⟨hc, h⟩ := h
                        obtain ⟨hz, h⟩ := h
                        refine am_caseN (F := am_oC) (q := (f_CB_cell s x2 x3 x4).1) (c := 0) (fun c0 => ?_) (fun c0 => ?_)
                        · have h := h.1 c0
                          refine ak_EH (as := [.int x2, .int x3, .int x4]) (rest := []) d_LH_sets_258 cw_LH_sets_258 rfl (ct_CB_cell hg hc) rfl rfl (by decide) sh_0 rfl (Nat.le_of_ble_eq_true rfl) (by decide) (by decide) (fun n => absurd c0 n) (fun _ => ?_)
                          refine am_goto (tgt := 289) d_LH_sets_261 (by decide) ?_
                          exact am_iret d_LH_sets_289 rfl rfl (by decide) (by decide) am_oC_ok
                        · have h := h.2 c0
                          refine am_caseN (F := am_oC) (q := (f_CB_cell s x2 x3 x4).1) (c := 1) (fun c1 => ?_) (fun c1 => ?_)
                          · have h := h.1 c1
                            refine ak_EH (as := [.int x2, .int x3, .int x4]) (rest := []) d_LH_sets_258 cw_LH_sets_258 rfl (ct_CB_cell hg hc) rfl rfl (by decide) sh_0 rfl (Nat.le_of_ble_eq_true rfl) (by decide) (by decide) (fun _ => ⟨290, by rw [c1]; exact hd_LH_sets_1, fun q9 => ?_⟩) (fun n => absurd n c0)
                            refine am_astoreS (lv2 := [(8, .retAddr q9), (0, .ref 0), (1, .int x1), (2, .int x2), (3, .int x3), (4, .int x4), (5, .int x5), (6, .int x6), (7, .int x7)]) d_LH_sets_290 (by decide) rfl ?_
                            refine am_ldc (v := (-9999999 : Int32)) d_LH_sets_292 aw_3_220 ?_
                            exact am_iret d_LH_sets_294 rfl rfl (by decide) (by decide) am_oC_ok
                          · have h := h.2 c1
                            refine am_caseN (F := am_oC) (q := (f_CB_cell s x2 x3 x4).1) (c := 2) (fun c2 => ?_) (fun c2 => ?_)
                            · have h := h.1 c2
                              refine ak_EH (as := [.int x2, .int x3, .int x4]) (rest := []) d_LH_sets_258 cw_LH_sets_258 rfl (ct_CB_cell hg hc) rfl rfl (by decide) sh_0 rfl (Nat.le_of_ble_eq_true rfl) (by decide) (by decide) (fun _ => ⟨295, by rw [c2]; exact hd_LH_sets_2, fun q9 => ?_⟩) (fun n => absurd n c0)
                              refine am_astoreS (lv2 := [(8, .retAddr q9), (0, .ref 0), (1, .int x1), (2, .int x2), (3, .int x3), (4, .int x4), (5, .int x5), (6, .int x6), (7, .int x7)]) d_LH_sets_295 (by decide) rfl ?_
                              refine am_ldc (v := (-9999999 : Int32)) d_LH_sets_297 aw_3_220 ?_
                              exact am_iret d_LH_sets_299 rfl rfl (by decide) (by decide) am_oC_ok
                            · have h := h.2 c2
                              have c3 : (f_CB_cell s x2 x3 x4).1 = 3 := by rcases hz with z | z | z | z <;> first | exact z | exact absurd z c0 | exact absurd z c1 | exact absurd z c2
                              refine ak_EH (as := [.int x2, .int x3, .int x4]) (rest := []) d_LH_sets_258 cw_LH_sets_258 rfl (ct_CB_cell hg hc) rfl rfl (by decide) sh_0 rfl (Nat.le_of_ble_eq_true rfl) (by decide) (by decide) (fun _ => ⟨300, by rw [c3]; exact hd_LH_sets_3, fun q9 => ?_⟩) (fun n => absurd n c0)
                              refine am_astoreS (lv2 := [(8, .retAddr q9), (0, .ref 0), (1, .int x1), (2, .int x2), (3, .int x3), (4, .int x4), (5, .int x5), (6, .int x6), (7, .int x7)]) d_LH_sets_300 (by decide) rfl ?_
                              refine am_ldc (v := (-9999999 : Int32)) d_LH_sets_302 aw_3_220 ?_
                              exact am_iret d_LH_sets_304 rfl rfl (by decide) (by decide) am_oC_ok
                    · have h := h.1 c
                      refine am_aload_n (j := 0) d_LH_sets_234 rfl rfl ?_
                      refine am_iload_n (j := 2) d_LH_sets_235 rfl rfl ?_
                      refine am_iload_n (j := 3) d_LH_sets_236 rfl rfl ?_
                      refine am_iload (j := 4) d_LH_sets_237 rfl ?_
                      refine am_iload (j := 5) d_LH_sets_239 rfl ?_
                      obtain ⟨hc, h⟩ := h
                      obtain ⟨hz, h⟩ := h
                      refine am_caseN (F := am_oC) (q := (h_CB_choice s x2 x3 x4 x5).1) (c := 0) (fun c0 => ?_) (fun c0 => ?_)
                      · have h := h.1 c0
                        refine ak_EH (as := [.int x2, .int x3, .int x4, .int x5]) (rest := []) d_LH_sets_241 cw_LH_sets_241 rfl (ch_CB_choice hg hc) rfl rfl (by decide) sh_0 rfl (Nat.le_of_ble_eq_true rfl) (by decide) (by decide) (fun n => absurd c0 n) (fun _ => ?_)
                        refine am_goto (tgt := 289) d_LH_sets_244 (by decide) ?_
                        exact am_iret d_LH_sets_289 rfl rfl (by decide) (by decide) am_oC_ok
                      · have h := h.2 c0
                        refine am_caseN (F := am_oC) (q := (h_CB_choice s x2 x3 x4 x5).1) (c := 1) (fun c1 => ?_) (fun c1 => ?_)
                        · have h := h.1 c1
                          refine ak_EH (as := [.int x2, .int x3, .int x4, .int x5]) (rest := []) d_LH_sets_241 cw_LH_sets_241 rfl (ch_CB_choice hg hc) rfl rfl (by decide) sh_0 rfl (Nat.le_of_ble_eq_true rfl) (by decide) (by decide) (fun _ => ⟨290, by rw [c1]; exact hd_LH_sets_1, fun q9 => ?_⟩) (fun n => absurd n c0)
                          refine am_astoreS (lv2 := [(8, .retAddr q9), (0, .ref 0), (1, .int x1), (2, .int x2), (3, .int x3), (4, .int x4), (5, .int x5), (6, .int x6), (7, .int x7)]) d_LH_sets_290 (by decide) rfl ?_
                          refine am_ldc (v := (-9999999 : Int32)) d_LH_sets_292 aw_3_220 ?_
                          exact am_iret d_LH_sets_294 rfl rfl (by decide) (by decide) am_oC_ok
                        · have h := h.2 c1
                          refine am_caseN (F := am_oC) (q := (h_CB_choice s x2 x3 x4 x5).1) (c := 2) (fun c2 => ?_) (fun c2 => ?_)
                          · have h := h.1 c2
                            refine ak_EH (as := [.int x2, .int x3, .int x4, .int x5]) (rest := []) d_LH_sets_241 cw_LH_sets_241 rfl (ch_CB_choice hg hc) rfl rfl (by decide) sh_0 rfl (Nat.le_of_ble_eq_true rfl) (by decide) (by decide) (fun _ => ⟨295, by rw [c2]; exact hd_LH_sets_2, fun q9 => ?_⟩) (fun n => absurd n c0)
                            refine am_astoreS (lv2 := [(8, .retAddr q9), (0, .ref 0), (1, .int x1), (2, .int x2), (3, .int x3), (4, .int x4), (5, .int x5), (6, .int x6), (7, .int x7)]) d_LH_sets_295 (by decide) rfl ?_
                            refine am_ldc (v := (-9999999 : Int32)) d_LH_sets_297 aw_3_220 ?_
                            exact am_iret d_LH_sets_299 rfl rfl (by decide) (by decide) am_oC_ok
                          · have h := h.2 c2
                            have c3 : (h_CB_choice s x2 x3 x4 x5).1 = 3 := by rcases hz with z | z | z | z <;> first | exact z | exact absurd z c0 | exact absurd z c1 | exact absurd z c2
                            refine ak_EH (as := [.int x2, .int x3, .int x4, .int x5]) (rest := []) d_LH_sets_241 cw_LH_sets_241 rfl (ch_CB_choice hg hc) rfl rfl (by decide) sh_0 rfl (Nat.le_of_ble_eq_true rfl) (by decide) (by decide) (fun _ => ⟨300, by rw [c3]; exact hd_LH_sets_3, fun q9 => ?_⟩) (fun n => absurd n c0)
                            refine am_astoreS (lv2 := [(8, .retAddr q9), (0, .ref 0), (1, .int x1), (2, .int x2), (3, .int x3), (4, .int x4), (5, .int x5), (6, .int x6), (7, .int x7)]) d_LH_sets_300 (by decide) rfl ?_
                            refine am_ldc (v := (-9999999 : Int32)) d_LH_sets_302 aw_3_220 ?_
                            exact am_iret d_LH_sets_304 rfl rfl (by decide) (by decide) am_oC_ok
                  · have h := h.1 c
                    refine am_aload_n (j := 0) d_LH_sets_207 rfl rfl ?_
                    refine am_iload_n (j := 2) d_LH_sets_208 rfl rfl ?_
                    refine am_iload_n (j := 3) d_LH_sets_209 rfl rfl ?_
                    refine am_iload (j := 4) d_LH_sets_210 rfl ?_
                    refine am_iload (j := 5) d_LH_sets_212 rfl ?_
                    obtain ⟨hc, h⟩ := h
                    obtain ⟨hz, h⟩ := h
                    refine am_caseN (F := am_oC) (q := (h_CB_put s x2 x3 x4 x5).1) (c := 0) (fun c0 => ?_) (fun c0 => ?_)
                    · have h := h.1 c0
                      refine ak_EH (as := [.int x2, .int x3, .int x4, .int x5]) (rest := []) d_LH_sets_214 cw_LH_sets_214 rfl (ch_CB_put hg hc) rfl rfl (by decide) sh_0 rfl (Nat.le_of_ble_eq_true rfl) (by decide) (by decide) (fun n => absurd c0 n) (fun _ => ?_)
                      refine ai_eq (F := am_oC) (tgt := 224) d_LH_sets_217 (by decide) (fun c => ?_) (fun c => ?_)
                      · have h := h.1 c
                        refine am_iconst (v := (0 : Int32)) d_LH_sets_224 (by decide) ?_
                        refine am_goto (tgt := 289) d_LH_sets_225 (by decide) ?_
                        exact am_iret d_LH_sets_289 rfl rfl (by decide) (by decide) am_oC_ok
                      · have h := h.2 c
                        refine am_iconst (v := (1 : Int32)) d_LH_sets_220 (by decide) ?_
                        refine am_goto (tgt := 289) d_LH_sets_221 (by decide) ?_
                        exact am_iret d_LH_sets_289 rfl rfl (by decide) (by decide) am_oC_ok
                    · have h := h.2 c0
                      refine am_caseN (F := am_oC) (q := (h_CB_put s x2 x3 x4 x5).1) (c := 1) (fun c1 => ?_) (fun c1 => ?_)
                      · have h := h.1 c1
                        refine ak_EH (as := [.int x2, .int x3, .int x4, .int x5]) (rest := []) d_LH_sets_214 cw_LH_sets_214 rfl (ch_CB_put hg hc) rfl rfl (by decide) sh_0 rfl (Nat.le_of_ble_eq_true rfl) (by decide) (by decide) (fun _ => ⟨290, by rw [c1]; exact hd_LH_sets_1, fun q9 => ?_⟩) (fun n => absurd n c0)
                        refine am_astoreS (lv2 := [(8, .retAddr q9), (0, .ref 0), (1, .int x1), (2, .int x2), (3, .int x3), (4, .int x4), (5, .int x5), (6, .int x6), (7, .int x7)]) d_LH_sets_290 (by decide) rfl ?_
                        refine am_ldc (v := (-9999999 : Int32)) d_LH_sets_292 aw_3_220 ?_
                        exact am_iret d_LH_sets_294 rfl rfl (by decide) (by decide) am_oC_ok
                      · have h := h.2 c1
                        refine am_caseN (F := am_oC) (q := (h_CB_put s x2 x3 x4 x5).1) (c := 2) (fun c2 => ?_) (fun c2 => ?_)
                        · have h := h.1 c2
                          refine ak_EH (as := [.int x2, .int x3, .int x4, .int x5]) (rest := []) d_LH_sets_214 cw_LH_sets_214 rfl (ch_CB_put hg hc) rfl rfl (by decide) sh_0 rfl (Nat.le_of_ble_eq_true rfl) (by decide) (by decide) (fun _ => ⟨295, by rw [c2]; exact hd_LH_sets_2, fun q9 => ?_⟩) (fun n => absurd n c0)
                          refine am_astoreS (lv2 := [(8, .retAddr q9), (0, .ref 0), (1, .int x1), (2, .int x2), (3, .int x3), (4, .int x4), (5, .int x5), (6, .int x6), (7, .int x7)]) d_LH_sets_295 (by decide) rfl ?_
                          refine am_ldc (v := (-9999999 : Int32)) d_LH_sets_297 aw_3_220 ?_
                          exact am_iret d_LH_sets_299 rfl rfl (by decide) (by decide) am_oC_ok
                        · have h := h.2 c2
                          have c3 : (h_CB_put s x2 x3 x4 x5).1 = 3 := by rcases hz with z | z | z | z <;> first | exact z | exact absurd z c0 | exact absurd z c1 | exact absurd z c2
                          refine ak_EH (as := [.int x2, .int x3, .int x4, .int x5]) (rest := []) d_LH_sets_214 cw_LH_sets_214 rfl (ch_CB_put hg hc) rfl rfl (by decide) sh_0 rfl (Nat.le_of_ble_eq_true rfl) (by decide) (by decide) (fun _ => ⟨300, by rw [c3]; exact hd_LH_sets_3, fun q9 => ?_⟩) (fun n => absurd n c0)
                          refine am_astoreS (lv2 := [(8, .retAddr q9), (0, .ref 0), (1, .int x1), (2, .int x2), (3, .int x3), (4, .int x4), (5, .int x5), (6, .int x6), (7, .int x7)]) d_LH_sets_300 (by decide) rfl ?_
                          refine am_ldc (v := (-9999999 : Int32)) d_LH_sets_302 aw_3_220 ?_
                          exact am_iret d_LH_sets_304 rfl rfl (by decide) (by decide) am_oC_ok
                · have h := h.1 c
                  refine am_aload_n (j := 0) d_LH_sets_186 rfl rfl ?_
                  refine am_iload_n (j := 2) d_LH_sets_187 rfl rfl ?_
                  refine am_iload_n (j := 3) d_LH_sets_188 rfl rfl ?_
                  refine am_iload (j := 4) d_LH_sets_189 rfl ?_
                  refine am_iload (j := 5) d_LH_sets_191 rfl ?_
                  refine am_iload (j := 6) d_LH_sets_193 rfl ?_
                  obtain ⟨hc, h⟩ := h
                  obtain ⟨hz, h⟩ := h
                  refine am_caseN (F := am_oC) (q := (h_CB_addRule s x2 x3 x4 x5 x6).1) (c := 0) (fun c0 => ?_) (fun c0 => ?_)
                  · have h := h.1 c0
                    refine ak_EH (as := [.int x2, .int x3, .int x4, .int x5, .int x6]) (rest := []) d_LH_sets_195 cw_LH_sets_195 rfl (ch_CB_addRule hg hc) rfl rfl (by decide) sh_0 rfl (Nat.le_of_ble_eq_true rfl) (by decide) (by decide) (fun n => absurd c0 n) (fun _ => ?_)
                    refine am_goto (tgt := 289) d_LH_sets_198 (by decide) ?_
                    exact am_iret d_LH_sets_289 rfl rfl (by decide) (by decide) am_oC_ok
                  · have h := h.2 c0
                    refine am_caseN (F := am_oC) (q := (h_CB_addRule s x2 x3 x4 x5 x6).1) (c := 1) (fun c1 => ?_) (fun c1 => ?_)
                    · have h := h.1 c1
                      refine ak_EH (as := [.int x2, .int x3, .int x4, .int x5, .int x6]) (rest := []) d_LH_sets_195 cw_LH_sets_195 rfl (ch_CB_addRule hg hc) rfl rfl (by decide) sh_0 rfl (Nat.le_of_ble_eq_true rfl) (by decide) (by decide) (fun _ => ⟨290, by rw [c1]; exact hd_LH_sets_1, fun q9 => ?_⟩) (fun n => absurd n c0)
                      refine am_astoreS (lv2 := [(8, .retAddr q9), (0, .ref 0), (1, .int x1), (2, .int x2), (3, .int x3), (4, .int x4), (5, .int x5), (6, .int x6), (7, .int x7)]) d_LH_sets_290 (by decide) rfl ?_
                      refine am_ldc (v := (-9999999 : Int32)) d_LH_sets_292 aw_3_220 ?_
                      exact am_iret d_LH_sets_294 rfl rfl (by decide) (by decide) am_oC_ok
                    · have h := h.2 c1
                      refine am_caseN (F := am_oC) (q := (h_CB_addRule s x2 x3 x4 x5 x6).1) (c := 2) (fun c2 => ?_) (fun c2 => ?_)
                      · have h := h.1 c2
                        refine ak_EH (as := [.int x2, .int x3, .int x4, .int x5, .int x6]) (rest := []) d_LH_sets_195 cw_LH_sets_195 rfl (ch_CB_addRule hg hc) rfl rfl (by decide) sh_0 rfl (Nat.le_of_ble_eq_true rfl) (by decide) (by decide) (fun _ => ⟨295, by rw [c2]; exact hd_LH_sets_2, fun q9 => ?_⟩) (fun n => absurd n c0)
                        refine am_astoreS (lv2 := [(8, .retAddr q9), (0, .ref 0), (1, .int x1), (2, .int x2), (3, .int x3), (4, .int x4), (5, .int x5), (6, .int x6), (7, .int x7)]) d_LH_sets_295 (by decide) rfl ?_
                        refine am_ldc (v := (-9999999 : Int32)) d_LH_sets_297 aw_3_220 ?_
                        exact am_iret d_LH_sets_299 rfl rfl (by decide) (by decide) am_oC_ok
                      · have h := h.2 c2
                        have c3 : (h_CB_addRule s x2 x3 x4 x5 x6).1 = 3 := by rcases hz with z | z | z | z <;> first | exact z | exact absurd z c0 | exact absurd z c1 | exact absurd z c2
                        refine ak_EH (as := [.int x2, .int x3, .int x4, .int x5, .int x6]) (rest := []) d_LH_sets_195 cw_LH_sets_195 rfl (ch_CB_addRule hg hc) rfl rfl (by decide) sh_0 rfl (Nat.le_of_ble_eq_true rfl) (by decide) (by decide) (fun _ => ⟨300, by rw [c3]; exact hd_LH_sets_3, fun q9 => ?_⟩) (fun n => absurd n c0)
                        refine am_astoreS (lv2 := [(8, .retAddr q9), (0, .ref 0), (1, .int x1), (2, .int x2), (3, .int x3), (4, .int x4), (5, .int x5), (6, .int x6), (7, .int x7)]) d_LH_sets_300 (by decide) rfl ?_
                        refine am_ldc (v := (-9999999 : Int32)) d_LH_sets_302 aw_3_220 ?_
                        exact am_iret d_LH_sets_304 rfl rfl (by decide) (by decide) am_oC_ok
              · have h := h.1 c
                refine am_aload_n (j := 0) d_LH_sets_169 rfl rfl ?_
                refine am_iload_n (j := 2) d_LH_sets_170 rfl rfl ?_
                refine am_iload_n (j := 3) d_LH_sets_171 rfl rfl ?_
                refine am_iload (j := 4) d_LH_sets_172 rfl ?_
                obtain ⟨hc, h⟩ := h
                obtain ⟨hz, h⟩ := h
                refine am_caseN (F := am_oC) (q := (h_CB_setRemoval s x2 x3 x4).1) (c := 0) (fun c0 => ?_) (fun c0 => ?_)
                · have h := h.1 c0
                  refine ak_EH (as := [.int x2, .int x3, .int x4]) (rest := []) d_LH_sets_174 cw_LH_sets_174 rfl (ch_CB_setRemoval hg hc) rfl rfl (by decide) sh_0 rfl (Nat.le_of_ble_eq_true rfl) (by decide) (by decide) (fun n => absurd c0 n) (fun _ => ?_)
                  refine am_goto (tgt := 289) d_LH_sets_177 (by decide) ?_
                  exact am_iret d_LH_sets_289 rfl rfl (by decide) (by decide) am_oC_ok
                · have h := h.2 c0
                  refine am_caseN (F := am_oC) (q := (h_CB_setRemoval s x2 x3 x4).1) (c := 1) (fun c1 => ?_) (fun c1 => ?_)
                  · have h := h.1 c1
                    refine ak_EH (as := [.int x2, .int x3, .int x4]) (rest := []) d_LH_sets_174 cw_LH_sets_174 rfl (ch_CB_setRemoval hg hc) rfl rfl (by decide) sh_0 rfl (Nat.le_of_ble_eq_true rfl) (by decide) (by decide) (fun _ => ⟨290, by rw [c1]; exact hd_LH_sets_1, fun q9 => ?_⟩) (fun n => absurd n c0)
                    refine am_astoreS (lv2 := [(8, .retAddr q9), (0, .ref 0), (1, .int x1), (2, .int x2), (3, .int x3), (4, .int x4), (5, .int x5), (6, .int x6), (7, .int x7)]) d_LH_sets_290 (by decide) rfl ?_
                    refine am_ldc (v := (-9999999 : Int32)) d_LH_sets_292 aw_3_220 ?_
                    exact am_iret d_LH_sets_294 rfl rfl (by decide) (by decide) am_oC_ok
                  · have h := h.2 c1
                    refine am_caseN (F := am_oC) (q := (h_CB_setRemoval s x2 x3 x4).1) (c := 2) (fun c2 => ?_) (fun c2 => ?_)
                    · have h := h.1 c2
                      refine ak_EH (as := [.int x2, .int x3, .int x4]) (rest := []) d_LH_sets_174 cw_LH_sets_174 rfl (ch_CB_setRemoval hg hc) rfl rfl (by decide) sh_0 rfl (Nat.le_of_ble_eq_true rfl) (by decide) (by decide) (fun _ => ⟨295, by rw [c2]; exact hd_LH_sets_2, fun q9 => ?_⟩) (fun n => absurd n c0)
                      refine am_astoreS (lv2 := [(8, .retAddr q9), (0, .ref 0), (1, .int x1), (2, .int x2), (3, .int x3), (4, .int x4), (5, .int x5), (6, .int x6), (7, .int x7)]) d_LH_sets_295 (by decide) rfl ?_
                      refine am_ldc (v := (-9999999 : Int32)) d_LH_sets_297 aw_3_220 ?_
                      exact am_iret d_LH_sets_299 rfl rfl (by decide) (by decide) am_oC_ok
                    · have h := h.2 c2
                      have c3 : (h_CB_setRemoval s x2 x3 x4).1 = 3 := by rcases hz with z | z | z | z <;> first | exact z | exact absurd z c0 | exact absurd z c1 | exact absurd z c2
                      refine ak_EH (as := [.int x2, .int x3, .int x4]) (rest := []) d_LH_sets_174 cw_LH_sets_174 rfl (ch_CB_setRemoval hg hc) rfl rfl (by decide) sh_0 rfl (Nat.le_of_ble_eq_true rfl) (by decide) (by decide) (fun _ => ⟨300, by rw [c3]; exact hd_LH_sets_3, fun q9 => ?_⟩) (fun n => absurd n c0)
                      refine am_astoreS (lv2 := [(8, .retAddr q9), (0, .ref 0), (1, .int x1), (2, .int x2), (3, .int x3), (4, .int x4), (5, .int x5), (6, .int x6), (7, .int x7)]) d_LH_sets_300 (by decide) rfl ?_
                      refine am_ldc (v := (-9999999 : Int32)) d_LH_sets_302 aw_3_220 ?_
                      exact am_iret d_LH_sets_304 rfl rfl (by decide) (by decide) am_oC_ok
            · have h := h.1 c
              refine am_aload_n (j := 0) d_LH_sets_146 rfl rfl ?_
              refine am_iload_n (j := 2) d_LH_sets_147 rfl rfl ?_
              refine am_iload_n (j := 3) d_LH_sets_148 rfl rfl ?_
              obtain ⟨hc, h⟩ := h
              obtain ⟨hz, h⟩ := h
              refine am_caseN (F := am_oC) (q := (h_CB_drop s x2 x3).1) (c := 0) (fun c0 => ?_) (fun c0 => ?_)
              · have h := h.1 c0
                refine ak_EH (as := [.int x2, .int x3]) (rest := []) d_LH_sets_149 cw_LH_sets_149 rfl (ch_CB_drop hg hc) rfl rfl (by decide) sh_0 rfl (Nat.le_of_ble_eq_true rfl) (by decide) (by decide) (fun n => absurd c0 n) (fun _ => ?_)
                refine ai_eq (F := am_oC) (tgt := 159) d_LH_sets_152 (by decide) (fun c => ?_) (fun c => ?_)
                · have h := h.1 c
                  refine am_iconst (v := (0 : Int32)) d_LH_sets_159 (by decide) ?_
                  refine am_goto (tgt := 289) d_LH_sets_160 (by decide) ?_
                  exact am_iret d_LH_sets_289 rfl rfl (by decide) (by decide) am_oC_ok
                · have h := h.2 c
                  refine am_iconst (v := (1 : Int32)) d_LH_sets_155 (by decide) ?_
                  refine am_goto (tgt := 289) d_LH_sets_156 (by decide) ?_
                  exact am_iret d_LH_sets_289 rfl rfl (by decide) (by decide) am_oC_ok
              · have h := h.2 c0
                refine am_caseN (F := am_oC) (q := (h_CB_drop s x2 x3).1) (c := 1) (fun c1 => ?_) (fun c1 => ?_)
                · have h := h.1 c1
                  refine ak_EH (as := [.int x2, .int x3]) (rest := []) d_LH_sets_149 cw_LH_sets_149 rfl (ch_CB_drop hg hc) rfl rfl (by decide) sh_0 rfl (Nat.le_of_ble_eq_true rfl) (by decide) (by decide) (fun _ => ⟨290, by rw [c1]; exact hd_LH_sets_1, fun q9 => ?_⟩) (fun n => absurd n c0)
                  refine am_astoreS (lv2 := [(8, .retAddr q9), (0, .ref 0), (1, .int x1), (2, .int x2), (3, .int x3), (4, .int x4), (5, .int x5), (6, .int x6), (7, .int x7)]) d_LH_sets_290 (by decide) rfl ?_
                  refine am_ldc (v := (-9999999 : Int32)) d_LH_sets_292 aw_3_220 ?_
                  exact am_iret d_LH_sets_294 rfl rfl (by decide) (by decide) am_oC_ok
                · have h := h.2 c1
                  refine am_caseN (F := am_oC) (q := (h_CB_drop s x2 x3).1) (c := 2) (fun c2 => ?_) (fun c2 => ?_)
                  · have h := h.1 c2
                    refine ak_EH (as := [.int x2, .int x3]) (rest := []) d_LH_sets_149 cw_LH_sets_149 rfl (ch_CB_drop hg hc) rfl rfl (by decide) sh_0 rfl (Nat.le_of_ble_eq_true rfl) (by decide) (by decide) (fun _ => ⟨295, by rw [c2]; exact hd_LH_sets_2, fun q9 => ?_⟩) (fun n => absurd n c0)
                    refine am_astoreS (lv2 := [(8, .retAddr q9), (0, .ref 0), (1, .int x1), (2, .int x2), (3, .int x3), (4, .int x4), (5, .int x5), (6, .int x6), (7, .int x7)]) d_LH_sets_295 (by decide) rfl ?_
                    refine am_ldc (v := (-9999999 : Int32)) d_LH_sets_297 aw_3_220 ?_
                    exact am_iret d_LH_sets_299 rfl rfl (by decide) (by decide) am_oC_ok
                  · have h := h.2 c2
                    have c3 : (h_CB_drop s x2 x3).1 = 3 := by rcases hz with z | z | z | z <;> first | exact z | exact absurd z c0 | exact absurd z c1 | exact absurd z c2
                    refine ak_EH (as := [.int x2, .int x3]) (rest := []) d_LH_sets_149 cw_LH_sets_149 rfl (ch_CB_drop hg hc) rfl rfl (by decide) sh_0 rfl (Nat.le_of_ble_eq_true rfl) (by decide) (by decide) (fun _ => ⟨300, by rw [c3]; exact hd_LH_sets_3, fun q9 => ?_⟩) (fun n => absurd n c0)
                    refine am_astoreS (lv2 := [(8, .retAddr q9), (0, .ref 0), (1, .int x1), (2, .int x2), (3, .int x3), (4, .int x4), (5, .int x5), (6, .int x6), (7, .int x7)]) d_LH_sets_300 (by decide) rfl ?_
                    refine am_ldc (v := (-9999999 : Int32)) d_LH_sets_302 aw_3_220 ?_
                    exact am_iret d_LH_sets_304 rfl rfl (by decide) (by decide) am_oC_ok
          · have h := h.1 c
            refine am_aload_n (j := 0) d_LH_sets_120 rfl rfl ?_
            refine am_iload_n (j := 2) d_LH_sets_121 rfl rfl ?_
            refine am_iload_n (j := 3) d_LH_sets_122 rfl rfl ?_
            refine am_iload (j := 4) d_LH_sets_123 rfl ?_
            refine am_iload (j := 5) d_LH_sets_125 rfl ?_
            obtain ⟨hc, h⟩ := h
            obtain ⟨hz, h⟩ := h
            refine am_caseN (F := am_oC) (q := (h_CB_narrow s x2 x3 x4 x5).1) (c := 0) (fun c0 => ?_) (fun c0 => ?_)
            · have h := h.1 c0
              refine ak_EH (as := [.int x2, .int x3, .int x4, .int x5]) (rest := []) d_LH_sets_127 cw_LH_sets_127 rfl (ch_CB_narrow hg hc) rfl rfl (by decide) sh_0 rfl (Nat.le_of_ble_eq_true rfl) (by decide) (by decide) (fun n => absurd c0 n) (fun _ => ?_)
              refine ai_eq (F := am_oC) (tgt := 137) d_LH_sets_130 (by decide) (fun c => ?_) (fun c => ?_)
              · have h := h.1 c
                refine am_iconst (v := (0 : Int32)) d_LH_sets_137 (by decide) ?_
                refine am_goto (tgt := 289) d_LH_sets_138 (by decide) ?_
                exact am_iret d_LH_sets_289 rfl rfl (by decide) (by decide) am_oC_ok
              · have h := h.2 c
                refine am_iconst (v := (1 : Int32)) d_LH_sets_133 (by decide) ?_
                refine am_goto (tgt := 289) d_LH_sets_134 (by decide) ?_
                exact am_iret d_LH_sets_289 rfl rfl (by decide) (by decide) am_oC_ok
            · have h := h.2 c0
              refine am_caseN (F := am_oC) (q := (h_CB_narrow s x2 x3 x4 x5).1) (c := 1) (fun c1 => ?_) (fun c1 => ?_)
              · have h := h.1 c1
                refine ak_EH (as := [.int x2, .int x3, .int x4, .int x5]) (rest := []) d_LH_sets_127 cw_LH_sets_127 rfl (ch_CB_narrow hg hc) rfl rfl (by decide) sh_0 rfl (Nat.le_of_ble_eq_true rfl) (by decide) (by decide) (fun _ => ⟨290, by rw [c1]; exact hd_LH_sets_1, fun q9 => ?_⟩) (fun n => absurd n c0)
                refine am_astoreS (lv2 := [(8, .retAddr q9), (0, .ref 0), (1, .int x1), (2, .int x2), (3, .int x3), (4, .int x4), (5, .int x5), (6, .int x6), (7, .int x7)]) d_LH_sets_290 (by decide) rfl ?_
                refine am_ldc (v := (-9999999 : Int32)) d_LH_sets_292 aw_3_220 ?_
                exact am_iret d_LH_sets_294 rfl rfl (by decide) (by decide) am_oC_ok
              · have h := h.2 c1
                refine am_caseN (F := am_oC) (q := (h_CB_narrow s x2 x3 x4 x5).1) (c := 2) (fun c2 => ?_) (fun c2 => ?_)
                · have h := h.1 c2
                  refine ak_EH (as := [.int x2, .int x3, .int x4, .int x5]) (rest := []) d_LH_sets_127 cw_LH_sets_127 rfl (ch_CB_narrow hg hc) rfl rfl (by decide) sh_0 rfl (Nat.le_of_ble_eq_true rfl) (by decide) (by decide) (fun _ => ⟨295, by rw [c2]; exact hd_LH_sets_2, fun q9 => ?_⟩) (fun n => absurd n c0)
                  refine am_astoreS (lv2 := [(8, .retAddr q9), (0, .ref 0), (1, .int x1), (2, .int x2), (3, .int x3), (4, .int x4), (5, .int x5), (6, .int x6), (7, .int x7)]) d_LH_sets_295 (by decide) rfl ?_
                  refine am_ldc (v := (-9999999 : Int32)) d_LH_sets_297 aw_3_220 ?_
                  exact am_iret d_LH_sets_299 rfl rfl (by decide) (by decide) am_oC_ok
                · have h := h.2 c2
                  have c3 : (h_CB_narrow s x2 x3 x4 x5).1 = 3 := by rcases hz with z | z | z | z <;> first | exact z | exact absurd z c0 | exact absurd z c1 | exact absurd z c2
                  refine ak_EH (as := [.int x2, .int x3, .int x4, .int x5]) (rest := []) d_LH_sets_127 cw_LH_sets_127 rfl (ch_CB_narrow hg hc) rfl rfl (by decide) sh_0 rfl (Nat.le_of_ble_eq_true rfl) (by decide) (by decide) (fun _ => ⟨300, by rw [c3]; exact hd_LH_sets_3, fun q9 => ?_⟩) (fun n => absurd n c0)
                  refine am_astoreS (lv2 := [(8, .retAddr q9), (0, .ref 0), (1, .int x1), (2, .int x2), (3, .int x3), (4, .int x4), (5, .int x5), (6, .int x6), (7, .int x7)]) d_LH_sets_300 (by decide) rfl ?_
                  refine am_ldc (v := (-9999999 : Int32)) d_LH_sets_302 aw_3_220 ?_
                  exact am_iret d_LH_sets_304 rfl rfl (by decide) (by decide) am_oC_ok
        · have h := h.1 c
          refine am_aload_n (j := 0) d_LH_sets_87 rfl rfl ?_
          refine am_iload_n (j := 2) d_LH_sets_88 rfl rfl ?_
          refine am_iload_n (j := 3) d_LH_sets_89 rfl rfl ?_
          refine am_iload (j := 4) d_LH_sets_90 rfl ?_
          refine am_iconst (v := (1 : Int32)) d_LH_sets_92 (by decide) ?_
          refine aj_ne (F := am_oC) (tgt := 100) d_LH_sets_93 (by decide) (fun c => ?_) (fun c => ?_)
          · have h := h.2 c
            refine am_iconst (v := (0 : Int32)) d_LH_sets_100 (by decide) ?_
            obtain ⟨hc, h⟩ := h
            obtain ⟨hz, h⟩ := h
            refine am_caseN (F := am_oC) (q := (h_CB_single s x2 x3 (0 : Int32)).1) (c := 0) (fun c0 => ?_) (fun c0 => ?_)
            · have h := h.1 c0
              refine ak_EH (as := [.int x2, .int x3, .int (0 : Int32)]) (rest := []) d_LH_sets_101 cw_LH_sets_101 rfl (ch_CB_single hg hc) rfl rfl (by decide) sh_0 rfl (Nat.le_of_ble_eq_true rfl) (by decide) (by decide) (fun n => absurd c0 n) (fun _ => ?_)
              refine ai_eq (F := am_oC) (tgt := 111) d_LH_sets_104 (by decide) (fun c => ?_) (fun c => ?_)
              · have h := h.1 c
                refine am_iconst (v := (0 : Int32)) d_LH_sets_111 (by decide) ?_
                refine am_goto (tgt := 289) d_LH_sets_112 (by decide) ?_
                exact am_iret d_LH_sets_289 rfl rfl (by decide) (by decide) am_oC_ok
              · have h := h.2 c
                refine am_iconst (v := (1 : Int32)) d_LH_sets_107 (by decide) ?_
                refine am_goto (tgt := 289) d_LH_sets_108 (by decide) ?_
                exact am_iret d_LH_sets_289 rfl rfl (by decide) (by decide) am_oC_ok
            · have h := h.2 c0
              refine am_caseN (F := am_oC) (q := (h_CB_single s x2 x3 (0 : Int32)).1) (c := 1) (fun c1 => ?_) (fun c1 => ?_)
              · have h := h.1 c1
                refine ak_EH (as := [.int x2, .int x3, .int (0 : Int32)]) (rest := []) d_LH_sets_101 cw_LH_sets_101 rfl (ch_CB_single hg hc) rfl rfl (by decide) sh_0 rfl (Nat.le_of_ble_eq_true rfl) (by decide) (by decide) (fun _ => ⟨290, by rw [c1]; exact hd_LH_sets_1, fun q9 => ?_⟩) (fun n => absurd n c0)
                refine am_astoreS (lv2 := [(8, .retAddr q9), (0, .ref 0), (1, .int x1), (2, .int x2), (3, .int x3), (4, .int x4), (5, .int x5), (6, .int x6), (7, .int x7)]) d_LH_sets_290 (by decide) rfl ?_
                refine am_ldc (v := (-9999999 : Int32)) d_LH_sets_292 aw_3_220 ?_
                exact am_iret d_LH_sets_294 rfl rfl (by decide) (by decide) am_oC_ok
              · have h := h.2 c1
                refine am_caseN (F := am_oC) (q := (h_CB_single s x2 x3 (0 : Int32)).1) (c := 2) (fun c2 => ?_) (fun c2 => ?_)
                · have h := h.1 c2
                  refine ak_EH (as := [.int x2, .int x3, .int (0 : Int32)]) (rest := []) d_LH_sets_101 cw_LH_sets_101 rfl (ch_CB_single hg hc) rfl rfl (by decide) sh_0 rfl (Nat.le_of_ble_eq_true rfl) (by decide) (by decide) (fun _ => ⟨295, by rw [c2]; exact hd_LH_sets_2, fun q9 => ?_⟩) (fun n => absurd n c0)
                  refine am_astoreS (lv2 := [(8, .retAddr q9), (0, .ref 0), (1, .int x1), (2, .int x2), (3, .int x3), (4, .int x4), (5, .int x5), (6, .int x6), (7, .int x7)]) d_LH_sets_295 (by decide) rfl ?_
                  refine am_ldc (v := (-9999999 : Int32)) d_LH_sets_297 aw_3_220 ?_
                  exact am_iret d_LH_sets_299 rfl rfl (by decide) (by decide) am_oC_ok
                · have h := h.2 c2
                  have c3 : (h_CB_single s x2 x3 (0 : Int32)).1 = 3 := by rcases hz with z | z | z | z <;> first | exact z | exact absurd z c0 | exact absurd z c1 | exact absurd z c2
                  refine ak_EH (as := [.int x2, .int x3, .int (0 : Int32)]) (rest := []) d_LH_sets_101 cw_LH_sets_101 rfl (ch_CB_single hg hc) rfl rfl (by decide) sh_0 rfl (Nat.le_of_ble_eq_true rfl) (by decide) (by decide) (fun _ => ⟨300, by rw [c3]; exact hd_LH_sets_3, fun q9 => ?_⟩) (fun n => absurd n c0)
                  refine am_astoreS (lv2 := [(8, .retAddr q9), (0, .ref 0), (1, .int x1), (2, .int x2), (3, .int x3), (4, .int x4), (5, .int x5), (6, .int x6), (7, .int x7)]) d_LH_sets_300 (by decide) rfl ?_
                  refine am_ldc (v := (-9999999 : Int32)) d_LH_sets_302 aw_3_220 ?_
                  exact am_iret d_LH_sets_304 rfl rfl (by decide) (by decide) am_oC_ok
          · have h := h.1 c
            refine am_iconst (v := (1 : Int32)) d_LH_sets_96 (by decide) ?_
            refine am_goto (tgt := 101) d_LH_sets_97 (by decide) ?_
            obtain ⟨hc, h⟩ := h
            obtain ⟨hz, h⟩ := h
            refine am_caseN (F := am_oC) (q := (h_CB_single s x2 x3 (1 : Int32)).1) (c := 0) (fun c0 => ?_) (fun c0 => ?_)
            · have h := h.1 c0
              refine ak_EH (as := [.int x2, .int x3, .int (1 : Int32)]) (rest := []) d_LH_sets_101 cw_LH_sets_101 rfl (ch_CB_single hg hc) rfl rfl (by decide) sh_0 rfl (Nat.le_of_ble_eq_true rfl) (by decide) (by decide) (fun n => absurd c0 n) (fun _ => ?_)
              refine ai_eq (F := am_oC) (tgt := 111) d_LH_sets_104 (by decide) (fun c => ?_) (fun c => ?_)
              · have h := h.1 c
                refine am_iconst (v := (0 : Int32)) d_LH_sets_111 (by decide) ?_
                refine am_goto (tgt := 289) d_LH_sets_112 (by decide) ?_
                exact am_iret d_LH_sets_289 rfl rfl (by decide) (by decide) am_oC_ok
              · have h := h.2 c
                refine am_iconst (v := (1 : Int32)) d_LH_sets_107 (by decide) ?_
                refine am_goto (tgt := 289) d_LH_sets_108 (by decide) ?_
                exact am_iret d_LH_sets_289 rfl rfl (by decide) (by decide) am_oC_ok
            · have h := h.2 c0
              refine am_caseN (F := am_oC) (q := (h_CB_single s x2 x3 (1 : Int32)).1) (c := 1) (fun c1 => ?_) (fun c1 => ?_)
              · have h := h.1 c1
                refine ak_EH (as := [.int x2, .int x3, .int (1 : Int32)]) (rest := []) d_LH_sets_101 cw_LH_sets_101 rfl (ch_CB_single hg hc) rfl rfl (by decide) sh_0 rfl (Nat.le_of_ble_eq_true rfl) (by decide) (by decide) (fun _ => ⟨290, by rw [c1]; exact hd_LH_sets_1, fun q9 => ?_⟩) (fun n => absurd n c0)
                refine am_astoreS (lv2 := [(8, .retAddr q9), (0, .ref 0), (1, .int x1), (2, .int x2), (3, .int x3), (4, .int x4), (5, .int x5), (6, .int x6), (7, .int x7)]) d_LH_sets_290 (by decide) rfl ?_
                refine am_ldc (v := (-9999999 : Int32)) d_LH_sets_292 aw_3_220 ?_
                exact am_iret d_LH_sets_294 rfl rfl (by decide) (by decide) am_oC_ok
              · have h := h.2 c1
                refine am_caseN (F := am_oC) (q := (h_CB_single s x2 x3 (1 : Int32)).1) (c := 2) (fun c2 => ?_) (fun c2 => ?_)
                · have h := h.1 c2
                  refine ak_EH (as := [.int x2, .int x3, .int (1 : Int32)]) (rest := []) d_LH_sets_101 cw_LH_sets_101 rfl (ch_CB_single hg hc) rfl rfl (by decide) sh_0 rfl (Nat.le_of_ble_eq_true rfl) (by decide) (by decide) (fun _ => ⟨295, by rw [c2]; exact hd_LH_sets_2, fun q9 => ?_⟩) (fun n => absurd n c0)
                  refine am_astoreS (lv2 := [(8, .retAddr q9), (0, .ref 0), (1, .int x1), (2, .int x2), (3, .int x3), (4, .int x4), (5, .int x5), (6, .int x6), (7, .int x7)]) d_LH_sets_295 (by decide) rfl ?_
                  refine am_ldc (v := (-9999999 : Int32)) d_LH_sets_297 aw_3_220 ?_
                  exact am_iret d_LH_sets_299 rfl rfl (by decide) (by decide) am_oC_ok
                · have h := h.2 c2
                  have c3 : (h_CB_single s x2 x3 (1 : Int32)).1 = 3 := by rcases hz with z | z | z | z <;> first | exact z | exact absurd z c0 | exact absurd z c1 | exact absurd z c2
                  refine ak_EH (as := [.int x2, .int x3, .int (1 : Int32)]) (rest := []) d_LH_sets_101 cw_LH_sets_101 rfl (ch_CB_single hg hc) rfl rfl (by decide) sh_0 rfl (Nat.le_of_ble_eq_true rfl) (by decide) (by decide) (fun _ => ⟨300, by rw [c3]; exact hd_LH_sets_3, fun q9 => ?_⟩) (fun n => absurd n c0)
                  refine am_astoreS (lv2 := [(8, .retAddr q9), (0, .ref 0), (1, .int x1), (2, .int x2), (3, .int x3), (4, .int x4), (5, .int x5), (6, .int x6), (7, .int x7)]) d_LH_sets_300 (by decide) rfl ?_
                  refine am_ldc (v := (-9999999 : Int32)) d_LH_sets_302 aw_3_220 ?_
                  exact am_iret d_LH_sets_304 rfl rfl (by decide) (by decide) am_oC_ok
      · have h := h.1 c
        refine am_aload_n (j := 0) d_LH_sets_54 rfl rfl ?_
        refine am_iload_n (j := 2) d_LH_sets_55 rfl rfl ?_
        refine am_iload_n (j := 3) d_LH_sets_56 rfl rfl ?_
        refine am_iload (j := 4) d_LH_sets_57 rfl ?_
        refine am_iconst (v := (1 : Int32)) d_LH_sets_59 (by decide) ?_
        refine aj_ne (F := am_oC) (tgt := 67) d_LH_sets_60 (by decide) (fun c => ?_) (fun c => ?_)
        · have h := h.2 c
          refine am_iconst (v := (0 : Int32)) d_LH_sets_67 (by decide) ?_
          obtain ⟨hc, h⟩ := h
          obtain ⟨hz, h⟩ := h
          refine am_caseN (F := am_oC) (q := (h_CB_need s x2 x3 (0 : Int32)).1) (c := 0) (fun c0 => ?_) (fun c0 => ?_)
          · have h := h.1 c0
            refine ak_EH (as := [.int x2, .int x3, .int (0 : Int32)]) (rest := []) d_LH_sets_68 cw_LH_sets_68 rfl (ch_CB_need hg hc) rfl rfl (by decide) sh_0 rfl (Nat.le_of_ble_eq_true rfl) (by decide) (by decide) (fun n => absurd c0 n) (fun _ => ?_)
            refine ai_eq (F := am_oC) (tgt := 78) d_LH_sets_71 (by decide) (fun c => ?_) (fun c => ?_)
            · have h := h.1 c
              refine am_iconst (v := (0 : Int32)) d_LH_sets_78 (by decide) ?_
              refine am_goto (tgt := 289) d_LH_sets_79 (by decide) ?_
              exact am_iret d_LH_sets_289 rfl rfl (by decide) (by decide) am_oC_ok
            · have h := h.2 c
              refine am_iconst (v := (1 : Int32)) d_LH_sets_74 (by decide) ?_
              refine am_goto (tgt := 289) d_LH_sets_75 (by decide) ?_
              exact am_iret d_LH_sets_289 rfl rfl (by decide) (by decide) am_oC_ok
          · have h := h.2 c0
            refine am_caseN (F := am_oC) (q := (h_CB_need s x2 x3 (0 : Int32)).1) (c := 1) (fun c1 => ?_) (fun c1 => ?_)
            · have h := h.1 c1
              refine ak_EH (as := [.int x2, .int x3, .int (0 : Int32)]) (rest := []) d_LH_sets_68 cw_LH_sets_68 rfl (ch_CB_need hg hc) rfl rfl (by decide) sh_0 rfl (Nat.le_of_ble_eq_true rfl) (by decide) (by decide) (fun _ => ⟨290, by rw [c1]; exact hd_LH_sets_1, fun q9 => ?_⟩) (fun n => absurd n c0)
              refine am_astoreS (lv2 := [(8, .retAddr q9), (0, .ref 0), (1, .int x1), (2, .int x2), (3, .int x3), (4, .int x4), (5, .int x5), (6, .int x6), (7, .int x7)]) d_LH_sets_290 (by decide) rfl ?_
              refine am_ldc (v := (-9999999 : Int32)) d_LH_sets_292 aw_3_220 ?_
              exact am_iret d_LH_sets_294 rfl rfl (by decide) (by decide) am_oC_ok
            · have h := h.2 c1
              refine am_caseN (F := am_oC) (q := (h_CB_need s x2 x3 (0 : Int32)).1) (c := 2) (fun c2 => ?_) (fun c2 => ?_)
              · have h := h.1 c2
                refine ak_EH (as := [.int x2, .int x3, .int (0 : Int32)]) (rest := []) d_LH_sets_68 cw_LH_sets_68 rfl (ch_CB_need hg hc) rfl rfl (by decide) sh_0 rfl (Nat.le_of_ble_eq_true rfl) (by decide) (by decide) (fun _ => ⟨295, by rw [c2]; exact hd_LH_sets_2, fun q9 => ?_⟩) (fun n => absurd n c0)
                refine am_astoreS (lv2 := [(8, .retAddr q9), (0, .ref 0), (1, .int x1), (2, .int x2), (3, .int x3), (4, .int x4), (5, .int x5), (6, .int x6), (7, .int x7)]) d_LH_sets_295 (by decide) rfl ?_
                refine am_ldc (v := (-9999999 : Int32)) d_LH_sets_297 aw_3_220 ?_
                exact am_iret d_LH_sets_299 rfl rfl (by decide) (by decide) am_oC_ok
              · have h := h.2 c2
                have c3 : (h_CB_need s x2 x3 (0 : Int32)).1 = 3 := by rcases hz with z | z | z | z <;> first | exact z | exact absurd z c0 | exact absurd z c1 | exact absurd z c2
                refine ak_EH (as := [.int x2, .int x3, .int (0 : Int32)]) (rest := []) d_LH_sets_68 cw_LH_sets_68 rfl (ch_CB_need hg hc) rfl rfl (by decide) sh_0 rfl (Nat.le_of_ble_eq_true rfl) (by decide) (by decide) (fun _ => ⟨300, by rw [c3]; exact hd_LH_sets_3, fun q9 => ?_⟩) (fun n => absurd n c0)
                refine am_astoreS (lv2 := [(8, .retAddr q9), (0, .ref 0), (1, .int x1), (2, .int x2), (3, .int x3), (4, .int x4), (5, .int x5), (6, .int x6), (7, .int x7)]) d_LH_sets_300 (by decide) rfl ?_
                refine am_ldc (v := (-9999999 : Int32)) d_LH_sets_302 aw_3_220 ?_
                exact am_iret d_LH_sets_304 rfl rfl (by decide) (by decide) am_oC_ok
        · have h := h.1 c
          refine am_iconst (v := (1 : Int32)) d_LH_sets_63 (by decide) ?_
          refine am_goto (tgt := 68) d_LH_sets_64 (by decide) ?_
          obtain ⟨hc, h⟩ := h
          obtain ⟨hz, h⟩ := h
          refine am_caseN (F := am_oC) (q := (h_CB_need s x2 x3 (1 : Int32)).1) (c := 0) (fun c0 => ?_) (fun c0 => ?_)
          · have h := h.1 c0
            refine ak_EH (as := [.int x2, .int x3, .int (1 : Int32)]) (rest := []) d_LH_sets_68 cw_LH_sets_68 rfl (ch_CB_need hg hc) rfl rfl (by decide) sh_0 rfl (Nat.le_of_ble_eq_true rfl) (by decide) (by decide) (fun n => absurd c0 n) (fun _ => ?_)
            refine ai_eq (F := am_oC) (tgt := 78) d_LH_sets_71 (by decide) (fun c => ?_) (fun c => ?_)
            · have h := h.1 c
              refine am_iconst (v := (0 : Int32)) d_LH_sets_78 (by decide) ?_
              refine am_goto (tgt := 289) d_LH_sets_79 (by decide) ?_
              exact am_iret d_LH_sets_289 rfl rfl (by decide) (by decide) am_oC_ok
            · have h := h.2 c
              refine am_iconst (v := (1 : Int32)) d_LH_sets_74 (by decide) ?_
              refine am_goto (tgt := 289) d_LH_sets_75 (by decide) ?_
              exact am_iret d_LH_sets_289 rfl rfl (by decide) (by decide) am_oC_ok
          · have h := h.2 c0
            refine am_caseN (F := am_oC) (q := (h_CB_need s x2 x3 (1 : Int32)).1) (c := 1) (fun c1 => ?_) (fun c1 => ?_)
            · have h := h.1 c1
              refine ak_EH (as := [.int x2, .int x3, .int (1 : Int32)]) (rest := []) d_LH_sets_68 cw_LH_sets_68 rfl (ch_CB_need hg hc) rfl rfl (by decide) sh_0 rfl (Nat.le_of_ble_eq_true rfl) (by decide) (by decide) (fun _ => ⟨290, by rw [c1]; exact hd_LH_sets_1, fun q9 => ?_⟩) (fun n => absurd n c0)
              refine am_astoreS (lv2 := [(8, .retAddr q9), (0, .ref 0), (1, .int x1), (2, .int x2), (3, .int x3), (4, .int x4), (5, .int x5), (6, .int x6), (7, .int x7)]) d_LH_sets_290 (by decide) rfl ?_
              refine am_ldc (v := (-9999999 : Int32)) d_LH_sets_292 aw_3_220 ?_
              exact am_iret d_LH_sets_294 rfl rfl (by decide) (by decide) am_oC_ok
            · have h := h.2 c1
              refine am_caseN (F := am_oC) (q := (h_CB_need s x2 x3 (1 : Int32)).1) (c := 2) (fun c2 => ?_) (fun c2 => ?_)
              · have h := h.1 c2
                refine ak_EH (as := [.int x2, .int x3, .int (1 : Int32)]) (rest := []) d_LH_sets_68 cw_LH_sets_68 rfl (ch_CB_need hg hc) rfl rfl (by decide) sh_0 rfl (Nat.le_of_ble_eq_true rfl) (by decide) (by decide) (fun _ => ⟨295, by rw [c2]; exact hd_LH_sets_2, fun q9 => ?_⟩) (fun n => absurd n c0)
                refine am_astoreS (lv2 := [(8, .retAddr q9), (0, .ref 0), (1, .int x1), (2, .int x2), (3, .int x3), (4, .int x4), (5, .int x5), (6, .int x6), (7, .int x7)]) d_LH_sets_295 (by decide) rfl ?_
                refine am_ldc (v := (-9999999 : Int32)) d_LH_sets_297 aw_3_220 ?_
                exact am_iret d_LH_sets_299 rfl rfl (by decide) (by decide) am_oC_ok
              · have h := h.2 c2
                have c3 : (h_CB_need s x2 x3 (1 : Int32)).1 = 3 := by rcases hz with z | z | z | z <;> first | exact z | exact absurd z c0 | exact absurd z c1 | exact absurd z c2
                refine ak_EH (as := [.int x2, .int x3, .int (1 : Int32)]) (rest := []) d_LH_sets_68 cw_LH_sets_68 rfl (ch_CB_need hg hc) rfl rfl (by decide) sh_0 rfl (Nat.le_of_ble_eq_true rfl) (by decide) (by decide) (fun _ => ⟨300, by rw [c3]; exact hd_LH_sets_3, fun q9 => ?_⟩) (fun n => absurd n c0)
                refine am_astoreS (lv2 := [(8, .retAddr q9), (0, .ref 0), (1, .int x1), (2, .int x2), (3, .int x3), (4, .int x4), (5, .int x5), (6, .int x6), (7, .int x7)]) d_LH_sets_300 (by decide) rfl ?_
                refine am_ldc (v := (-9999999 : Int32)) d_LH_sets_302 aw_3_220 ?_
                exact am_iret d_LH_sets_304 rfl rfl (by decide) (by decide) am_oC_ok
    · have h := h.1 c
      refine am_aload_n (j := 0) d_LH_sets_24 rfl rfl ?_
      refine am_iload_n (j := 2) d_LH_sets_25 rfl rfl ?_
      refine am_iload_n (j := 3) d_LH_sets_26 rfl rfl ?_
      refine am_iload (j := 4) d_LH_sets_27 rfl ?_
      refine am_iload (j := 5) d_LH_sets_29 rfl ?_
      refine am_iload (j := 6) d_LH_sets_31 rfl ?_
      refine am_iload (j := 7) d_LH_sets_33 rfl ?_
      obtain ⟨hc, h⟩ := h
      obtain ⟨hz, h⟩ := h
      refine am_caseN (F := am_oC) (q := (h_CB_reckonAnew s x2 x3 x4 x5 x6 x7).1) (c := 0) (fun c0 => ?_) (fun c0 => ?_)
      · have h := h.1 c0
        refine ak_EH (as := [.int x2, .int x3, .int x4, .int x5, .int x6, .int x7]) (rest := []) d_LH_sets_35 cw_LH_sets_35 rfl (ch_CB_reckonAnew hg hc) rfl rfl (by decide) sh_0 rfl (Nat.le_of_ble_eq_true rfl) (by decide) (by decide) (fun n => absurd c0 n) (fun _ => ?_)
        refine ai_eq (F := am_oC) (tgt := 45) d_LH_sets_38 (by decide) (fun c => ?_) (fun c => ?_)
        · have h := h.1 c
          refine am_iconst (v := (0 : Int32)) d_LH_sets_45 (by decide) ?_
          refine am_goto (tgt := 289) d_LH_sets_46 (by decide) ?_
          exact am_iret d_LH_sets_289 rfl rfl (by decide) (by decide) am_oC_ok
        · have h := h.2 c
          refine am_iconst (v := (1 : Int32)) d_LH_sets_41 (by decide) ?_
          refine am_goto (tgt := 289) d_LH_sets_42 (by decide) ?_
          exact am_iret d_LH_sets_289 rfl rfl (by decide) (by decide) am_oC_ok
      · have h := h.2 c0
        refine am_caseN (F := am_oC) (q := (h_CB_reckonAnew s x2 x3 x4 x5 x6 x7).1) (c := 1) (fun c1 => ?_) (fun c1 => ?_)
        · have h := h.1 c1
          refine ak_EH (as := [.int x2, .int x3, .int x4, .int x5, .int x6, .int x7]) (rest := []) d_LH_sets_35 cw_LH_sets_35 rfl (ch_CB_reckonAnew hg hc) rfl rfl (by decide) sh_0 rfl (Nat.le_of_ble_eq_true rfl) (by decide) (by decide) (fun _ => ⟨290, by rw [c1]; exact hd_LH_sets_1, fun q9 => ?_⟩) (fun n => absurd n c0)
          refine am_astoreS (lv2 := [(8, .retAddr q9), (0, .ref 0), (1, .int x1), (2, .int x2), (3, .int x3), (4, .int x4), (5, .int x5), (6, .int x6), (7, .int x7)]) d_LH_sets_290 (by decide) rfl ?_
          refine am_ldc (v := (-9999999 : Int32)) d_LH_sets_292 aw_3_220 ?_
          exact am_iret d_LH_sets_294 rfl rfl (by decide) (by decide) am_oC_ok
        · have h := h.2 c1
          refine am_caseN (F := am_oC) (q := (h_CB_reckonAnew s x2 x3 x4 x5 x6 x7).1) (c := 2) (fun c2 => ?_) (fun c2 => ?_)
          · have h := h.1 c2
            refine ak_EH (as := [.int x2, .int x3, .int x4, .int x5, .int x6, .int x7]) (rest := []) d_LH_sets_35 cw_LH_sets_35 rfl (ch_CB_reckonAnew hg hc) rfl rfl (by decide) sh_0 rfl (Nat.le_of_ble_eq_true rfl) (by decide) (by decide) (fun _ => ⟨295, by rw [c2]; exact hd_LH_sets_2, fun q9 => ?_⟩) (fun n => absurd n c0)
            refine am_astoreS (lv2 := [(8, .retAddr q9), (0, .ref 0), (1, .int x1), (2, .int x2), (3, .int x3), (4, .int x4), (5, .int x5), (6, .int x6), (7, .int x7)]) d_LH_sets_295 (by decide) rfl ?_
            refine am_ldc (v := (-9999999 : Int32)) d_LH_sets_297 aw_3_220 ?_
            exact am_iret d_LH_sets_299 rfl rfl (by decide) (by decide) am_oC_ok
          · have h := h.2 c2
            have c3 : (h_CB_reckonAnew s x2 x3 x4 x5 x6 x7).1 = 3 := by rcases hz with z | z | z | z <;> first | exact z | exact absurd z c0 | exact absurd z c1 | exact absurd z c2
            refine ak_EH (as := [.int x2, .int x3, .int x4, .int x5, .int x6, .int x7]) (rest := []) d_LH_sets_35 cw_LH_sets_35 rfl (ch_CB_reckonAnew hg hc) rfl rfl (by decide) sh_0 rfl (Nat.le_of_ble_eq_true rfl) (by decide) (by decide) (fun _ => ⟨300, by rw [c3]; exact hd_LH_sets_3, fun q9 => ?_⟩) (fun n => absurd n c0)
            refine am_astoreS (lv2 := [(8, .retAddr q9), (0, .ref 0), (1, .int x1), (2, .int x2), (3, .int x3), (4, .int x4), (5, .int x5), (6, .int x6), (7, .int x7)]) d_LH_sets_300 (by decide) rfl ?_
            refine am_ldc (v := (-9999999 : Int32)) d_LH_sets_302 aw_3_220 ?_
            exact am_iret d_LH_sets_304 rfl rfl (by decide) (by decide) am_oC_ok
  · have h := h.1 c
    refine am_aload_n (j := 0) d_LH_sets_4 rfl rfl ?_
    refine am_iload_n (j := 2) d_LH_sets_5 rfl rfl ?_
    refine am_iload_n (j := 3) d_LH_sets_6 rfl rfl ?_
    refine am_iload (j := 4) d_LH_sets_7 rfl ?_
    refine am_iload (j := 5) d_LH_sets_9 rfl ?_
    refine am_iload (j := 6) d_LH_sets_11 rfl ?_
    obtain ⟨hc, h⟩ := h
    obtain ⟨hz, h⟩ := h
    refine am_caseN (F := am_oC) (q := (h_CB_addReckoned s x2 x3 x4 x5 x6).1) (c := 0) (fun c0 => ?_) (fun c0 => ?_)
    · have h := h.1 c0
      refine ak_EH (as := [.int x2, .int x3, .int x4, .int x5, .int x6]) (rest := []) d_LH_sets_13 cw_LH_sets_13 rfl (ch_CB_addReckoned hg hc) rfl rfl (by decide) sh_0 rfl (Nat.le_of_ble_eq_true rfl) (by decide) (by decide) (fun n => absurd c0 n) (fun _ => ?_)
      refine am_goto (tgt := 289) d_LH_sets_16 (by decide) ?_
      exact am_iret d_LH_sets_289 rfl rfl (by decide) (by decide) am_oC_ok
    · have h := h.2 c0
      refine am_caseN (F := am_oC) (q := (h_CB_addReckoned s x2 x3 x4 x5 x6).1) (c := 1) (fun c1 => ?_) (fun c1 => ?_)
      · have h := h.1 c1
        refine ak_EH (as := [.int x2, .int x3, .int x4, .int x5, .int x6]) (rest := []) d_LH_sets_13 cw_LH_sets_13 rfl (ch_CB_addReckoned hg hc) rfl rfl (by decide) sh_0 rfl (Nat.le_of_ble_eq_true rfl) (by decide) (by decide) (fun _ => ⟨290, by rw [c1]; exact hd_LH_sets_1, fun q9 => ?_⟩) (fun n => absurd n c0)
        refine am_astoreS (lv2 := [(8, .retAddr q9), (0, .ref 0), (1, .int x1), (2, .int x2), (3, .int x3), (4, .int x4), (5, .int x5), (6, .int x6), (7, .int x7)]) d_LH_sets_290 (by decide) rfl ?_
        refine am_ldc (v := (-9999999 : Int32)) d_LH_sets_292 aw_3_220 ?_
        exact am_iret d_LH_sets_294 rfl rfl (by decide) (by decide) am_oC_ok
      · have h := h.2 c1
        refine am_caseN (F := am_oC) (q := (h_CB_addReckoned s x2 x3 x4 x5 x6).1) (c := 2) (fun c2 => ?_) (fun c2 => ?_)
        · have h := h.1 c2
          refine ak_EH (as := [.int x2, .int x3, .int x4, .int x5, .int x6]) (rest := []) d_LH_sets_13 cw_LH_sets_13 rfl (ch_CB_addReckoned hg hc) rfl rfl (by decide) sh_0 rfl (Nat.le_of_ble_eq_true rfl) (by decide) (by decide) (fun _ => ⟨295, by rw [c2]; exact hd_LH_sets_2, fun q9 => ?_⟩) (fun n => absurd n c0)
          refine am_astoreS (lv2 := [(8, .retAddr q9), (0, .ref 0), (1, .int x1), (2, .int x2), (3, .int x3), (4, .int x4), (5, .int x5), (6, .int x6), (7, .int x7)]) d_LH_sets_295 (by decide) rfl ?_
          refine am_ldc (v := (-9999999 : Int32)) d_LH_sets_297 aw_3_220 ?_
          exact am_iret d_LH_sets_299 rfl rfl (by decide) (by decide) am_oC_ok
        · have h := h.2 c2
          have c3 : (h_CB_addReckoned s x2 x3 x4 x5 x6).1 = 3 := by rcases hz with z | z | z | z <;> first | exact z | exact absurd z c0 | exact absurd z c1 | exact absurd z c2
          refine ak_EH (as := [.int x2, .int x3, .int x4, .int x5, .int x6]) (rest := []) d_LH_sets_13 cw_LH_sets_13 rfl (ch_CB_addReckoned hg hc) rfl rfl (by decide) sh_0 rfl (Nat.le_of_ble_eq_true rfl) (by decide) (by decide) (fun _ => ⟨300, by rw [c3]; exact hd_LH_sets_3, fun q9 => ?_⟩) (fun n => absurd n c0)
          refine am_astoreS (lv2 := [(8, .retAddr q9), (0, .ref 0), (1, .int x1), (2, .int x2), (3, .int x3), (4, .int x4), (5, .int x5), (6, .int x6), (7, .int x7)]) d_LH_sets_300 (by decide) rfl ?_
          refine am_ldc (v := (-9999999 : Int32)) d_LH_sets_302 aw_3_220 ?_
          exact am_iret d_LH_sets_304 rfl rfl (by decide) (by decide) am_oC_ok
theorem ct_LH_sets {l : Launch} {g : am_Gl} (hg : g.2.2.2.1 = true) {s : am_M} {x1 : Int32} {x2 : Int32} {x3 : Int32} {x4 : Int32} {x5 : Int32} {x6 : Int32} {x7 : Int32} (h : p_LH_sets s x1 x2 x3 x4 x5 x6 x7) : AC l g m_LH_sets 207 s [.ref 0, .int x1, .int x2, .int x3, .int x4, .int x5, .int x6, .int x7] (am_oC (f_LH_sets s x1 x2 x3 x4 x5 x6 x7)) := am_enterH ok_LH_sets rfl rfl (Nat.le_of_ble_eq_true rfl) rfl (fun ad0 => w_LH_sets hg h)
theorem cw_LH_sets10_258 : am_cv m_LH_sets10 m_CB_cell 101 3 := ⟨⟨ok_CB_cell, rfl, by decide +kernel, by decide, by decide⟩, aw_4_144, aw_4_145, aw_4_146⟩
theorem hd_LH_sets10_1 : am_hd m_LH_sets10 258 (am_exn 1) 290 := ⟨[], ⟨0, 289, 290, 55⟩, [⟨0, 289, 295, 58⟩, ⟨0, 289, 300, 60⟩], rfl, by decide, rfl, by decide, aw_1_196, by decide +kernel, fun z h => absurd h List.not_mem_nil⟩
theorem hd_LH_sets10_2 : am_hd m_LH_sets10 258 (am_exn 2) 295 := ⟨[⟨0, 289, 290, 55⟩], ⟨0, 289, 295, 58⟩, [⟨0, 289, 300, 60⟩], rfl, by decide, rfl, by decide, aw_1_197, by decide +kernel, List.forall_mem_cons.mpr ⟨Or.inr ⟨by decide, "java/lang/IndexOutOfBoundsException", aw_1_196, by decide⟩, fun z h => absurd h List.not_mem_nil⟩⟩
theorem hd_LH_sets10_3 : am_hd m_LH_sets10 258 (am_exn 3) 300 := ⟨[⟨0, 289, 290, 55⟩, ⟨0, 289, 295, 58⟩], ⟨0, 289, 300, 60⟩, [], rfl, by decide, rfl, by decide, aw_1_198, by decide +kernel, List.forall_mem_cons.mpr ⟨Or.inr ⟨by decide, "java/lang/IndexOutOfBoundsException", aw_1_196, by decide⟩, List.forall_mem_cons.mpr ⟨Or.inr ⟨by decide, "java/lang/IllegalArgumentException", aw_1_197, by decide⟩, fun z h => absurd h List.not_mem_nil⟩⟩⟩
theorem ok_LH_sets10 : am_ok m_LH_sets10 := ok_LH_sets
def f_LH_sets10 (s : am_M) (x2 : Int32) (x3 : Int32) (x4 : Int32) (x5 : Int32) (x6 : Int32) (x7 : Int32) : Int32 × am_M := (if (f_CB_cell s x2 x3 x4).1 = 0 then ((f_CB_cell s x2 x3 x4).2.1, (f_CB_cell s x2 x3 x4).2.2) else (if (f_CB_cell s x2 x3 x4).1 = 1 then ((-9999999 : Int32), (f_CB_cell s x2 x3 x4).2.2) else (if (f_CB_cell s x2 x3 x4).1 = 2 then ((-9999999 : Int32), (f_CB_cell s x2 x3 x4).2.2) else ((-9999999 : Int32), (f_CB_cell s x2 x3 x4).2.2))))
def p_LH_sets10 (s : am_M) (x2 : Int32) (x3 : Int32) (x4 : Int32) (x5 : Int32) (x6 : Int32) (x7 : Int32) : Prop := p_CB_cell s x2 x3 x4 ∧ (((f_CB_cell s x2 x3 x4).1 = 0 ∨ (f_CB_cell s x2 x3 x4).1 = 1 ∨ (f_CB_cell s x2 x3 x4).1 = 2 ∨ (f_CB_cell s x2 x3 x4).1 = 3) ∧ ((((f_CB_cell s x2 x3 x4).1 = 0) → True) ∧ (¬ ((f_CB_cell s x2 x3 x4).1 = 0) → (((f_CB_cell s x2 x3 x4).1 = 1) → True) ∧ (¬ ((f_CB_cell s x2 x3 x4).1 = 1) → (((f_CB_cell s x2 x3 x4).1 = 2) → True) ∧ (¬ ((f_CB_cell s x2 x3 x4).1 = 2) → True)))))
set_option maxRecDepth 8000 in
theorem w_LH_sets10 {l : Launch} {g : am_Gl} (hg : g.2.2.2.1 = true) {ad0 : Nat → Nat} {s : am_M} {x2 : Int32} {x3 : Int32} {x4 : Int32} {x5 : Int32} {x6 : Int32} {x7 : Int32} (h : p_LH_sets10 s x2 x3 x4 x5 x6 x7) : AW l g m_LH_sets10 207 ad0 (am_oC (f_LH_sets10 s x2 x3 x4 x5 x6 x7)) 0 0 207 s 0 [(0, .ref 0), (1, .int (10 : Int32)), (2, .int x2), (3, .int x3), (4, .int x4), (5, .int x5), (6, .int x6), (7, .int x7)] [] := by
  refine am_iload_n (j := 1) d_LH_sets_0 rfl rfl ?_
  refine am_if_ne (tgt := 19) d_LH_sets_1 (by decide) (fun _ => ?_) (fun c => absurd c (by decide))
  refine am_iload_n (j := 1) d_LH_sets_19 rfl rfl ?_
  refine am_iconst (v := (1 : Int32)) d_LH_sets_20 (by decide) ?_
  refine am_icmp_ne (tgt := 49) d_LH_sets_21 (by decide) (fun _ => ?_) (fun c => absurd c (by decide))
  refine am_iload_n (j := 1) d_LH_sets_49 rfl rfl ?_
  refine am_iconst (v := (2 : Int32)) d_LH_sets_50 (by decide) ?_
  refine am_icmp_ne (tgt := 82) d_LH_sets_51 (by decide) (fun _ => ?_) (fun c => absurd c (by decide))
  refine am_iload_n (j := 1) d_LH_sets_82 rfl rfl ?_
  refine am_iconst (v := (3 : Int32)) d_LH_sets_83 (by decide) ?_
  refine am_icmp_ne (tgt := 115) d_LH_sets_84 (by decide) (fun _ => ?_) (fun c => absurd c (by decide))
  refine am_iload_n (j := 1) d_LH_sets_115 rfl rfl ?_
  refine am_iconst (v := (4 : Int32)) d_LH_sets_116 (by decide) ?_
  refine am_icmp_ne (tgt := 141) d_LH_sets_117 (by decide) (fun _ => ?_) (fun c => absurd c (by decide))
  refine am_iload_n (j := 1) d_LH_sets_141 rfl rfl ?_
  refine am_iconst (v := (5 : Int32)) d_LH_sets_142 (by decide) ?_
  refine am_icmp_ne (tgt := 163) d_LH_sets_143 (by decide) (fun _ => ?_) (fun c => absurd c (by decide))
  refine am_iload_n (j := 1) d_LH_sets_163 rfl rfl ?_
  refine am_bipush (v := (6 : Int32)) d_LH_sets_164 (by decide) ?_
  refine am_icmp_ne (tgt := 180) d_LH_sets_166 (by decide) (fun _ => ?_) (fun c => absurd c (by decide))
  refine am_iload_n (j := 1) d_LH_sets_180 rfl rfl ?_
  refine am_bipush (v := (7 : Int32)) d_LH_sets_181 (by decide) ?_
  refine am_icmp_ne (tgt := 201) d_LH_sets_183 (by decide) (fun _ => ?_) (fun c => absurd c (by decide))
  refine am_iload_n (j := 1) d_LH_sets_201 rfl rfl ?_
  refine am_bipush (v := (8 : Int32)) d_LH_sets_202 (by decide) ?_
  refine am_icmp_ne (tgt := 228) d_LH_sets_204 (by decide) (fun _ => ?_) (fun c => absurd c (by decide))
  refine am_iload_n (j := 1) d_LH_sets_228 rfl rfl ?_
  refine am_bipush (v := (9 : Int32)) d_LH_sets_229 (by decide) ?_
  refine am_icmp_ne (tgt := 247) d_LH_sets_231 (by decide) (fun _ => ?_) (fun c => absurd c (by decide))
  refine am_iload_n (j := 1) d_LH_sets_247 rfl rfl ?_
  refine am_bipush (v := (10 : Int32)) d_LH_sets_248 (by decide) ?_
  refine am_icmp_ne (tgt := 264) d_LH_sets_250 (by decide) (fun c => absurd c (by decide)) (fun _ => ?_)
  refine am_aload_n (j := 0) d_LH_sets_253 rfl rfl ?_
  refine am_iload_n (j := 2) d_LH_sets_254 rfl rfl ?_
  refine am_iload_n (j := 3) d_LH_sets_255 rfl rfl ?_
  refine am_iload (j := 4) d_LH_sets_256 rfl ?_
  obtain ⟨hc, h⟩ := h
  obtain ⟨hz, h⟩ := h
  refine am_caseN (F := am_oC) (q := (f_CB_cell s x2 x3 x4).1) (c := 0) (fun c0 => ?_) (fun c0 => ?_)
  · have h := h.1 c0
    refine ak_EH (as := [.int x2, .int x3, .int x4]) (rest := []) d_LH_sets_258 cw_LH_sets10_258 rfl (ct_CB_cell hg hc) rfl rfl (by decide) sh_0 rfl (Nat.le_of_ble_eq_true rfl) (by decide) (by decide) (fun n => absurd c0 n) (fun _ => ?_)
    refine am_goto (tgt := 289) d_LH_sets_261 (by decide) ?_
    exact am_iret d_LH_sets_289 rfl rfl (by decide) (by decide) am_oC_ok
  · have h := h.2 c0
    refine am_caseN (F := am_oC) (q := (f_CB_cell s x2 x3 x4).1) (c := 1) (fun c1 => ?_) (fun c1 => ?_)
    · have h := h.1 c1
      refine ak_EH (as := [.int x2, .int x3, .int x4]) (rest := []) d_LH_sets_258 cw_LH_sets10_258 rfl (ct_CB_cell hg hc) rfl rfl (by decide) sh_0 rfl (Nat.le_of_ble_eq_true rfl) (by decide) (by decide) (fun _ => ⟨290, by rw [c1]; exact hd_LH_sets10_1, fun q9 => ?_⟩) (fun n => absurd n c0)
      refine am_astoreS (lv2 := [(8, .retAddr q9), (0, .ref 0), (1, .int (10 : Int32)), (2, .int x2), (3, .int x3), (4, .int x4), (5, .int x5), (6, .int x6), (7, .int x7)]) d_LH_sets_290 (by decide) rfl ?_
      refine am_ldc (v := (-9999999 : Int32)) d_LH_sets_292 aw_3_220 ?_
      exact am_iret d_LH_sets_294 rfl rfl (by decide) (by decide) am_oC_ok
    · have h := h.2 c1
      refine am_caseN (F := am_oC) (q := (f_CB_cell s x2 x3 x4).1) (c := 2) (fun c2 => ?_) (fun c2 => ?_)
      · have h := h.1 c2
        refine ak_EH (as := [.int x2, .int x3, .int x4]) (rest := []) d_LH_sets_258 cw_LH_sets10_258 rfl (ct_CB_cell hg hc) rfl rfl (by decide) sh_0 rfl (Nat.le_of_ble_eq_true rfl) (by decide) (by decide) (fun _ => ⟨295, by rw [c2]; exact hd_LH_sets10_2, fun q9 => ?_⟩) (fun n => absurd n c0)
        refine am_astoreS (lv2 := [(8, .retAddr q9), (0, .ref 0), (1, .int (10 : Int32)), (2, .int x2), (3, .int x3), (4, .int x4), (5, .int x5), (6, .int x6), (7, .int x7)]) d_LH_sets_295 (by decide) rfl ?_
        refine am_ldc (v := (-9999999 : Int32)) d_LH_sets_297 aw_3_220 ?_
        exact am_iret d_LH_sets_299 rfl rfl (by decide) (by decide) am_oC_ok
      · have h := h.2 c2
        have c3 : (f_CB_cell s x2 x3 x4).1 = 3 := by rcases hz with z | z | z | z <;> first | exact z | exact absurd z c0 | exact absurd z c1 | exact absurd z c2
        refine ak_EH (as := [.int x2, .int x3, .int x4]) (rest := []) d_LH_sets_258 cw_LH_sets10_258 rfl (ct_CB_cell hg hc) rfl rfl (by decide) sh_0 rfl (Nat.le_of_ble_eq_true rfl) (by decide) (by decide) (fun _ => ⟨300, by rw [c3]; exact hd_LH_sets10_3, fun q9 => ?_⟩) (fun n => absurd n c0)
        refine am_astoreS (lv2 := [(8, .retAddr q9), (0, .ref 0), (1, .int (10 : Int32)), (2, .int x2), (3, .int x3), (4, .int x4), (5, .int x5), (6, .int x6), (7, .int x7)]) d_LH_sets_300 (by decide) rfl ?_
        refine am_ldc (v := (-9999999 : Int32)) d_LH_sets_302 aw_3_220 ?_
        exact am_iret d_LH_sets_304 rfl rfl (by decide) (by decide) am_oC_ok
theorem ct_LH_sets10 {l : Launch} {g : am_Gl} (hg : g.2.2.2.1 = true) {s : am_M} {x2 : Int32} {x3 : Int32} {x4 : Int32} {x5 : Int32} {x6 : Int32} {x7 : Int32} (h : p_LH_sets10 s x2 x3 x4 x5 x6 x7) : AC l g m_LH_sets10 207 s [.ref 0, .int (10 : Int32), .int x2, .int x3, .int x4, .int x5, .int x6, .int x7] (am_oC (f_LH_sets10 s x2 x3 x4 x5 x6 x7)) := am_enterH ok_LH_sets10 rfl rfl (Nat.le_of_ble_eq_true rfl) rfl (fun ad0 => w_LH_sets10 hg h)
theorem cw_LH_asks_197 : am_cv m_LH_asks m_CB_keyOf 143 2 := ⟨⟨ok_CB_keyOf, rfl, by decide +kernel, by decide, by decide⟩, aw_5_63, aw_5_64, aw_5_65⟩
theorem cw_LH_asks_188 : am_cv m_LH_asks m_CB_stepIf 140 3 := ⟨⟨ok_CB_stepIf, rfl, by decide +kernel, by decide, by decide⟩, aw_5_59, aw_5_60, aw_5_61⟩
theorem cw_LH_asks_171 : am_cv m_LH_asks m_CB_stepRemove 137 3 := ⟨⟨ok_CB_stepRemove, rfl, by decide +kernel, by decide, by decide⟩, aw_5_55, aw_5_56, aw_5_57⟩
theorem cw_LH_asks_154 : am_cv m_LH_asks m_CB_stepAdd 134 2 := ⟨⟨ok_CB_stepAdd, rfl, by decide +kernel, by decide, by decide⟩, aw_5_46, aw_5_47, aw_5_48⟩
theorem cw_LH_asks_139 : am_cv m_LH_asks m_CB_stepPut 131 4 := ⟨⟨ok_CB_stepPut, rfl, by decide +kernel, by decide, by decide⟩, aw_5_34, aw_5_35, aw_5_36⟩
theorem cw_LH_asks_112 : am_cv m_LH_asks m_CB_write 128 4 := ⟨⟨ok_CB_write, rfl, by decide +kernel, by decide, by decide⟩, aw_5_30, aw_5_31, aw_5_32⟩
theorem cw_LH_asks_93 : am_cv m_LH_asks m_CB_target 125 3 := ⟨⟨ok_CB_target, rfl, by decide +kernel, by decide, by decide⟩, aw_5_25, aw_5_26, aw_5_27⟩
theorem cw_LH_asks_77 : am_cv m_LH_asks m_CB_answer 122 3 := ⟨⟨ok_CB_answer, rfl, by decide +kernel, by decide, by decide⟩, aw_5_16, aw_5_17, aw_5_18⟩
theorem cw_LH_asks_61 : am_cv m_LH_asks m_CB_askCross 119 4 := ⟨⟨ok_CB_askCross, rfl, by decide +kernel, by decide, by decide⟩, aw_5_12, aw_5_13, aw_5_14⟩
theorem cw_LH_asks_43 : am_cv m_LH_asks m_CB_askGroups 116 3 := ⟨⟨ok_CB_askGroups, rfl, by decide +kernel, by decide, by decide⟩, aw_5_4, aw_5_5, aw_5_6⟩
theorem cw_LH_asks_27 : am_cv m_LH_asks m_CB_condition 113 5 := ⟨⟨ok_CB_condition, rfl, by decide +kernel, by decide, by decide⟩, aw_4_226, aw_4_227, aw_4_228⟩
theorem cw_LH_asks_7 : am_cv m_LH_asks m_CB_ask 110 2 := ⟨⟨ok_CB_ask, rfl, by decide +kernel, by decide, by decide⟩, aw_4_172, aw_4_173, aw_4_174⟩
theorem hd_LH_asks_1 : am_hd m_LH_asks 112 (am_exn 1) 201 := ⟨[], ⟨0, 200, 201, 55⟩, [⟨0, 200, 206, 58⟩, ⟨0, 200, 211, 60⟩], rfl, by decide, rfl, by decide, aw_1_196, by decide +kernel, fun z h => absurd h List.not_mem_nil⟩
theorem hd_LH_asks_1 : am_hd m_LH_asks 139 (am_exn 1) 201 := ⟨[], ⟨0, 200, 201, 55⟩, [⟨0, 200, 206, 58⟩, ⟨0, 200, 211, 60⟩], rfl, by decide, rfl, by decide, aw_1_196, by decide +kernel, fun z h => absurd h List.not_mem_nil⟩
theorem hd_LH_asks_1 : am_hd m_LH_asks 154 (am_exn 1) 201 := ⟨[], ⟨0, 200, 201, 55⟩, [⟨0, 200, 206, 58⟩, ⟨0, 200, 211, 60⟩], rfl, by decide, rfl, by decide, aw_1_196, by decide +kernel, fun z h => absurd h List.not_mem_nil⟩
theorem hd_LH_asks_1 : am_hd m_LH_asks 171 (am_exn 1) 201 := ⟨[], ⟨0, 200, 201, 55⟩, [⟨0, 200, 206, 58⟩, ⟨0, 200, 211, 60⟩], rfl, by decide, rfl, by decide, aw_1_196, by decide +kernel, fun z h => absurd h List.not_mem_nil⟩
theorem hd_LH_asks_1 : am_hd m_LH_asks 188 (am_exn 1) 201 := ⟨[], ⟨0, 200, 201, 55⟩, [⟨0, 200, 206, 58⟩, ⟨0, 200, 211, 60⟩], rfl, by decide, rfl, by decide, aw_1_196, by decide +kernel, fun z h => absurd h List.not_mem_nil⟩
theorem hd_LH_asks_1 : am_hd m_LH_asks 197 (am_exn 1) 201 := ⟨[], ⟨0, 200, 201, 55⟩, [⟨0, 200, 206, 58⟩, ⟨0, 200, 211, 60⟩], rfl, by decide, rfl, by decide, aw_1_196, by decide +kernel, fun z h => absurd h List.not_mem_nil⟩
theorem hd_LH_asks_1 : am_hd m_LH_asks 27 (am_exn 1) 201 := ⟨[], ⟨0, 200, 201, 55⟩, [⟨0, 200, 206, 58⟩, ⟨0, 200, 211, 60⟩], rfl, by decide, rfl, by decide, aw_1_196, by decide +kernel, fun z h => absurd h List.not_mem_nil⟩
theorem hd_LH_asks_1 : am_hd m_LH_asks 43 (am_exn 1) 201 := ⟨[], ⟨0, 200, 201, 55⟩, [⟨0, 200, 206, 58⟩, ⟨0, 200, 211, 60⟩], rfl, by decide, rfl, by decide, aw_1_196, by decide +kernel, fun z h => absurd h List.not_mem_nil⟩
theorem hd_LH_asks_1 : am_hd m_LH_asks 61 (am_exn 1) 201 := ⟨[], ⟨0, 200, 201, 55⟩, [⟨0, 200, 206, 58⟩, ⟨0, 200, 211, 60⟩], rfl, by decide, rfl, by decide, aw_1_196, by decide +kernel, fun z h => absurd h List.not_mem_nil⟩
theorem hd_LH_asks_1 : am_hd m_LH_asks 7 (am_exn 1) 201 := ⟨[], ⟨0, 200, 201, 55⟩, [⟨0, 200, 206, 58⟩, ⟨0, 200, 211, 60⟩], rfl, by decide, rfl, by decide, aw_1_196, by decide +kernel, fun z h => absurd h List.not_mem_nil⟩
theorem hd_LH_asks_1 : am_hd m_LH_asks 77 (am_exn 1) 201 := ⟨[], ⟨0, 200, 201, 55⟩, [⟨0, 200, 206, 58⟩, ⟨0, 200, 211, 60⟩], rfl, by decide, rfl, by decide, aw_1_196, by decide +kernel, fun z h => absurd h List.not_mem_nil⟩
theorem hd_LH_asks_1 : am_hd m_LH_asks 93 (am_exn 1) 201 := ⟨[], ⟨0, 200, 201, 55⟩, [⟨0, 200, 206, 58⟩, ⟨0, 200, 211, 60⟩], rfl, by decide, rfl, by decide, aw_1_196, by decide +kernel, fun z h => absurd h List.not_mem_nil⟩
theorem hd_LH_asks_2 : am_hd m_LH_asks 112 (am_exn 2) 206 := ⟨[⟨0, 200, 201, 55⟩], ⟨0, 200, 206, 58⟩, [⟨0, 200, 211, 60⟩], rfl, by decide, rfl, by decide, aw_1_197, by decide +kernel, List.forall_mem_cons.mpr ⟨Or.inr ⟨by decide, "java/lang/IndexOutOfBoundsException", aw_1_196, by decide⟩, fun z h => absurd h List.not_mem_nil⟩⟩
theorem hd_LH_asks_2 : am_hd m_LH_asks 139 (am_exn 2) 206 := ⟨[⟨0, 200, 201, 55⟩], ⟨0, 200, 206, 58⟩, [⟨0, 200, 211, 60⟩], rfl, by decide, rfl, by decide, aw_1_197, by decide +kernel, List.forall_mem_cons.mpr ⟨Or.inr ⟨by decide, "java/lang/IndexOutOfBoundsException", aw_1_196, by decide⟩, fun z h => absurd h List.not_mem_nil⟩⟩
theorem hd_LH_asks_2 : am_hd m_LH_asks 154 (am_exn 2) 206 := ⟨[⟨0, 200, 201, 55⟩], ⟨0, 200, 206, 58⟩, [⟨0, 200, 211, 60⟩], rfl, by decide, rfl, by decide, aw_1_197, by decide +kernel, List.forall_mem_cons.mpr ⟨Or.inr ⟨by decide, "java/lang/IndexOutOfBoundsException", aw_1_196, by decide⟩, fun z h => absurd h List.not_mem_nil⟩⟩
theorem hd_LH_asks_2 : am_hd m_LH_asks 171 (am_exn 2) 206 := ⟨[⟨0, 200, 201, 55⟩], ⟨0, 200, 206, 58⟩, [⟨0, 200, 211, 60⟩], rfl, by decide, rfl, by decide, aw_1_197, by decide +kernel, List.forall_mem_cons.mpr ⟨Or.inr ⟨by decide, "java/lang/IndexOutOfBoundsException", aw_1_196, by decide⟩, fun z h => absurd h List.not_mem_nil⟩⟩
theorem hd_LH_asks_2 : am_hd m_LH_asks 188 (am_exn 2) 206 := ⟨[⟨0, 200, 201, 55⟩], ⟨0, 200, 206, 58⟩, [⟨0, 200, 211, 60⟩], rfl, by decide, rfl, by decide, aw_1_197, by decide +kernel, List.forall_mem_cons.mpr ⟨Or.inr ⟨by decide, "java/lang/IndexOutOfBoundsException", aw_1_196, by decide⟩, fun z h => absurd h List.not_mem_nil⟩⟩
theorem hd_LH_asks_2 : am_hd m_LH_asks 197 (am_exn 2) 206 := ⟨[⟨0, 200, 201, 55⟩], ⟨0, 200, 206, 58⟩, [⟨0, 200, 211, 60⟩], rfl, by decide, rfl, by decide, aw_1_197, by decide +kernel, List.forall_mem_cons.mpr ⟨Or.inr ⟨by decide, "java/lang/IndexOutOfBoundsException", aw_1_196, by decide⟩, fun z h => absurd h List.not_mem_nil⟩⟩
theorem hd_LH_asks_2 : am_hd m_LH_asks 27 (am_exn 2) 206 := ⟨[⟨0, 200, 201, 55⟩], ⟨0, 200, 206, 58⟩, [⟨0, 200, 211, 60⟩], rfl, by decide, rfl, by decide, aw_1_197, by decide +kernel, List.forall_mem_cons.mpr ⟨Or.inr ⟨by decide, "java/lang/IndexOutOfBoundsException", aw_1_196, by decide⟩, fun z h => absurd h List.not_mem_nil⟩⟩
theorem hd_LH_asks_2 : am_hd m_LH_asks 43 (am_exn 2) 206 := ⟨[⟨0, 200, 201, 55⟩], ⟨0, 200, 206, 58⟩, [⟨0, 200, 211, 60⟩], rfl, by decide, rfl, by decide, aw_1_197, by decide +kernel, List.forall_mem_cons.mpr ⟨Or.inr ⟨by decide, "java/lang/IndexOutOfBoundsException", aw_1_196, by decide⟩, fun z h => absurd h List.not_mem_nil⟩⟩
theorem hd_LH_asks_2 : am_hd m_LH_asks 61 (am_exn 2) 206 := ⟨[⟨0, 200, 201, 55⟩], ⟨0, 200, 206, 58⟩, [⟨0, 200, 211, 60⟩], rfl, by decide, rfl, by decide, aw_1_197, by decide +kernel, List.forall_mem_cons.mpr ⟨Or.inr ⟨by decide, "java/lang/IndexOutOfBoundsException", aw_1_196, by decide⟩, fun z h => absurd h List.not_mem_nil⟩⟩
theorem hd_LH_asks_2 : am_hd m_LH_asks 7 (am_exn 2) 206 := ⟨[⟨0, 200, 201, 55⟩], ⟨0, 200, 206, 58⟩, [⟨0, 200, 211, 60⟩], rfl, by decide, rfl, by decide, aw_1_197, by decide +kernel, List.forall_mem_cons.mpr ⟨Or.inr ⟨by decide, "java/lang/IndexOutOfBoundsException", aw_1_196, by decide⟩, fun z h => absurd h List.not_mem_nil⟩⟩
theorem hd_LH_asks_2 : am_hd m_LH_asks 77 (am_exn 2) 206 := ⟨[⟨0, 200, 201, 55⟩], ⟨0, 200, 206, 58⟩, [⟨0, 200, 211, 60⟩], rfl, by decide, rfl, by decide, aw_1_197, by decide +kernel, List.forall_mem_cons.mpr ⟨Or.inr ⟨by decide, "java/lang/IndexOutOfBoundsException", aw_1_196, by decide⟩, fun z h => absurd h List.not_mem_nil⟩⟩
theorem hd_LH_asks_2 : am_hd m_LH_asks 93 (am_exn 2) 206 := ⟨[⟨0, 200, 201, 55⟩], ⟨0, 200, 206, 58⟩, [⟨0, 200, 211, 60⟩], rfl, by decide, rfl, by decide, aw_1_197, by decide +kernel, List.forall_mem_cons.mpr ⟨Or.inr ⟨by decide, "java/lang/IndexOutOfBoundsException", aw_1_196, by decide⟩, fun z h => absurd h List.not_mem_nil⟩⟩
theorem hd_LH_asks_3 : am_hd m_LH_asks 112 (am_exn 3) 211 := ⟨[⟨0, 200, 201, 55⟩, ⟨0, 200, 206, 58⟩], ⟨0, 200, 211, 60⟩, [], rfl, by decide, rfl, by decide, aw_1_198, by decide +kernel, List.forall_mem_cons.mpr ⟨Or.inr ⟨by decide, "java/lang/IndexOutOfBoundsException", aw_1_196, by decide⟩, List.forall_mem_cons.mpr ⟨Or.inr ⟨by decide, "java/lang/IllegalArgumentException", aw_1_197, by decide⟩, fun z h => absurd h List.not_mem_nil⟩⟩⟩
theorem hd_LH_asks_3 : am_hd m_LH_asks 139 (am_exn 3) 211 := ⟨[⟨0, 200, 201, 55⟩, ⟨0, 200, 206, 58⟩], ⟨0, 200, 211, 60⟩, [], rfl, by decide, rfl, by decide, aw_1_198, by decide +kernel, List.forall_mem_cons.mpr ⟨Or.inr ⟨by decide, "java/lang/IndexOutOfBoundsException", aw_1_196, by decide⟩, List.forall_mem_cons.mpr ⟨Or.inr ⟨by decide, "java/lang/IllegalArgumentException", aw_1_197, by decide⟩, fun z h => absurd h List.not_mem_nil⟩⟩⟩
theorem hd_LH_asks_3 : am_hd m_LH_asks 154 (am_exn 3) 211 := ⟨[⟨0, 200, 201, 55⟩, ⟨0, 200, 206, 58⟩], ⟨0, 200, 211, 60⟩, [], rfl, by decide, rfl, by decide, aw_1_198, by decide +kernel, List.forall_mem_cons.mpr ⟨Or.inr ⟨by decide, "java/lang/IndexOutOfBoundsException", aw_1_196, by decide⟩, List.forall_mem_cons.mpr ⟨Or.inr ⟨by decide, "java/lang/IllegalArgumentException", aw_1_197, by decide⟩, fun z h => absurd h List.not_mem_nil⟩⟩⟩
theorem hd_LH_asks_3 : am_hd m_LH_asks 171 (am_exn 3) 211 := ⟨[⟨0, 200, 201, 55⟩, ⟨0, 200, 206, 58⟩], ⟨0, 200, 211, 60⟩, [], rfl, by decide, rfl, by decide, aw_1_198, by decide +kernel, List.forall_mem_cons.mpr ⟨Or.inr ⟨by decide, "java/lang/IndexOutOfBoundsException", aw_1_196, by decide⟩, List.forall_mem_cons.mpr ⟨Or.inr ⟨by decide, "java/lang/IllegalArgumentException", aw_1_197, by decide⟩, fun z h => absurd h List.not_mem_nil⟩⟩⟩
theorem hd_LH_asks_3 : am_hd m_LH_asks 188 (am_exn 3) 211 := ⟨[⟨0, 200, 201, 55⟩, ⟨0, 200, 206, 58⟩], ⟨0, 200, 211, 60⟩, [], rfl, by decide, rfl, by decide, aw_1_198, by decide +kernel, List.forall_mem_cons.mpr ⟨Or.inr ⟨by decide, "java/lang/IndexOutOfBoundsException", aw_1_196, by decide⟩, List.forall_mem_cons.mpr ⟨Or.inr ⟨by decide, "java/lang/IllegalArgumentException", aw_1_197, by decide⟩, fun z h => absurd h List.not_mem_nil⟩⟩⟩
theorem hd_LH_asks_3 : am_hd m_LH_asks 197 (am_exn 3) 211 := ⟨[⟨0, 200, 201, 55⟩, ⟨0, 200, 206, 58⟩], ⟨0, 200, 211, 60⟩, [], rfl, by decide, rfl, by decide, aw_1_198, by decide +kernel, List.forall_mem_cons.mpr ⟨Or.inr ⟨by decide, "java/lang/IndexOutOfBoundsException", aw_1_196, by decide⟩, List.forall_mem_cons.mpr ⟨Or.inr ⟨by decide, "java/lang/IllegalArgumentException", aw_1_197, by decide⟩, fun z h => absurd h List.not_mem_nil⟩⟩⟩
theorem hd_LH_asks_3 : am_hd m_LH_asks 27 (am_exn 3) 211 := ⟨[⟨0, 200, 201, 55⟩, ⟨0, 200, 206, 58⟩], ⟨0, 200, 211, 60⟩, [], rfl, by decide, rfl, by decide, aw_1_198, by decide +kernel, List.forall_mem_cons.mpr ⟨Or.inr ⟨by decide, "java/lang/IndexOutOfBoundsException", aw_1_196, by decide⟩, List.forall_mem_cons.mpr ⟨Or.inr ⟨by decide, "java/lang/IllegalArgumentException", aw_1_197, by decide⟩, fun z h => absurd h List.not_mem_nil⟩⟩⟩
theorem hd_LH_asks_3 : am_hd m_LH_asks 43 (am_exn 3) 211 := ⟨[⟨0, 200, 201, 55⟩, ⟨0, 200, 206, 58⟩], ⟨0, 200, 211, 60⟩, [], rfl, by decide, rfl, by decide, aw_1_198, by decide +kernel, List.forall_mem_cons.mpr ⟨Or.inr ⟨by decide, "java/lang/IndexOutOfBoundsException", aw_1_196, by decide⟩, List.forall_mem_cons.mpr ⟨Or.inr ⟨by decide, "java/lang/IllegalArgumentException", aw_1_197, by decide⟩, fun z h => absurd h List.not_mem_nil⟩⟩⟩
theorem hd_LH_asks_3 : am_hd m_LH_asks 61 (am_exn 3) 211 := ⟨[⟨0, 200, 201, 55⟩, ⟨0, 200, 206, 58⟩], ⟨0, 200, 211, 60⟩, [], rfl, by decide, rfl, by decide, aw_1_198, by decide +kernel, List.forall_mem_cons.mpr ⟨Or.inr ⟨by decide, "java/lang/IndexOutOfBoundsException", aw_1_196, by decide⟩, List.forall_mem_cons.mpr ⟨Or.inr ⟨by decide, "java/lang/IllegalArgumentException", aw_1_197, by decide⟩, fun z h => absurd h List.not_mem_nil⟩⟩⟩
theorem hd_LH_asks_3 : am_hd m_LH_asks 7 (am_exn 3) 211 := ⟨[⟨0, 200, 201, 55⟩, ⟨0, 200, 206, 58⟩], ⟨0, 200, 211, 60⟩, [], rfl, by decide, rfl, by decide, aw_1_198, by decide +kernel, List.forall_mem_cons.mpr ⟨Or.inr ⟨by decide, "java/lang/IndexOutOfBoundsException", aw_1_196, by decide⟩, List.forall_mem_cons.mpr ⟨Or.inr ⟨by decide, "java/lang/IllegalArgumentException", aw_1_197, by decide⟩, fun z h => absurd h List.not_mem_nil⟩⟩⟩
theorem hd_LH_asks_3 : am_hd m_LH_asks 77 (am_exn 3) 211 := ⟨[⟨0, 200, 201, 55⟩, ⟨0, 200, 206, 58⟩], ⟨0, 200, 211, 60⟩, [], rfl, by decide, rfl, by decide, aw_1_198, by decide +kernel, List.forall_mem_cons.mpr ⟨Or.inr ⟨by decide, "java/lang/IndexOutOfBoundsException", aw_1_196, by decide⟩, List.forall_mem_cons.mpr ⟨Or.inr ⟨by decide, "java/lang/IllegalArgumentException", aw_1_197, by decide⟩, fun z h => absurd h List.not_mem_nil⟩⟩⟩
theorem hd_LH_asks_3 : am_hd m_LH_asks 93 (am_exn 3) 211 := ⟨[⟨0, 200, 201, 55⟩, ⟨0, 200, 206, 58⟩], ⟨0, 200, 211, 60⟩, [], rfl, by decide, rfl, by decide, aw_1_198, by decide +kernel, List.forall_mem_cons.mpr ⟨Or.inr ⟨by decide, "java/lang/IndexOutOfBoundsException", aw_1_196, by decide⟩, List.forall_mem_cons.mpr ⟨Or.inr ⟨by decide, "java/lang/IllegalArgumentException", aw_1_197, by decide⟩, fun z h => absurd h List.not_mem_nil⟩⟩⟩
def f_LH_asks  (s : am_M) (x1 : Int32) (x2 : Int32) (x3 : Int32) (x4 : Int32) (x5 : Int32) (x6 : Int32) : Int32 × am_M := (if x1 = 0 then (if (h_CB_ask s x2 x3).1 = 0 then ((h_CB_ask s x2 x3).2.1, (h_CB_ask s x2 x3).2.2) else (if (h_CB_ask s x2 x3).1 = 1 then ((-9999999 : Int32), (h_CB_ask s x2 x3).2.2) else (if (h_CB_ask s x2 x3).1 = 2 then ((-9999999 : Int32), (h_CB_ask s x2 x3).2.2) else ((-9999999 : Int32), (h_CB_ask s x2 x3).2.2)))) else (if x1 = (1 : Int32) then (if (h_CB_condition s x2 x3 x4 x5 x6).1 = 0 then ((h_CB_condition s x2 x3 x4 x5 x6).2.1, (h_CB_condition s x2 x3 x4 x5 x6).2.2) else (if (h_CB_condition s x2 x3 x4 x5 x6).1 = 1 then ((-9999999 : Int32), (h_CB_condition s x2 x3 x4 x5 x6).2.2) else (if (h_CB_condition s x2 x3 x4 x5 x6).1 = 2 then ((-9999999 : Int32), (h_CB_condition s x2 x3 x4 x5 x6).2.2) else ((-9999999 : Int32), (h_CB_condition s x2 x3 x4 x5 x6).2.2)))) else (if x1 = (2 : Int32) then (if (h_CB_askGroups s x2 x3 x4).1 = 0 then ((h_CB_askGroups s x2 x3 x4).2.1, (h_CB_askGroups s x2 x3 x4).2.2) else (if (h_CB_askGroups s x2 x3 x4).1 = 1 then ((-9999999 : Int32), (h_CB_askGroups s x2 x3 x4).2.2) else (if (h_CB_askGroups s x2 x3 x4).1 = 2 then ((-9999999 : Int32), (h_CB_askGroups s x2 x3 x4).2.2) else ((-9999999 : Int32), (h_CB_askGroups s x2 x3 x4).2.2)))) else (if x1 = (3 : Int32) then (if (h_CB_askCross s x2 x3 x4 x5).1 = 0 then ((h_CB_askCross s x2 x3 x4 x5).2.1, (h_CB_askCross s x2 x3 x4 x5).2.2) else (if (h_CB_askCross s x2 x3 x4 x5).1 = 1 then ((-9999999 : Int32), (h_CB_askCross s x2 x3 x4 x5).2.2) else (if (h_CB_askCross s x2 x3 x4 x5).1 = 2 then ((-9999999 : Int32), (h_CB_askCross s x2 x3 x4 x5).2.2) else ((-9999999 : Int32), (h_CB_askCross s x2 x3 x4 x5).2.2)))) else (if x1 = (4 : Int32) then (if (f_CB_answer s x2 x3 x4).1 = 0 then ((f_CB_answer s x2 x3 x4).2.1, (f_CB_answer s x2 x3 x4).2.2) else (if (f_CB_answer s x2 x3 x4).1 = 1 then ((-9999999 : Int32), (f_CB_answer s x2 x3 x4).2.2) else (if (f_CB_answer s x2 x3 x4).1 = 2 then ((-9999999 : Int32), (f_CB_answer s x2 x3 x4).2.2) else ((-9999999 : Int32), (f_CB_answer s x2 x3 x4).2.2)))) else (if x1 = (5 : Int32) then (if (f_CB_target s x2 x3 x4).1 = 0 then ((f_CB_target s x2 x3 x4).2.1, (f_CB_target s x2 x3 x4).2.2) else (if (f_CB_target s x2 x3 x4).1 = 1 then ((-9999999 : Int32), (f_CB_target s x2 x3 x4).2.2) else (if (f_CB_target s x2 x3 x4).1 = 2 then ((-9999999 : Int32), (f_CB_target s x2 x3 x4).2.2) else ((-9999999 : Int32), (f_CB_target s x2 x3 x4).2.2)))) else (if x1 = (6 : Int32) then (if (h_CB_write s x2 x3 x4 x5).1 = 0 then (if (h_CB_write s x2 x3 x4 x5).2.1 = 0 then ((0 : Int32), (h_CB_write s x2 x3 x4 x5).2.2) else ((1 : Int32), (h_CB_write s x2 x3 x4 x5).2.2)) else (if (h_CB_write s x2 x3 x4 x5).1 = 1 then ((-9999999 : Int32), (h_CB_write s x2 x3 x4 x5).2.2) else (if (h_CB_write s x2 x3 x4 x5).1 = 2 then ((-9999999 : Int32), (h_CB_write s x2 x3 x4 x5).2.2) else ((-9999999 : Int32), (h_CB_write s x2 x3 x4 x5).2.2)))) else (if x1 = (7 : Int32) then (if (h_CB_stepPut s x2 x3 x4 x5).1 = 0 then ((h_CB_stepPut s x2 x3 x4 x5).2.1, (h_CB_stepPut s x2 x3 x4 x5).2.2) else (if (h_CB_stepPut s x2 x3 x4 x5).1 = 1 then ((-9999999 : Int32), (h_CB_stepPut s x2 x3 x4 x5).2.2) else (if (h_CB_stepPut s x2 x3 x4 x5).1 = 2 then ((-9999999 : Int32), (h_CB_stepPut s x2 x3 x4 x5).2.2) else ((-9999999 : Int32), (h_CB_stepPut s x2 x3 x4 x5).2.2)))) else (if x1 = (8 : Int32) then (if (h_CB_stepAdd s x2 x3).1 = 0 then ((h_CB_stepAdd s x2 x3).2.1, (h_CB_stepAdd s x2 x3).2.2) else (if (h_CB_stepAdd s x2 x3).1 = 1 then ((-9999999 : Int32), (h_CB_stepAdd s x2 x3).2.2) else (if (h_CB_stepAdd s x2 x3).1 = 2 then ((-9999999 : Int32), (h_CB_stepAdd s x2 x3).2.2) else ((-9999999 : Int32), (h_CB_stepAdd s x2 x3).2.2)))) else (if x1 = (9 : Int32) then (if (h_CB_stepRemove s x2 x3 x4).1 = 0 then ((h_CB_stepRemove s x2 x3 x4).2.1, (h_CB_stepRemove s x2 x3 x4).2.2) else (if (h_CB_stepRemove s x2 x3 x4).1 = 1 then ((-9999999 : Int32), (h_CB_stepRemove s x2 x3 x4).2.2) else (if (h_CB_stepRemove s x2 x3 x4).1 = 2 then ((-9999999 : Int32), (h_CB_stepRemove s x2 x3 x4).2.2) else ((-9999999 : Int32), (h_CB_stepRemove s x2 x3 x4).2.2)))) else (if x1 = (10 : Int32) then (if (h_CB_stepIf s x2 x3 x4).1 = 0 then ((h_CB_stepIf s x2 x3 x4).2.1, (h_CB_stepIf s x2 x3 x4).2.2) else (if (h_CB_stepIf s x2 x3 x4).1 = 1 then ((-9999999 : Int32), (h_CB_stepIf s x2 x3 x4).2.2) else (if (h_CB_stepIf s x2 x3 x4).1 = 2 then ((-9999999 : Int32), (h_CB_stepIf s x2 x3 x4).2.2) else ((-9999999 : Int32), (h_CB_stepIf s x2 x3 x4).2.2)))) else (if (f_CB_keyOf s x2 x3).1 = 0 then ((f_CB_keyOf s x2 x3).2.1, (f_CB_keyOf s x2 x3).2.2) else (if (f_CB_keyOf s x2 x3).1 = 1 then ((-9999999 : Int32), (f_CB_keyOf s x2 x3).2.2) else (if (f_CB_keyOf s x2 x3).1 = 2 then ((-9999999 : Int32), (f_CB_keyOf s x2 x3).2.2) else ((-9999999 : Int32), (f_CB_keyOf s x2 x3).2.2)))))))))))))))
def p_LH_asks  (s : am_M) (x1 : Int32) (x2 : Int32) (x3 : Int32) (x4 : Int32) (x5 : Int32) (x6 : Int32) : Prop := ((x1 = 0) → p_CB_ask s x2 x3 ∧ (((h_CB_ask s x2 x3).1 = 0 ∨ (h_CB_ask s x2 x3).1 = 1 ∨ (h_CB_ask s x2 x3).1 = 2 ∨ (h_CB_ask s x2 x3).1 = 3) ∧ ((((h_CB_ask s x2 x3).1 = 0) → True) ∧ (¬ ((h_CB_ask s x2 x3).1 = 0) → (((h_CB_ask s x2 x3).1 = 1) → True) ∧ (¬ ((h_CB_ask s x2 x3).1 = 1) → (((h_CB_ask s x2 x3).1 = 2) → True) ∧ (¬ ((h_CB_ask s x2 x3).1 = 2) → True)))))) ∧ (¬ (x1 = 0) → ((x1 = (1 : Int32)) → p_CB_condition s x2 x3 x4 x5 x6 ∧ (((h_CB_condition s x2 x3 x4 x5 x6).1 = 0 ∨ (h_CB_condition s x2 x3 x4 x5 x6).1 = 1 ∨ (h_CB_condition s x2 x3 x4 x5 x6).1 = 2 ∨ (h_CB_condition s x2 x3 x4 x5 x6).1 = 3) ∧ ((((h_CB_condition s x2 x3 x4 x5 x6).1 = 0) → True) ∧ (¬ ((h_CB_condition s x2 x3 x4 x5 x6).1 = 0) → (((h_CB_condition s x2 x3 x4 x5 x6).1 = 1) → True) ∧ (¬ ((h_CB_condition s x2 x3 x4 x5 x6).1 = 1) → (((h_CB_condition s x2 x3 x4 x5 x6).1 = 2) → True) ∧ (¬ ((h_CB_condition s x2 x3 x4 x5 x6).1 = 2) → True)))))) ∧ (¬ (x1 = (1 : Int32)) → ((x1 = (2 : Int32)) → p_CB_askGroups s x2 x3 x4 ∧ (((h_CB_askGroups s x2 x3 x4).1 = 0 ∨ (h_CB_askGroups s x2 x3 x4).1 = 1 ∨ (h_CB_askGroups s x2 x3 x4).1 = 2 ∨ (h_CB_askGroups s x2 x3 x4).1 = 3) ∧ ((((h_CB_askGroups s x2 x3 x4).1 = 0) → True) ∧ (¬ ((h_CB_askGroups s x2 x3 x4).1 = 0) → (((h_CB_askGroups s x2 x3 x4).1 = 1) → True) ∧ (¬ ((h_CB_askGroups s x2 x3 x4).1 = 1) → (((h_CB_askGroups s x2 x3 x4).1 = 2) → True) ∧ (¬ ((h_CB_askGroups s x2 x3 x4).1 = 2) → True)))))) ∧ (¬ (x1 = (2 : Int32)) → ((x1 = (3 : Int32)) → p_CB_askCross s x2 x3 x4 x5 ∧ (((h_CB_askCross s x2 x3 x4 x5).1 = 0 ∨ (h_CB_askCross s x2 x3 x4 x5).1 = 1 ∨ (h_CB_askCross s x2 x3 x4 x5).1 = 2 ∨ (h_CB_askCross s x2 x3 x4 x5).1 = 3) ∧ ((((h_CB_askCross s x2 x3 x4 x5).1 = 0) → True) ∧ (¬ ((h_CB_askCross s x2 x3 x4 x5).1 = 0) → (((h_CB_askCross s x2 x3 x4 x5).1 = 1) → True) ∧ (¬ ((h_CB_askCross s x2 x3 x4 x5).1 = 1) → (((h_CB_askCross s x2 x3 x4 x5).1 = 2) → True) ∧ (¬ ((h_CB_askCross s x2 x3 x4 x5).1 = 2) → True)))))) ∧ (¬ (x1 = (3 : Int32)) → ((x1 = (4 : Int32)) → p_CB_answer s x2 x3 x4 ∧ (((f_CB_answer s x2 x3 x4).1 = 0 ∨ (f_CB_answer s x2 x3 x4).1 = 1 ∨ (f_CB_answer s x2 x3 x4).1 = 2 ∨ (f_CB_answer s x2 x3 x4).1 = 3) ∧ ((((f_CB_answer s x2 x3 x4).1 = 0) → True) ∧ (¬ ((f_CB_answer s x2 x3 x4).1 = 0) → (((f_CB_answer s x2 x3 x4).1 = 1) → True) ∧ (¬ ((f_CB_answer s x2 x3 x4).1 = 1) → (((f_CB_answer s x2 x3 x4).1 = 2) → True) ∧ (¬ ((f_CB_answer s x2 x3 x4).1 = 2) → True)))))) ∧ (¬ (x1 = (4 : Int32)) → ((x1 = (5 : Int32)) → p_CB_target s x2 x3 x4 ∧ (((f_CB_target s x2 x3 x4).1 = 0 ∨ (f_CB_target s x2 x3 x4).1 = 1 ∨ (f_CB_target s x2 x3 x4).1 = 2 ∨ (f_CB_target s x2 x3 x4).1 = 3) ∧ ((((f_CB_target s x2 x3 x4).1 = 0) → True) ∧ (¬ ((f_CB_target s x2 x3 x4).1 = 0) → (((f_CB_target s x2 x3 x4).1 = 1) → True) ∧ (¬ ((f_CB_target s x2 x3 x4).1 = 1) → (((f_CB_target s x2 x3 x4).1 = 2) → True) ∧ (¬ ((f_CB_target s x2 x3 x4).1 = 2) → True)))))) ∧ (¬ (x1 = (5 : Int32)) → ((x1 = (6 : Int32)) → p_CB_write s x2 x3 x4 x5 ∧ (((h_CB_write s x2 x3 x4 x5).1 = 0 ∨ (h_CB_write s x2 x3 x4 x5).1 = 1 ∨ (h_CB_write s x2 x3 x4 x5).1 = 2 ∨ (h_CB_write s x2 x3 x4 x5).1 = 3) ∧ ((((h_CB_write s x2 x3 x4 x5).1 = 0) → (((h_CB_write s x2 x3 x4 x5).2.1 = 0) → True) ∧ (¬ ((h_CB_write s x2 x3 x4 x5).2.1 = 0) → True)) ∧ (¬ ((h_CB_write s x2 x3 x4 x5).1 = 0) → (((h_CB_write s x2 x3 x4 x5).1 = 1) → True) ∧ (¬ ((h_CB_write s x2 x3 x4 x5).1 = 1) → (((h_CB_write s x2 x3 x4 x5).1 = 2) → True) ∧ (¬ ((h_CB_write s x2 x3 x4 x5).1 = 2) → True)))))) ∧ (¬ (x1 = (6 : Int32)) → ((x1 = (7 : Int32)) → p_CB_stepPut s x2 x3 x4 x5 ∧ (((h_CB_stepPut s x2 x3 x4 x5).1 = 0 ∨ (h_CB_stepPut s x2 x3 x4 x5).1 = 1 ∨ (h_CB_stepPut s x2 x3 x4 x5).1 = 2 ∨ (h_CB_stepPut s x2 x3 x4 x5).1 = 3) ∧ ((((h_CB_stepPut s x2 x3 x4 x5).1 = 0) → True) ∧ (¬ ((h_CB_stepPut s x2 x3 x4 x5).1 = 0) → (((h_CB_stepPut s x2 x3 x4 x5).1 = 1) → True) ∧ (¬ ((h_CB_stepPut s x2 x3 x4 x5).1 = 1) → (((h_CB_stepPut s x2 x3 x4 x5).1 = 2) → True) ∧ (¬ ((h_CB_stepPut s x2 x3 x4 x5).1 = 2) → True)))))) ∧ (¬ (x1 = (7 : Int32)) → ((x1 = (8 : Int32)) → p_CB_stepAdd s x2 x3 ∧ (((h_CB_stepAdd s x2 x3).1 = 0 ∨ (h_CB_stepAdd s x2 x3).1 = 1 ∨ (h_CB_stepAdd s x2 x3).1 = 2 ∨ (h_CB_stepAdd s x2 x3).1 = 3) ∧ ((((h_CB_stepAdd s x2 x3).1 = 0) → True) ∧ (¬ ((h_CB_stepAdd s x2 x3).1 = 0) → (((h_CB_stepAdd s x2 x3).1 = 1) → True) ∧ (¬ ((h_CB_stepAdd s x2 x3).1 = 1) → (((h_CB_stepAdd s x2 x3).1 = 2) → True) ∧ (¬ ((h_CB_stepAdd s x2 x3).1 = 2) → True)))))) ∧ (¬ (x1 = (8 : Int32)) → ((x1 = (9 : Int32)) → p_CB_stepRemove s x2 x3 x4 ∧ (((h_CB_stepRemove s x2 x3 x4).1 = 0 ∨ (h_CB_stepRemove s x2 x3 x4).1 = 1 ∨ (h_CB_stepRemove s x2 x3 x4).1 = 2 ∨ (h_CB_stepRemove s x2 x3 x4).1 = 3) ∧ ((((h_CB_stepRemove s x2 x3 x4).1 = 0) → True) ∧ (¬ ((h_CB_stepRemove s x2 x3 x4).1 = 0) → (((h_CB_stepRemove s x2 x3 x4).1 = 1) → True) ∧ (¬ ((h_CB_stepRemove s x2 x3 x4).1 = 1) → (((h_CB_stepRemove s x2 x3 x4).1 = 2) → True) ∧ (¬ ((h_CB_stepRemove s x2 x3 x4).1 = 2) → True)))))) ∧ (¬ (x1 = (9 : Int32)) → ((x1 = (10 : Int32)) → p_CB_stepIf s x2 x3 x4 ∧ (((h_CB_stepIf s x2 x3 x4).1 = 0 ∨ (h_CB_stepIf s x2 x3 x4).1 = 1 ∨ (h_CB_stepIf s x2 x3 x4).1 = 2 ∨ (h_CB_stepIf s x2 x3 x4).1 = 3) ∧ ((((h_CB_stepIf s x2 x3 x4).1 = 0) → True) ∧ (¬ ((h_CB_stepIf s x2 x3 x4).1 = 0) → (((h_CB_stepIf s x2 x3 x4).1 = 1) → True) ∧ (¬ ((h_CB_stepIf s x2 x3 x4).1 = 1) → (((h_CB_stepIf s x2 x3 x4).1 = 2) → True) ∧ (¬ ((h_CB_stepIf s x2 x3 x4).1 = 2) → True)))))) ∧ (¬ (x1 = (10 : Int32)) → p_CB_keyOf s x2 x3 ∧ (((f_CB_keyOf s x2 x3).1 = 0 ∨ (f_CB_keyOf s x2 x3).1 = 1 ∨ (f_CB_keyOf s x2 x3).1 = 2 ∨ (f_CB_keyOf s x2 x3).1 = 3) ∧ ((((f_CB_keyOf s x2 x3).1 = 0) → True) ∧ (¬ ((f_CB_keyOf s x2 x3).1 = 0) → (((f_CB_keyOf s x2 x3).1 = 1) → True) ∧ (¬ ((f_CB_keyOf s x2 x3).1 = 1) → (((f_CB_keyOf s x2 x3).1 = 2) → True) ∧ (¬ ((f_CB_keyOf s x2 x3).1 = 2) → True))))))))))))))))
set_option maxRecDepth 8000 in
theorem w_LH_asks {l : Launch} {g : am_Gl} (hg : g.2.2.2.1 = true) {ad0 : Nat → Nat} {s : am_M} {x1 : Int32} {x2 : Int32} {x3 : Int32} {x4 : Int32} {x5 : Int32} {x6 : Int32} (h : p_LH_asks s x1 x2 x3 x4 x5 x6) : AW l g m_LH_asks 207 ad0 (am_oC (f_LH_asks s x1 x2 x3 x4 x5 x6)) 0 0 207 s 0 [(0, .ref 0), (1, .int x1), (2, .int x2), (3, .int x3), (4, .int x4), (5, .int x5), (6, .int x6)] [] := by
  refine am_iload_n (j := 1) d_LH_asks_0 rfl rfl ?_
  refine ai_ne (F := am_oC) (tgt := 13) d_LH_asks_1 (by decide) (fun c => ?_) (fun c => ?_)
  · have h := h.2 c
    refine am_iload_n (j := 1) d_LH_asks_13 rfl rfl ?_
    refine am_iconst (v := (1 : Int32)) d_LH_asks_14 (by decide) ?_
    refine aj_ne (F := am_oC) (tgt := 33) d_LH_asks_15 (by decide) (fun c => ?_) (fun c => ?_)
    · have h := h.2 c
      refine am_iload_n (j := 1) d_LH_asks_33 rfl rfl ?_
      refine am_iconst (v := (2 : Int32)) d_LH_asks_34 (by decide) ?_
      refine aj_ne (F := am_oC) (tgt := 49) d_LH_asks_35 (by decide) (fun c => ?_) (fun c => ?_)
      · have h := h.2 c
        refine am_iload_n (j := 1) d_LH_asks_49 rfl rfl ?_
        refine am_iconst (v := (3 : Int32)) d_LH_asks_50 (by decide) ?_
        refine aj_ne (F := am_oC) (tgt := 67) d_LH_asks_51 (by decide) (fun c => ?_) (fun c => ?_)
        · have h := h.2 c
          refine am_iload_n (j := 1) d_LH_asks_67 rfl rfl ?_
          refine am_iconst (v := (4 : Int32)) d_LH_asks_68 (by decide) ?_
          refine aj_ne (F := am_oC) (tgt := 83) d_LH_asks_69 (by decide) (fun c => ?_) (fun c => ?_)
          · have h := h.2 c
            refine am_iload_n (j := 1) d_LH_asks_83 rfl rfl ?_
            refine am_iconst (v := (5 : Int32)) d_LH_asks_84 (by decide) ?_
            refine aj_ne (F := am_oC) (tgt := 99) d_LH_asks_85 (by decide) (fun c => ?_) (fun c => ?_)
            · have h := h.2 c
              refine am_iload_n (j := 1) d_LH_asks_99 rfl rfl ?_
              refine am_bipush (v := (6 : Int32)) d_LH_asks_100 (by decide) ?_
              refine aj_ne (F := am_oC) (tgt := 126) d_LH_asks_102 (by decide) (fun c => ?_) (fun c => ?_)
              · have h := h.2 c
                refine am_iload_n (j := 1) d_LH_asks_126 rfl rfl ?_
                refine am_bipush (v := (7 : Int32)) d_LH_asks_127 (by decide) ?_
                refine aj_ne (F := am_oC) (tgt := 145) d_LH_asks_129 (by decide) (fun c => ?_) (fun c => ?_)
                · have h := h.2 c
                  refine am_iload_n (j := 1) d_LH_asks_145 rfl rfl ?_
                  refine am_bipush (v := (8 : Int32)) d_LH_asks_146 (by decide) ?_
                  refine aj_ne (F := am_oC) (tgt := 160) d_LH_asks_148 (by decide) (fun c => ?_) (fun c => ?_)
                  · have h := h.2 c
                    refine am_iload_n (j := 1) d_LH_asks_160 rfl rfl ?_
                    refine am_bipush (v := (9 : Int32)) d_LH_asks_161 (by decide) ?_
                    refine aj_ne (F := am_oC) (tgt := 177) d_LH_asks_163 (by decide) (fun c => ?_) (fun c => ?_)
                    · have h := h.2 c
                      refine am_iload_n (j := 1) d_LH_asks_177 rfl rfl ?_
                      refine am_bipush (v := (10 : Int32)) d_LH_asks_178 (by decide) ?_
                      refine aj_ne (F := am_oC) (tgt := 194) d_LH_asks_180 (by decide) (fun c => ?_) (fun c => ?_)
                      · have h := h.2 c
                        refine am_aload_n (j := 0) d_LH_asks_194 rfl rfl ?_
                        refine am_iload_n (j := 2) d_LH_asks_195 rfl rfl ?_
                        refine am_iload_n (j := 3) d_LH_asks_196 rfl rfl ?_
                        obtain ⟨hc, h⟩ := h
                        obtain ⟨hz, h⟩ := h
                        refine am_caseN (F := am_oC) (q := (f_CB_keyOf s x2 x3).1) (c := 0) (fun c0 => ?_) (fun c0 => ?_)
                        · have h := h.1 c0
                          refine ak_EH (as := [.int x2, .int x3]) (rest := []) d_LH_asks_197 cw_LH_asks_197 rfl (ct_CB_keyOf hg hc) rfl rfl (by decide) sh_0 rfl (Nat.le_of_ble_eq_true rfl) (by decide) (by decide) (fun n => absurd c0 n) (fun _ => ?_)
                          exact am_iret d_LH_asks_200 rfl rfl (by decide) (by decide) am_oC_ok
                        · have h := h.2 c0
                          refine am_caseN (F := am_oC) (q := (f_CB_keyOf s x2 x3).1) (c := 1) (fun c1 => ?_) (fun c1 => ?_)
                          · have h := h.1 c1
                            refine ak_EH (as := [.int x2, .int x3]) (rest := []) d_LH_asks_197 cw_LH_asks_197 rfl (ct_CB_keyOf hg hc) rfl rfl (by decide) sh_0 rfl (Nat.le_of_ble_eq_true rfl) (by decide) (by decide) (fun _ => ⟨201, by rw [c1]; exact hd_LH_asks_1, fun q9 => ?_⟩) (fun n => absurd n c0)
                            refine am_astoreS (lv2 := [(7, .retAddr q9), (0, .ref 0), (1, .int x1), (2, .int x2), (3, .int x3), (4, .int x4), (5, .int x5), (6, .int x6)]) d_LH_asks_201 (by decide) rfl ?_
                            refine am_ldc (v := (-9999999 : Int32)) d_LH_asks_203 aw_3_220 ?_
                            exact am_iret d_LH_asks_205 rfl rfl (by decide) (by decide) am_oC_ok
                          · have h := h.2 c1
                            refine am_caseN (F := am_oC) (q := (f_CB_keyOf s x2 x3).1) (c := 2) (fun c2 => ?_) (fun c2 => ?_)
                            · have h := h.1 c2
                              refine ak_EH (as := [.int x2, .int x3]) (rest := []) d_LH_asks_197 cw_LH_asks_197 rfl (ct_CB_keyOf hg hc) rfl rfl (by decide) sh_0 rfl (Nat.le_of_ble_eq_true rfl) (by decide) (by decide) (fun _ => ⟨206, by rw [c2]; exact hd_LH_asks_2, fun q9 => ?_⟩) (fun n => absurd n c0)
                              refine am_astoreS (lv2 := [(7, .retAddr q9), (0, .ref 0), (1, .int x1), (2, .int x2), (3, .int x3), (4, .int x4), (5, .int x5), (6, .int x6)]) d_LH_asks_206 (by decide) rfl ?_
                              refine am_ldc (v := (-9999999 : Int32)) d_LH_asks_208 aw_3_220 ?_
                              exact am_iret d_LH_asks_210 rfl rfl (by decide) (by decide) am_oC_ok
                            · have h := h.2 c2
                              have c3 : (f_CB_keyOf s x2 x3).1 = 3 := by rcases hz with z | z | z | z <;> first | exact z | exact absurd z c0 | exact absurd z c1 | exact absurd z c2
                              refine ak_EH (as := [.int x2, .int x3]) (rest := []) d_LH_asks_197 cw_LH_asks_197 rfl (ct_CB_keyOf hg hc) rfl rfl (by decide) sh_0 rfl (Nat.le_of_ble_eq_true rfl) (by decide) (by decide) (fun _ => ⟨211, by rw [c3]; exact hd_LH_asks_3, fun q9 => ?_⟩) (fun n => absurd n c0)
                              refine am_astoreS (lv2 := [(7, .retAddr q9), (0, .ref 0), (1, .int x1), (2, .int x2), (3, .int x3), (4, .int x4), (5, .int x5), (6, .int x6)]) d_LH_asks_211 (by decide) rfl ?_
                              refine am_ldc (v := (-9999999 : Int32)) d_LH_asks_213 aw_3_220 ?_
                              exact am_iret d_LH_asks_215 rfl rfl (by decide) (by decide) am_oC_ok
                      · have h := h.1 c
                        refine am_aload_n (j := 0) d_LH_asks_183 rfl rfl ?_
                        refine am_iload_n (j := 2) d_LH_asks_184 rfl rfl ?_
                        refine am_iload_n (j := 3) d_LH_asks_185 rfl rfl ?_
                        refine am_iload (j := 4) d_LH_asks_186 rfl ?_
                        obtain ⟨hc, h⟩ := h
                        obtain ⟨hz, h⟩ := h
                        refine am_caseN (F := am_oC) (q := (h_CB_stepIf s x2 x3 x4).1) (c := 0) (fun c0 => ?_) (fun c0 => ?_)
                        · have h := h.1 c0
                          refine ak_EH (as := [.int x2, .int x3, .int x4]) (rest := []) d_LH_asks_188 cw_LH_asks_188 rfl (ch_CB_stepIf hg hc) rfl rfl (by decide) sh_0 rfl (Nat.le_of_ble_eq_true rfl) (by decide) (by decide) (fun n => absurd c0 n) (fun _ => ?_)
                          refine am_goto (tgt := 200) d_LH_asks_191 (by decide) ?_
                          exact am_iret d_LH_asks_200 rfl rfl (by decide) (by decide) am_oC_ok
                        · have h := h.2 c0
                          refine am_caseN (F := am_oC) (q := (h_CB_stepIf s x2 x3 x4).1) (c := 1) (fun c1 => ?_) (fun c1 => ?_)
                          · have h := h.1 c1
                            refine ak_EH (as := [.int x2, .int x3, .int x4]) (rest := []) d_LH_asks_188 cw_LH_asks_188 rfl (ch_CB_stepIf hg hc) rfl rfl (by decide) sh_0 rfl (Nat.le_of_ble_eq_true rfl) (by decide) (by decide) (fun _ => ⟨201, by rw [c1]; exact hd_LH_asks_1, fun q9 => ?_⟩) (fun n => absurd n c0)
                            refine am_astoreS (lv2 := [(7, .retAddr q9), (0, .ref 0), (1, .int x1), (2, .int x2), (3, .int x3), (4, .int x4), (5, .int x5), (6, .int x6)]) d_LH_asks_201 (by decide) rfl ?_
                            refine am_ldc (v := (-9999999 : Int32)) d_LH_asks_203 aw_3_220 ?_
                            exact am_iret d_LH_asks_205 rfl rfl (by decide) (by decide) am_oC_ok
                          · have h := h.2 c1
                            refine am_caseN (F := am_oC) (q := (h_CB_stepIf s x2 x3 x4).1) (c := 2) (fun c2 => ?_) (fun c2 => ?_)
                            · have h := h.1 c2
                              refine ak_EH (as := [.int x2, .int x3, .int x4]) (rest := []) d_LH_asks_188 cw_LH_asks_188 rfl (ch_CB_stepIf hg hc) rfl rfl (by decide) sh_0 rfl (Nat.le_of_ble_eq_true rfl) (by decide) (by decide) (fun _ => ⟨206, by rw [c2]; exact hd_LH_asks_2, fun q9 => ?_⟩) (fun n => absurd n c0)
                              refine am_astoreS (lv2 := [(7, .retAddr q9), (0, .ref 0), (1, .int x1), (2, .int x2), (3, .int x3), (4, .int x4), (5, .int x5), (6, .int x6)]) d_LH_asks_206 (by decide) rfl ?_
                              refine am_ldc (v := (-9999999 : Int32)) d_LH_asks_208 aw_3_220 ?_
                              exact am_iret d_LH_asks_210 rfl rfl (by decide) (by decide) am_oC_ok
                            · have h := h.2 c2
                              have c3 : (h_CB_stepIf s x2 x3 x4).1 = 3 := by rcases hz with z | z | z | z <;> first | exact z | exact absurd z c0 | exact absurd z c1 | exact absurd z c2
                              refine ak_EH (as := [.int x2, .int x3, .int x4]) (rest := []) d_LH_asks_188 cw_LH_asks_188 rfl (ch_CB_stepIf hg hc) rfl rfl (by decide) sh_0 rfl (Nat.le_of_ble_eq_true rfl) (by decide) (by decide) (fun _ => ⟨211, by rw [c3]; exact hd_LH_asks_3, fun q9 => ?_⟩) (fun n => absurd n c0)
                              refine am_astoreS (lv2 := [(7, .retAddr q9), (0, .ref 0), (1, .int x1), (2, .int x2), (3, .int x3), (4, .int x4), (5, .int x5), (6, .int x6)]) d_LH_asks_211 (by decide) rfl ?_
                              refine am_ldc (v := (-9999999 : Int32)) d_LH_asks_213 aw_3_220 ?_
                              exact am_iret d_LH_asks_215 rfl rfl (by decide) (by decide) am_oC_ok
                    · have h := h.1 c
                      refine am_aload_n (j := 0) d_LH_asks_166 rfl rfl ?_
                      refine am_iload_n (j := 2) d_LH_asks_167 rfl rfl ?_
                      refine am_iload_n (j := 3) d_LH_asks_168 rfl rfl ?_
                      refine am_iload (j := 4) d_LH_asks_169 rfl ?_
                      obtain ⟨hc, h⟩ := h
                      obtain ⟨hz, h⟩ := h
                      refine am_caseN (F := am_oC) (q := (h_CB_stepRemove s x2 x3 x4).1) (c := 0) (fun c0 => ?_) (fun c0 => ?_)
                      · have h := h.1 c0
                        refine ak_EH (as := [.int x2, .int x3, .int x4]) (rest := []) d_LH_asks_171 cw_LH_asks_171 rfl (ch_CB_stepRemove hg hc) rfl rfl (by decide) sh_0 rfl (Nat.le_of_ble_eq_true rfl) (by decide) (by decide) (fun n => absurd c0 n) (fun _ => ?_)
                        refine am_goto (tgt := 200) d_LH_asks_174 (by decide) ?_
                        exact am_iret d_LH_asks_200 rfl rfl (by decide) (by decide) am_oC_ok
                      · have h := h.2 c0
                        refine am_caseN (F := am_oC) (q := (h_CB_stepRemove s x2 x3 x4).1) (c := 1) (fun c1 => ?_) (fun c1 => ?_)
                        · have h := h.1 c1
                          refine ak_EH (as := [.int x2, .int x3, .int x4]) (rest := []) d_LH_asks_171 cw_LH_asks_171 rfl (ch_CB_stepRemove hg hc) rfl rfl (by decide) sh_0 rfl (Nat.le_of_ble_eq_true rfl) (by decide) (by decide) (fun _ => ⟨201, by rw [c1]; exact hd_LH_asks_1, fun q9 => ?_⟩) (fun n => absurd n c0)
                          refine am_astoreS (lv2 := [(7, .retAddr q9), (0, .ref 0), (1, .int x1), (2, .int x2), (3, .int x3), (4, .int x4), (5, .int x5), (6, .int x6)]) d_LH_asks_201 (by decide) rfl ?_
                          refine am_ldc (v := (-9999999 : Int32)) d_LH_asks_203 aw_3_220 ?_
                          exact am_iret d_LH_asks_205 rfl rfl (by decide) (by decide) am_oC_ok
                        · have h := h.2 c1
                          refine am_caseN (F := am_oC) (q := (h_CB_stepRemove s x2 x3 x4).1) (c := 2) (fun c2 => ?_) (fun c2 => ?_)
                          · have h := h.1 c2
                            refine ak_EH (as := [.int x2, .int x3, .int x4]) (rest := []) d_LH_asks_171 cw_LH_asks_171 rfl (ch_CB_stepRemove hg hc) rfl rfl (by decide) sh_0 rfl (Nat.le_of_ble_eq_true rfl) (by decide) (by decide) (fun _ => ⟨206, by rw [c2]; exact hd_LH_asks_2, fun q9 => ?_⟩) (fun n => absurd n c0)
                            refine am_astoreS (lv2 := [(7, .retAddr q9), (0, .ref 0), (1, .int x1), (2, .int x2), (3, .int x3), (4, .int x4), (5, .int x5), (6, .int x6)]) d_LH_asks_206 (by decide) rfl ?_
                            refine am_ldc (v := (-9999999 : Int32)) d_LH_asks_208 aw_3_220 ?_
                            exact am_iret d_LH_asks_210 rfl rfl (by decide) (by decide) am_oC_ok
                          · have h := h.2 c2
                            have c3 : (h_CB_stepRemove s x2 x3 x4).1 = 3 := by rcases hz with z | z | z | z <;> first | exact z | exact absurd z c0 | exact absurd z c1 | exact absurd z c2
                            refine ak_EH (as := [.int x2, .int x3, .int x4]) (rest := []) d_LH_asks_171 cw_LH_asks_171 rfl (ch_CB_stepRemove hg hc) rfl rfl (by decide) sh_0 rfl (Nat.le_of_ble_eq_true rfl) (by decide) (by decide) (fun _ => ⟨211, by rw [c3]; exact hd_LH_asks_3, fun q9 => ?_⟩) (fun n => absurd n c0)
                            refine am_astoreS (lv2 := [(7, .retAddr q9), (0, .ref 0), (1, .int x1), (2, .int x2), (3, .int x3), (4, .int x4), (5, .int x5), (6, .int x6)]) d_LH_asks_211 (by decide) rfl ?_
                            refine am_ldc (v := (-9999999 : Int32)) d_LH_asks_213 aw_3_220 ?_
                            exact am_iret d_LH_asks_215 rfl rfl (by decide) (by decide) am_oC_ok
                  · have h := h.1 c
                    refine am_aload_n (j := 0) d_LH_asks_151 rfl rfl ?_
                    refine am_iload_n (j := 2) d_LH_asks_152 rfl rfl ?_
                    refine am_iload_n (j := 3) d_LH_asks_153 rfl rfl ?_
                    obtain ⟨hc, h⟩ := h
                    obtain ⟨hz, h⟩ := h
                    refine am_caseN (F := am_oC) (q := (h_CB_stepAdd s x2 x3).1) (c := 0) (fun c0 => ?_) (fun c0 => ?_)
                    · have h := h.1 c0
                      refine ak_EH (as := [.int x2, .int x3]) (rest := []) d_LH_asks_154 cw_LH_asks_154 rfl (ch_CB_stepAdd hg hc) rfl rfl (by decide) sh_0 rfl (Nat.le_of_ble_eq_true rfl) (by decide) (by decide) (fun n => absurd c0 n) (fun _ => ?_)
                      refine am_goto (tgt := 200) d_LH_asks_157 (by decide) ?_
                      exact am_iret d_LH_asks_200 rfl rfl (by decide) (by decide) am_oC_ok
                    · have h := h.2 c0
                      refine am_caseN (F := am_oC) (q := (h_CB_stepAdd s x2 x3).1) (c := 1) (fun c1 => ?_) (fun c1 => ?_)
                      · have h := h.1 c1
                        refine ak_EH (as := [.int x2, .int x3]) (rest := []) d_LH_asks_154 cw_LH_asks_154 rfl (ch_CB_stepAdd hg hc) rfl rfl (by decide) sh_0 rfl (Nat.le_of_ble_eq_true rfl) (by decide) (by decide) (fun _ => ⟨201, by rw [c1]; exact hd_LH_asks_1, fun q9 => ?_⟩) (fun n => absurd n c0)
                        refine am_astoreS (lv2 := [(7, .retAddr q9), (0, .ref 0), (1, .int x1), (2, .int x2), (3, .int x3), (4, .int x4), (5, .int x5), (6, .int x6)]) d_LH_asks_201 (by decide) rfl ?_
                        refine am_ldc (v := (-9999999 : Int32)) d_LH_asks_203 aw_3_220 ?_
                        exact am_iret d_LH_asks_205 rfl rfl (by decide) (by decide) am_oC_ok
                      · have h := h.2 c1
                        refine am_caseN (F := am_oC) (q := (h_CB_stepAdd s x2 x3).1) (c := 2) (fun c2 => ?_) (fun c2 => ?_)
                        · have h := h.1 c2
                          refine ak_EH (as := [.int x2, .int x3]) (rest := []) d_LH_asks_154 cw_LH_asks_154 rfl (ch_CB_stepAdd hg hc) rfl rfl (by decide) sh_0 rfl (Nat.le_of_ble_eq_true rfl) (by decide) (by decide) (fun _ => ⟨206, by rw [c2]; exact hd_LH_asks_2, fun q9 => ?_⟩) (fun n => absurd n c0)
                          refine am_astoreS (lv2 := [(7, .retAddr q9), (0, .ref 0), (1, .int x1), (2, .int x2), (3, .int x3), (4, .int x4), (5, .int x5), (6, .int x6)]) d_LH_asks_206 (by decide) rfl ?_
                          refine am_ldc (v := (-9999999 : Int32)) d_LH_asks_208 aw_3_220 ?_
                          exact am_iret d_LH_asks_210 rfl rfl (by decide) (by decide) am_oC_ok
                        · have h := h.2 c2
                          have c3 : (h_CB_stepAdd s x2 x3).1 = 3 := by rcases hz with z | z | z | z <;> first | exact z | exact absurd z c0 | exact absurd z c1 | exact absurd z c2
                          refine ak_EH (as := [.int x2, .int x3]) (rest := []) d_LH_asks_154 cw_LH_asks_154 rfl (ch_CB_stepAdd hg hc) rfl rfl (by decide) sh_0 rfl (Nat.le_of_ble_eq_true rfl) (by decide) (by decide) (fun _ => ⟨211, by rw [c3]; exact hd_LH_asks_3, fun q9 => ?_⟩) (fun n => absurd n c0)
                          refine am_astoreS (lv2 := [(7, .retAddr q9), (0, .ref 0), (1, .int x1), (2, .int x2), (3, .int x3), (4, .int x4), (5, .int x5), (6, .int x6)]) d_LH_asks_211 (by decide) rfl ?_
                          refine am_ldc (v := (-9999999 : Int32)) d_LH_asks_213 aw_3_220 ?_
                          exact am_iret d_LH_asks_215 rfl rfl (by decide) (by decide) am_oC_ok
                · have h := h.1 c
                  refine am_aload_n (j := 0) d_LH_asks_132 rfl rfl ?_
                  refine am_iload_n (j := 2) d_LH_asks_133 rfl rfl ?_
                  refine am_iload_n (j := 3) d_LH_asks_134 rfl rfl ?_
                  refine am_iload (j := 4) d_LH_asks_135 rfl ?_
                  refine am_iload (j := 5) d_LH_asks_137 rfl ?_
                  obtain ⟨hc, h⟩ := h
                  obtain ⟨hz, h⟩ := h
                  refine am_caseN (F := am_oC) (q := (h_CB_stepPut s x2 x3 x4 x5).1) (c := 0) (fun c0 => ?_) (fun c0 => ?_)
                  · have h := h.1 c0
                    refine ak_EH (as := [.int x2, .int x3, .int x4, .int x5]) (rest := []) d_LH_asks_139 cw_LH_asks_139 rfl (ch_CB_stepPut hg hc) rfl rfl (by decide) sh_0 rfl (Nat.le_of_ble_eq_true rfl) (by decide) (by decide) (fun n => absurd c0 n) (fun _ => ?_)
                    refine am_goto (tgt := 200) d_LH_asks_142 (by decide) ?_
                    exact am_iret d_LH_asks_200 rfl rfl (by decide) (by decide) am_oC_ok
                  · have h := h.2 c0
                    refine am_caseN (F := am_oC) (q := (h_CB_stepPut s x2 x3 x4 x5).1) (c := 1) (fun c1 => ?_) (fun c1 => ?_)
                    · have h := h.1 c1
                      refine ak_EH (as := [.int x2, .int x3, .int x4, .int x5]) (rest := []) d_LH_asks_139 cw_LH_asks_139 rfl (ch_CB_stepPut hg hc) rfl rfl (by decide) sh_0 rfl (Nat.le_of_ble_eq_true rfl) (by decide) (by decide) (fun _ => ⟨201, by rw [c1]; exact hd_LH_asks_1, fun q9 => ?_⟩) (fun n => absurd n c0)
                      refine am_astoreS (lv2 := [(7, .retAddr q9), (0, .ref 0), (1, .int x1), (2, .int x2), (3, .int x3), (4, .int x4), (5, .int x5), (6, .int x6)]) d_LH_asks_201 (by decide) rfl ?_
                      refine am_ldc (v := (-9999999 : Int32)) d_LH_asks_203 aw_3_220 ?_
                      exact am_iret d_LH_asks_205 rfl rfl (by decide) (by decide) am_oC_ok
                    · have h := h.2 c1
                      refine am_caseN (F := am_oC) (q := (h_CB_stepPut s x2 x3 x4 x5).1) (c := 2) (fun c2 => ?_) (fun c2 => ?_)
                      · have h := h.1 c2
                        refine ak_EH (as := [.int x2, .int x3, .int x4, .int x5]) (rest := []) d_LH_asks_139 cw_LH_asks_139 rfl (ch_CB_stepPut hg hc) rfl rfl (by decide) sh_0 rfl (Nat.le_of_ble_eq_true rfl) (by decide) (by decide) (fun _ => ⟨206, by rw [c2]; exact hd_LH_asks_2, fun q9 => ?_⟩) (fun n => absurd n c0)
                        refine am_astoreS (lv2 := [(7, .retAddr q9), (0, .ref 0), (1, .int x1), (2, .int x2), (3, .int x3), (4, .int x4), (5, .int x5), (6, .int x6)]) d_LH_asks_206 (by decide) rfl ?_
                        refine am_ldc (v := (-9999999 : Int32)) d_LH_asks_208 aw_3_220 ?_
                        exact am_iret d_LH_asks_210 rfl rfl (by decide) (by decide) am_oC_ok
                      · have h := h.2 c2
                        have c3 : (h_CB_stepPut s x2 x3 x4 x5).1 = 3 := by rcases hz with z | z | z | z <;> first | exact z | exact absurd z c0 | exact absurd z c1 | exact absurd z c2
                        refine ak_EH (as := [.int x2, .int x3, .int x4, .int x5]) (rest := []) d_LH_asks_139 cw_LH_asks_139 rfl (ch_CB_stepPut hg hc) rfl rfl (by decide) sh_0 rfl (Nat.le_of_ble_eq_true rfl) (by decide) (by decide) (fun _ => ⟨211, by rw [c3]; exact hd_LH_asks_3, fun q9 => ?_⟩) (fun n => absurd n c0)
                        refine am_astoreS (lv2 := [(7, .retAddr q9), (0, .ref 0), (1, .int x1), (2, .int x2), (3, .int x3), (4, .int x4), (5, .int x5), (6, .int x6)]) d_LH_asks_211 (by decide) rfl ?_
                        refine am_ldc (v := (-9999999 : Int32)) d_LH_asks_213 aw_3_220 ?_
                        exact am_iret d_LH_asks_215 rfl rfl (by decide) (by decide) am_oC_ok
              · have h := h.1 c
                refine am_aload_n (j := 0) d_LH_asks_105 rfl rfl ?_
                refine am_iload_n (j := 2) d_LH_asks_106 rfl rfl ?_
                refine am_iload_n (j := 3) d_LH_asks_107 rfl rfl ?_
                refine am_iload (j := 4) d_LH_asks_108 rfl ?_
                refine am_iload (j := 5) d_LH_asks_110 rfl ?_
                obtain ⟨hc, h⟩ := h
                obtain ⟨hz, h⟩ := h
                refine am_caseN (F := am_oC) (q := (h_CB_write s x2 x3 x4 x5).1) (c := 0) (fun c0 => ?_) (fun c0 => ?_)
                · have h := h.1 c0
                  refine ak_EH (as := [.int x2, .int x3, .int x4, .int x5]) (rest := []) d_LH_asks_112 cw_LH_asks_112 rfl (ch_CB_write hg hc) rfl rfl (by decide) sh_0 rfl (Nat.le_of_ble_eq_true rfl) (by decide) (by decide) (fun n => absurd c0 n) (fun _ => ?_)
                  refine ai_eq (F := am_oC) (tgt := 122) d_LH_asks_115 (by decide) (fun c => ?_) (fun c => ?_)
                  · have h := h.1 c
                    refine am_iconst (v := (0 : Int32)) d_LH_asks_122 (by decide) ?_
                    refine am_goto (tgt := 200) d_LH_asks_123 (by decide) ?_
                    exact am_iret d_LH_asks_200 rfl rfl (by decide) (by decide) am_oC_ok
                  · have h := h.2 c
                    refine am_iconst (v := (1 : Int32)) d_LH_asks_118 (by decide) ?_
                    refine am_goto (tgt := 200) d_LH_asks_119 (by decide) ?_
                    exact am_iret d_LH_asks_200 rfl rfl (by decide) (by decide) am_oC_ok
                · have h := h.2 c0
                  refine am_caseN (F := am_oC) (q := (h_CB_write s x2 x3 x4 x5).1) (c := 1) (fun c1 => ?_) (fun c1 => ?_)
                  · have h := h.1 c1
                    refine ak_EH (as := [.int x2, .int x3, .int x4, .int x5]) (rest := []) d_LH_asks_112 cw_LH_asks_112 rfl (ch_CB_write hg hc) rfl rfl (by decide) sh_0 rfl (Nat.le_of_ble_eq_true rfl) (by decide) (by decide) (fun _ => ⟨201, by rw [c1]; exact hd_LH_asks_1, fun q9 => ?_⟩) (fun n => absurd n c0)
                    refine am_astoreS (lv2 := [(7, .retAddr q9), (0, .ref 0), (1, .int x1), (2, .int x2), (3, .int x3), (4, .int x4), (5, .int x5), (6, .int x6)]) d_LH_asks_201 (by decide) rfl ?_
                    refine am_ldc (v := (-9999999 : Int32)) d_LH_asks_203 aw_3_220 ?_
                    exact am_iret d_LH_asks_205 rfl rfl (by decide) (by decide) am_oC_ok
                  · have h := h.2 c1
                    refine am_caseN (F := am_oC) (q := (h_CB_write s x2 x3 x4 x5).1) (c := 2) (fun c2 => ?_) (fun c2 => ?_)
                    · have h := h.1 c2
                      refine ak_EH (as := [.int x2, .int x3, .int x4, .int x5]) (rest := []) d_LH_asks_112 cw_LH_asks_112 rfl (ch_CB_write hg hc) rfl rfl (by decide) sh_0 rfl (Nat.le_of_ble_eq_true rfl) (by decide) (by decide) (fun _ => ⟨206, by rw [c2]; exact hd_LH_asks_2, fun q9 => ?_⟩) (fun n => absurd n c0)
                      refine am_astoreS (lv2 := [(7, .retAddr q9), (0, .ref 0), (1, .int x1), (2, .int x2), (3, .int x3), (4, .int x4), (5, .int x5), (6, .int x6)]) d_LH_asks_206 (by decide) rfl ?_
                      refine am_ldc (v := (-9999999 : Int32)) d_LH_asks_208 aw_3_220 ?_
                      exact am_iret d_LH_asks_210 rfl rfl (by decide) (by decide) am_oC_ok
                    · have h := h.2 c2
                      have c3 : (h_CB_write s x2 x3 x4 x5).1 = 3 := by rcases hz with z | z | z | z <;> first | exact z | exact absurd z c0 | exact absurd z c1 | exact absurd z c2
                      refine ak_EH (as := [.int x2, .int x3, .int x4, .int x5]) (rest := []) d_LH_asks_112 cw_LH_asks_112 rfl (ch_CB_write hg hc) rfl rfl (by decide) sh_0 rfl (Nat.le_of_ble_eq_true rfl) (by decide) (by decide) (fun _ => ⟨211, by rw [c3]; exact hd_LH_asks_3, fun q9 => ?_⟩) (fun n => absurd n c0)
                      refine am_astoreS (lv2 := [(7, .retAddr q9), (0, .ref 0), (1, .int x1), (2, .int x2), (3, .int x3), (4, .int x4), (5, .int x5), (6, .int x6)]) d_LH_asks_211 (by decide) rfl ?_
                      refine am_ldc (v := (-9999999 : Int32)) d_LH_asks_213 aw_3_220 ?_
                      exact am_iret d_LH_asks_215 rfl rfl (by decide) (by decide) am_oC_ok
            · have h := h.1 c
              refine am_aload_n (j := 0) d_LH_asks_88 rfl rfl ?_
              refine am_iload_n (j := 2) d_LH_asks_89 rfl rfl ?_
              refine am_iload_n (j := 3) d_LH_asks_90 rfl rfl ?_
              refine am_iload (j := 4) d_LH_asks_91 rfl ?_
              obtain ⟨hc, h⟩ := h
              obtain ⟨hz, h⟩ := h
              refine am_caseN (F := am_oC) (q := (f_CB_target s x2 x3 x4).1) (c := 0) (fun c0 => ?_) (fun c0 => ?_)
              · have h := h.1 c0
                refine ak_EH (as := [.int x2, .int x3, .int x4]) (rest := []) d_LH_asks_93 cw_LH_asks_93 rfl (ct_CB_target hg hc) rfl rfl (by decide) sh_0 rfl (Nat.le_of_ble_eq_true rfl) (by decide) (by decide) (fun n => absurd c0 n) (fun _ => ?_)
                refine am_goto (tgt := 200) d_LH_asks_96 (by decide) ?_
                exact am_iret d_LH_asks_200 rfl rfl (by decide) (by decide) am_oC_ok
              · have h := h.2 c0
                refine am_caseN (F := am_oC) (q := (f_CB_target s x2 x3 x4).1) (c := 1) (fun c1 => ?_) (fun c1 => ?_)
                · have h := h.1 c1
                  refine ak_EH (as := [.int x2, .int x3, .int x4]) (rest := []) d_LH_asks_93 cw_LH_asks_93 rfl (ct_CB_target hg hc) rfl rfl (by decide) sh_0 rfl (Nat.le_of_ble_eq_true rfl) (by decide) (by decide) (fun _ => ⟨201, by rw [c1]; exact hd_LH_asks_1, fun q9 => ?_⟩) (fun n => absurd n c0)
                  refine am_astoreS (lv2 := [(7, .retAddr q9), (0, .ref 0), (1, .int x1), (2, .int x2), (3, .int x3), (4, .int x4), (5, .int x5), (6, .int x6)]) d_LH_asks_201 (by decide) rfl ?_
                  refine am_ldc (v := (-9999999 : Int32)) d_LH_asks_203 aw_3_220 ?_
                  exact am_iret d_LH_asks_205 rfl rfl (by decide) (by decide) am_oC_ok
                · have h := h.2 c1
                  refine am_caseN (F := am_oC) (q := (f_CB_target s x2 x3 x4).1) (c := 2) (fun c2 => ?_) (fun c2 => ?_)
                  · have h := h.1 c2
                    refine ak_EH (as := [.int x2, .int x3, .int x4]) (rest := []) d_LH_asks_93 cw_LH_asks_93 rfl (ct_CB_target hg hc) rfl rfl (by decide) sh_0 rfl (Nat.le_of_ble_eq_true rfl) (by decide) (by decide) (fun _ => ⟨206, by rw [c2]; exact hd_LH_asks_2, fun q9 => ?_⟩) (fun n => absurd n c0)
                    refine am_astoreS (lv2 := [(7, .retAddr q9), (0, .ref 0), (1, .int x1), (2, .int x2), (3, .int x3), (4, .int x4), (5, .int x5), (6, .int x6)]) d_LH_asks_206 (by decide) rfl ?_
                    refine am_ldc (v := (-9999999 : Int32)) d_LH_asks_208 aw_3_220 ?_
                    exact am_iret d_LH_asks_210 rfl rfl (by decide) (by decide) am_oC_ok
                  · have h := h.2 c2
                    have c3 : (f_CB_target s x2 x3 x4).1 = 3 := by rcases hz with z | z | z | z <;> first | exact z | exact absurd z c0 | exact absurd z c1 | exact absurd z c2
                    refine ak_EH (as := [.int x2, .int x3, .int x4]) (rest := []) d_LH_asks_93 cw_LH_asks_93 rfl (ct_CB_target hg hc) rfl rfl (by decide) sh_0 rfl (Nat.le_of_ble_eq_true rfl) (by decide) (by decide) (fun _ => ⟨211, by rw [c3]; exact hd_LH_asks_3, fun q9 => ?_⟩) (fun n => absurd n c0)
                    refine am_astoreS (lv2 := [(7, .retAddr q9), (0, .ref 0), (1, .int x1), (2, .int x2), (3, .int x3), (4, .int x4), (5, .int x5), (6, .int x6)]) d_LH_asks_211 (by decide) rfl ?_
                    refine am_ldc (v := (-9999999 : Int32)) d_LH_asks_213 aw_3_220 ?_
                    exact am_iret d_LH_asks_215 rfl rfl (by decide) (by decide) am_oC_ok
          · have h := h.1 c
            refine am_aload_n (j := 0) d_LH_asks_72 rfl rfl ?_
            refine am_iload_n (j := 2) d_LH_asks_73 rfl rfl ?_
            refine am_iload_n (j := 3) d_LH_asks_74 rfl rfl ?_
            refine am_iload (j := 4) d_LH_asks_75 rfl ?_
            obtain ⟨hc, h⟩ := h
            obtain ⟨hz, h⟩ := h
            refine am_caseN (F := am_oC) (q := (f_CB_answer s x2 x3 x4).1) (c := 0) (fun c0 => ?_) (fun c0 => ?_)
            · have h := h.1 c0
              refine ak_EH (as := [.int x2, .int x3, .int x4]) (rest := []) d_LH_asks_77 cw_LH_asks_77 rfl (ct_CB_answer hg hc) rfl rfl (by decide) sh_0 rfl (Nat.le_of_ble_eq_true rfl) (by decide) (by decide) (fun n => absurd c0 n) (fun _ => ?_)
              refine am_goto (tgt := 200) d_LH_asks_80 (by decide) ?_
              exact am_iret d_LH_asks_200 rfl rfl (by decide) (by decide) am_oC_ok
            · have h := h.2 c0
              refine am_caseN (F := am_oC) (q := (f_CB_answer s x2 x3 x4).1) (c := 1) (fun c1 => ?_) (fun c1 => ?_)
              · have h := h.1 c1
                refine ak_EH (as := [.int x2, .int x3, .int x4]) (rest := []) d_LH_asks_77 cw_LH_asks_77 rfl (ct_CB_answer hg hc) rfl rfl (by decide) sh_0 rfl (Nat.le_of_ble_eq_true rfl) (by decide) (by decide) (fun _ => ⟨201, by rw [c1]; exact hd_LH_asks_1, fun q9 => ?_⟩) (fun n => absurd n c0)
                refine am_astoreS (lv2 := [(7, .retAddr q9), (0, .ref 0), (1, .int x1), (2, .int x2), (3, .int x3), (4, .int x4), (5, .int x5), (6, .int x6)]) d_LH_asks_201 (by decide) rfl ?_
                refine am_ldc (v := (-9999999 : Int32)) d_LH_asks_203 aw_3_220 ?_
                exact am_iret d_LH_asks_205 rfl rfl (by decide) (by decide) am_oC_ok
              · have h := h.2 c1
                refine am_caseN (F := am_oC) (q := (f_CB_answer s x2 x3 x4).1) (c := 2) (fun c2 => ?_) (fun c2 => ?_)
                · have h := h.1 c2
                  refine ak_EH (as := [.int x2, .int x3, .int x4]) (rest := []) d_LH_asks_77 cw_LH_asks_77 rfl (ct_CB_answer hg hc) rfl rfl (by decide) sh_0 rfl (Nat.le_of_ble_eq_true rfl) (by decide) (by decide) (fun _ => ⟨206, by rw [c2]; exact hd_LH_asks_2, fun q9 => ?_⟩) (fun n => absurd n c0)
                  refine am_astoreS (lv2 := [(7, .retAddr q9), (0, .ref 0), (1, .int x1), (2, .int x2), (3, .int x3), (4, .int x4), (5, .int x5), (6, .int x6)]) d_LH_asks_206 (by decide) rfl ?_
                  refine am_ldc (v := (-9999999 : Int32)) d_LH_asks_208 aw_3_220 ?_
                  exact am_iret d_LH_asks_210 rfl rfl (by decide) (by decide) am_oC_ok
                · have h := h.2 c2
                  have c3 : (f_CB_answer s x2 x3 x4).1 = 3 := by rcases hz with z | z | z | z <;> first | exact z | exact absurd z c0 | exact absurd z c1 | exact absurd z c2
                  refine ak_EH (as := [.int x2, .int x3, .int x4]) (rest := []) d_LH_asks_77 cw_LH_asks_77 rfl (ct_CB_answer hg hc) rfl rfl (by decide) sh_0 rfl (Nat.le_of_ble_eq_true rfl) (by decide) (by decide) (fun _ => ⟨211, by rw [c3]; exact hd_LH_asks_3, fun q9 => ?_⟩) (fun n => absurd n c0)
                  refine am_astoreS (lv2 := [(7, .retAddr q9), (0, .ref 0), (1, .int x1), (2, .int x2), (3, .int x3), (4, .int x4), (5, .int x5), (6, .int x6)]) d_LH_asks_211 (by decide) rfl ?_
                  refine am_ldc (v := (-9999999 : Int32)) d_LH_asks_213 aw_3_220 ?_
                  exact am_iret d_LH_asks_215 rfl rfl (by decide) (by decide) am_oC_ok
        · have h := h.1 c
          refine am_aload_n (j := 0) d_LH_asks_54 rfl rfl ?_
          refine am_iload_n (j := 2) d_LH_asks_55 rfl rfl ?_
          refine am_iload_n (j := 3) d_LH_asks_56 rfl rfl ?_
          refine am_iload (j := 4) d_LH_asks_57 rfl ?_
          refine am_iload (j := 5) d_LH_asks_59 rfl ?_
          obtain ⟨hc, h⟩ := h
          obtain ⟨hz, h⟩ := h
          refine am_caseN (F := am_oC) (q := (h_CB_askCross s x2 x3 x4 x5).1) (c := 0) (fun c0 => ?_) (fun c0 => ?_)
          · have h := h.1 c0
            refine ak_EH (as := [.int x2, .int x3, .int x4, .int x5]) (rest := []) d_LH_asks_61 cw_LH_asks_61 rfl (ch_CB_askCross hg hc) rfl rfl (by decide) sh_0 rfl (Nat.le_of_ble_eq_true rfl) (by decide) (by decide) (fun n => absurd c0 n) (fun _ => ?_)
            refine am_goto (tgt := 200) d_LH_asks_64 (by decide) ?_
            exact am_iret d_LH_asks_200 rfl rfl (by decide) (by decide) am_oC_ok
          · have h := h.2 c0
            refine am_caseN (F := am_oC) (q := (h_CB_askCross s x2 x3 x4 x5).1) (c := 1) (fun c1 => ?_) (fun c1 => ?_)
            · have h := h.1 c1
              refine ak_EH (as := [.int x2, .int x3, .int x4, .int x5]) (rest := []) d_LH_asks_61 cw_LH_asks_61 rfl (ch_CB_askCross hg hc) rfl rfl (by decide) sh_0 rfl (Nat.le_of_ble_eq_true rfl) (by decide) (by decide) (fun _ => ⟨201, by rw [c1]; exact hd_LH_asks_1, fun q9 => ?_⟩) (fun n => absurd n c0)
              refine am_astoreS (lv2 := [(7, .retAddr q9), (0, .ref 0), (1, .int x1), (2, .int x2), (3, .int x3), (4, .int x4), (5, .int x5), (6, .int x6)]) d_LH_asks_201 (by decide) rfl ?_
              refine am_ldc (v := (-9999999 : Int32)) d_LH_asks_203 aw_3_220 ?_
              exact am_iret d_LH_asks_205 rfl rfl (by decide) (by decide) am_oC_ok
            · have h := h.2 c1
              refine am_caseN (F := am_oC) (q := (h_CB_askCross s x2 x3 x4 x5).1) (c := 2) (fun c2 => ?_) (fun c2 => ?_)
              · have h := h.1 c2
                refine ak_EH (as := [.int x2, .int x3, .int x4, .int x5]) (rest := []) d_LH_asks_61 cw_LH_asks_61 rfl (ch_CB_askCross hg hc) rfl rfl (by decide) sh_0 rfl (Nat.le_of_ble_eq_true rfl) (by decide) (by decide) (fun _ => ⟨206, by rw [c2]; exact hd_LH_asks_2, fun q9 => ?_⟩) (fun n => absurd n c0)
                refine am_astoreS (lv2 := [(7, .retAddr q9), (0, .ref 0), (1, .int x1), (2, .int x2), (3, .int x3), (4, .int x4), (5, .int x5), (6, .int x6)]) d_LH_asks_206 (by decide) rfl ?_
                refine am_ldc (v := (-9999999 : Int32)) d_LH_asks_208 aw_3_220 ?_
                exact am_iret d_LH_asks_210 rfl rfl (by decide) (by decide) am_oC_ok
              · have h := h.2 c2
                have c3 : (h_CB_askCross s x2 x3 x4 x5).1 = 3 := by rcases hz with z | z | z | z <;> first | exact z | exact absurd z c0 | exact absurd z c1 | exact absurd z c2
                refine ak_EH (as := [.int x2, .int x3, .int x4, .int x5]) (rest := []) d_LH_asks_61 cw_LH_asks_61 rfl (ch_CB_askCross hg hc) rfl rfl (by decide) sh_0 rfl (Nat.le_of_ble_eq_true rfl) (by decide) (by decide) (fun _ => ⟨211, by rw [c3]; exact hd_LH_asks_3, fun q9 => ?_⟩) (fun n => absurd n c0)
                refine am_astoreS (lv2 := [(7, .retAddr q9), (0, .ref 0), (1, .int x1), (2, .int x2), (3, .int x3), (4, .int x4), (5, .int x5), (6, .int x6)]) d_LH_asks_211 (by decide) rfl ?_
                refine am_ldc (v := (-9999999 : Int32)) d_LH_asks_213 aw_3_220 ?_
                exact am_iret d_LH_asks_215 rfl rfl (by decide) (by decide) am_oC_ok
      · have h := h.1 c
        refine am_aload_n (j := 0) d_LH_asks_38 rfl rfl ?_
        refine am_iload_n (j := 2) d_LH_asks_39 rfl rfl ?_
        refine am_iload_n (j := 3) d_LH_asks_40 rfl rfl ?_
        refine am_iload (j := 4) d_LH_asks_41 rfl ?_
        obtain ⟨hc, h⟩ := h
        obtain ⟨hz, h⟩ := h
        refine am_caseN (F := am_oC) (q := (h_CB_askGroups s x2 x3 x4).1) (c := 0) (fun c0 => ?_) (fun c0 => ?_)
        · have h := h.1 c0
          refine ak_EH (as := [.int x2, .int x3, .int x4]) (rest := []) d_LH_asks_43 cw_LH_asks_43 rfl (ch_CB_askGroups hg hc) rfl rfl (by decide) sh_0 rfl (Nat.le_of_ble_eq_true rfl) (by decide) (by decide) (fun n => absurd c0 n) (fun _ => ?_)
          refine am_goto (tgt := 200) d_LH_asks_46 (by decide) ?_
          exact am_iret d_LH_asks_200 rfl rfl (by decide) (by decide) am_oC_ok
        · have h := h.2 c0
          refine am_caseN (F := am_oC) (q := (h_CB_askGroups s x2 x3 x4).1) (c := 1) (fun c1 => ?_) (fun c1 => ?_)
          · have h := h.1 c1
            refine ak_EH (as := [.int x2, .int x3, .int x4]) (rest := []) d_LH_asks_43 cw_LH_asks_43 rfl (ch_CB_askGroups hg hc) rfl rfl (by decide) sh_0 rfl (Nat.le_of_ble_eq_true rfl) (by decide) (by decide) (fun _ => ⟨201, by rw [c1]; exact hd_LH_asks_1, fun q9 => ?_⟩) (fun n => absurd n c0)
            refine am_astoreS (lv2 := [(7, .retAddr q9), (0, .ref 0), (1, .int x1), (2, .int x2), (3, .int x3), (4, .int x4), (5, .int x5), (6, .int x6)]) d_LH_asks_201 (by decide) rfl ?_
            refine am_ldc (v := (-9999999 : Int32)) d_LH_asks_203 aw_3_220 ?_
            exact am_iret d_LH_asks_205 rfl rfl (by decide) (by decide) am_oC_ok
          · have h := h.2 c1
            refine am_caseN (F := am_oC) (q := (h_CB_askGroups s x2 x3 x4).1) (c := 2) (fun c2 => ?_) (fun c2 => ?_)
            · have h := h.1 c2
              refine ak_EH (as := [.int x2, .int x3, .int x4]) (rest := []) d_LH_asks_43 cw_LH_asks_43 rfl (ch_CB_askGroups hg hc) rfl rfl (by decide) sh_0 rfl (Nat.le_of_ble_eq_true rfl) (by decide) (by decide) (fun _ => ⟨206, by rw [c2]; exact hd_LH_asks_2, fun q9 => ?_⟩) (fun n => absurd n c0)
              refine am_astoreS (lv2 := [(7, .retAddr q9), (0, .ref 0), (1, .int x1), (2, .int x2), (3, .int x3), (4, .int x4), (5, .int x5), (6, .int x6)]) d_LH_asks_206 (by decide) rfl ?_
              refine am_ldc (v := (-9999999 : Int32)) d_LH_asks_208 aw_3_220 ?_
              exact am_iret d_LH_asks_210 rfl rfl (by decide) (by decide) am_oC_ok
            · have h := h.2 c2
              have c3 : (h_CB_askGroups s x2 x3 x4).1 = 3 := by rcases hz with z | z | z | z <;> first | exact z | exact absurd z c0 | exact absurd z c1 | exact absurd z c2
              refine ak_EH (as := [.int x2, .int x3, .int x4]) (rest := []) d_LH_asks_43 cw_LH_asks_43 rfl (ch_CB_askGroups hg hc) rfl rfl (by decide) sh_0 rfl (Nat.le_of_ble_eq_true rfl) (by decide) (by decide) (fun _ => ⟨211, by rw [c3]; exact hd_LH_asks_3, fun q9 => ?_⟩) (fun n => absurd n c0)
              refine am_astoreS (lv2 := [(7, .retAddr q9), (0, .ref 0), (1, .int x1), (2, .int x2), (3, .int x3), (4, .int x4), (5, .int x5), (6, .int x6)]) d_LH_asks_211 (by decide) rfl ?_
              refine am_ldc (v := (-9999999 : Int32)) d_LH_asks_213 aw_3_220 ?_
              exact am_iret d_LH_asks_215 rfl rfl (by decide) (by decide) am_oC_ok
    · have h := h.1 c
      refine am_aload_n (j := 0) d_LH_asks_18 rfl rfl ?_
      refine am_iload_n (j := 2) d_LH_asks_19 rfl rfl ?_
      refine am_iload_n (j := 3) d_LH_asks_20 rfl rfl ?_
      refine am_iload (j := 4) d_LH_asks_21 rfl ?_
      refine am_iload (j := 5) d_LH_asks_23 rfl ?_
      refine am_iload (j := 6) d_LH_asks_25 rfl ?_
      obtain ⟨hc, h⟩ := h
      obtain ⟨hz, h⟩ := h
      refine am_caseN (F := am_oC) (q := (h_CB_condition s x2 x3 x4 x5 x6).1) (c := 0) (fun c0 => ?_) (fun c0 => ?_)
      · have h := h.1 c0
        refine ak_EH (as := [.int x2, .int x3, .int x4, .int x5, .int x6]) (rest := []) d_LH_asks_27 cw_LH_asks_27 rfl (ch_CB_condition hg hc) rfl rfl (by decide) sh_0 rfl (Nat.le_of_ble_eq_true rfl) (by decide) (by decide) (fun n => absurd c0 n) (fun _ => ?_)
        refine am_goto (tgt := 200) d_LH_asks_30 (by decide) ?_
        exact am_iret d_LH_asks_200 rfl rfl (by decide) (by decide) am_oC_ok
      · have h := h.2 c0
        refine am_caseN (F := am_oC) (q := (h_CB_condition s x2 x3 x4 x5 x6).1) (c := 1) (fun c1 => ?_) (fun c1 => ?_)
        · have h := h.1 c1
          refine ak_EH (as := [.int x2, .int x3, .int x4, .int x5, .int x6]) (rest := []) d_LH_asks_27 cw_LH_asks_27 rfl (ch_CB_condition hg hc) rfl rfl (by decide) sh_0 rfl (Nat.le_of_ble_eq_true rfl) (by decide) (by decide) (fun _ => ⟨201, by rw [c1]; exact hd_LH_asks_1, fun q9 => ?_⟩) (fun n => absurd n c0)
          refine am_astoreS (lv2 := [(7, .retAddr q9), (0, .ref 0), (1, .int x1), (2, .int x2), (3, .int x3), (4, .int x4), (5, .int x5), (6, .int x6)]) d_LH_asks_201 (by decide) rfl ?_
          refine am_ldc (v := (-9999999 : Int32)) d_LH_asks_203 aw_3_220 ?_
          exact am_iret d_LH_asks_205 rfl rfl (by decide) (by decide) am_oC_ok
        · have h := h.2 c1
          refine am_caseN (F := am_oC) (q := (h_CB_condition s x2 x3 x4 x5 x6).1) (c := 2) (fun c2 => ?_) (fun c2 => ?_)
          · have h := h.1 c2
            refine ak_EH (as := [.int x2, .int x3, .int x4, .int x5, .int x6]) (rest := []) d_LH_asks_27 cw_LH_asks_27 rfl (ch_CB_condition hg hc) rfl rfl (by decide) sh_0 rfl (Nat.le_of_ble_eq_true rfl) (by decide) (by decide) (fun _ => ⟨206, by rw [c2]; exact hd_LH_asks_2, fun q9 => ?_⟩) (fun n => absurd n c0)
            refine am_astoreS (lv2 := [(7, .retAddr q9), (0, .ref 0), (1, .int x1), (2, .int x2), (3, .int x3), (4, .int x4), (5, .int x5), (6, .int x6)]) d_LH_asks_206 (by decide) rfl ?_
            refine am_ldc (v := (-9999999 : Int32)) d_LH_asks_208 aw_3_220 ?_
            exact am_iret d_LH_asks_210 rfl rfl (by decide) (by decide) am_oC_ok
          · have h := h.2 c2
            have c3 : (h_CB_condition s x2 x3 x4 x5 x6).1 = 3 := by rcases hz with z | z | z | z <;> first | exact z | exact absurd z c0 | exact absurd z c1 | exact absurd z c2
            refine ak_EH (as := [.int x2, .int x3, .int x4, .int x5, .int x6]) (rest := []) d_LH_asks_27 cw_LH_asks_27 rfl (ch_CB_condition hg hc) rfl rfl (by decide) sh_0 rfl (Nat.le_of_ble_eq_true rfl) (by decide) (by decide) (fun _ => ⟨211, by rw [c3]; exact hd_LH_asks_3, fun q9 => ?_⟩) (fun n => absurd n c0)
            refine am_astoreS (lv2 := [(7, .retAddr q9), (0, .ref 0), (1, .int x1), (2, .int x2), (3, .int x3), (4, .int x4), (5, .int x5), (6, .int x6)]) d_LH_asks_211 (by decide) rfl ?_
            refine am_ldc (v := (-9999999 : Int32)) d_LH_asks_213 aw_3_220 ?_
            exact am_iret d_LH_asks_215 rfl rfl (by decide) (by decide) am_oC_ok
  · have h := h.1 c
    refine am_aload_n (j := 0) d_LH_asks_4 rfl rfl ?_
    refine am_iload_n (j := 2) d_LH_asks_5 rfl rfl ?_
    refine am_iload_n (j := 3) d_LH_asks_6 rfl rfl ?_
    obtain ⟨hc, h⟩ := h
    obtain ⟨hz, h⟩ := h
    refine am_caseN (F := am_oC) (q := (h_CB_ask s x2 x3).1) (c := 0) (fun c0 => ?_) (fun c0 => ?_)
    · have h := h.1 c0
      refine ak_EH (as := [.int x2, .int x3]) (rest := []) d_LH_asks_7 cw_LH_asks_7 rfl (ch_CB_ask hg hc) rfl rfl (by decide) sh_0 rfl (Nat.le_of_ble_eq_true rfl) (by decide) (by decide) (fun n => absurd c0 n) (fun _ => ?_)
      refine am_goto (tgt := 200) d_LH_asks_10 (by decide) ?_
      exact am_iret d_LH_asks_200 rfl rfl (by decide) (by decide) am_oC_ok
    · have h := h.2 c0
      refine am_caseN (F := am_oC) (q := (h_CB_ask s x2 x3).1) (c := 1) (fun c1 => ?_) (fun c1 => ?_)
      · have h := h.1 c1
        refine ak_EH (as := [.int x2, .int x3]) (rest := []) d_LH_asks_7 cw_LH_asks_7 rfl (ch_CB_ask hg hc) rfl rfl (by decide) sh_0 rfl (Nat.le_of_ble_eq_true rfl) (by decide) (by decide) (fun _ => ⟨201, by rw [c1]; exact hd_LH_asks_1, fun q9 => ?_⟩) (fun n => absurd n c0)
        refine am_astoreS (lv2 := [(7, .retAddr q9), (0, .ref 0), (1, .int x1), (2, .int x2), (3, .int x3), (4, .int x4), (5, .int x5), (6, .int x6)]) d_LH_asks_201 (by decide) rfl ?_
        refine am_ldc (v := (-9999999 : Int32)) d_LH_asks_203 aw_3_220 ?_
        exact am_iret d_LH_asks_205 rfl rfl (by decide) (by decide) am_oC_ok
      · have h := h.2 c1
        refine am_caseN (F := am_oC) (q := (h_CB_ask s x2 x3).1) (c := 2) (fun c2 => ?_) (fun c2 => ?_)
        · have h := h.1 c2
          refine ak_EH (as := [.int x2, .int x3]) (rest := []) d_LH_asks_7 cw_LH_asks_7 rfl (ch_CB_ask hg hc) rfl rfl (by decide) sh_0 rfl (Nat.le_of_ble_eq_true rfl) (by decide) (by decide) (fun _ => ⟨206, by rw [c2]; exact hd_LH_asks_2, fun q9 => ?_⟩) (fun n => absurd n c0)
          refine am_astoreS (lv2 := [(7, .retAddr q9), (0, .ref 0), (1, .int x1), (2, .int x2), (3, .int x3), (4, .int x4), (5, .int x5), (6, .int x6)]) d_LH_asks_206 (by decide) rfl ?_
          refine am_ldc (v := (-9999999 : Int32)) d_LH_asks_208 aw_3_220 ?_
          exact am_iret d_LH_asks_210 rfl rfl (by decide) (by decide) am_oC_ok
        · have h := h.2 c2
          have c3 : (h_CB_ask s x2 x3).1 = 3 := by rcases hz with z | z | z | z <;> first | exact z | exact absurd z c0 | exact absurd z c1 | exact absurd z c2
          refine ak_EH (as := [.int x2, .int x3]) (rest := []) d_LH_asks_7 cw_LH_asks_7 rfl (ch_CB_ask hg hc) rfl rfl (by decide) sh_0 rfl (Nat.le_of_ble_eq_true rfl) (by decide) (by decide) (fun _ => ⟨211, by rw [c3]; exact hd_LH_asks_3, fun q9 => ?_⟩) (fun n => absurd n c0)
          refine am_astoreS (lv2 := [(7, .retAddr q9), (0, .ref 0), (1, .int x1), (2, .int x2), (3, .int x3), (4, .int x4), (5, .int x5), (6, .int x6)]) d_LH_asks_211 (by decide) rfl ?_
          refine am_ldc (v := (-9999999 : Int32)) d_LH_asks_213 aw_3_220 ?_
          exact am_iret d_LH_asks_215 rfl rfl (by decide) (by decide) am_oC_ok
theorem ct_LH_asks {l : Launch} {g : am_Gl} (hg : g.2.2.2.1 = true) {s : am_M} {x1 : Int32} {x2 : Int32} {x3 : Int32} {x4 : Int32} {x5 : Int32} {x6 : Int32} (h : p_LH_asks s x1 x2 x3 x4 x5 x6) : AC l g m_LH_asks 207 s [.ref 0, .int x1, .int x2, .int x3, .int x4, .int x5, .int x6] (am_oC (f_LH_asks s x1 x2 x3 x4 x5 x6)) := am_enterH ok_LH_asks rfl rfl (Nat.le_of_ble_eq_true rfl) rfl (fun ad0 => w_LH_asks hg h)
theorem cw_LH_many_14 : am_cv m_LH_many m_CB_columns 149 1 := ⟨⟨ok_CB_columns, rfl, by decide +kernel, by decide, by decide⟩, aw_5_118, aw_5_119, aw_5_120⟩
theorem cw_LH_many_6 : am_cv m_LH_many m_CB_answers 146 1 := ⟨⟨ok_CB_answers, rfl, by decide +kernel, by decide, by decide⟩, aw_5_114, aw_5_115, aw_5_116⟩
theorem hd_LH_many_1 : am_hd m_LH_many 14 (am_exn 1) 18 := ⟨[], ⟨0, 17, 18, 55⟩, [], rfl, by decide, rfl, by decide, aw_1_196, by decide +kernel, fun z h => absurd h List.not_mem_nil⟩
theorem hd_LH_many_1 : am_hd m_LH_many 6 (am_exn 1) 18 := ⟨[], ⟨0, 17, 18, 55⟩, [], rfl, by decide, rfl, by decide, aw_1_196, by decide +kernel, fun z h => absurd h List.not_mem_nil⟩
def f_LH_many  (s : am_M) (x1 : Int32) (x2 : Int32) : Int32 × am_M := (if x1 = 0 then (if (f_CB_answers s x2).1 = 0 then ((f_CB_answers s x2).2.1, (f_CB_answers s x2).2.2) else ((-9999999 : Int32), (f_CB_answers s x2).2.2)) else (if (f_CB_columns s x2).1 = 0 then ((f_CB_columns s x2).2.1, (f_CB_columns s x2).2.2) else ((-9999999 : Int32), (f_CB_columns s x2).2.2)))
def p_LH_many  (s : am_M) (x1 : Int32) (x2 : Int32) : Prop := ((x1 = 0) → p_CB_answers s x2 ∧ (((f_CB_answers s x2).1 = 0 ∨ (f_CB_answers s x2).1 = 1) ∧ ((((f_CB_answers s x2).1 = 0) → True) ∧ (¬ ((f_CB_answers s x2).1 = 0) → True)))) ∧ (¬ (x1 = 0) → p_CB_columns s x2 ∧ (((f_CB_columns s x2).1 = 0 ∨ (f_CB_columns s x2).1 = 1) ∧ ((((f_CB_columns s x2).1 = 0) → True) ∧ (¬ ((f_CB_columns s x2).1 = 0) → True))))
set_option maxRecDepth 8000 in
theorem w_LH_many {l : Launch} {g : am_Gl} (hg : g.2.2.2.1 = true) {ad0 : Nat → Nat} {s : am_M} {x1 : Int32} {x2 : Int32} (h : p_LH_many s x1 x2) : AW l g m_LH_many 207 ad0 (am_oC (f_LH_many s x1 x2)) 0 0 207 s 0 [(0, .ref 0), (1, .int x1), (2, .int x2)] [] := by
  refine am_iload_n (j := 1) d_LH_many_0 rfl rfl ?_
  refine ai_ne (F := am_oC) (tgt := 12) d_LH_many_1 (by decide) (fun c => ?_) (fun c => ?_)
  · have h := h.2 c
    refine am_aload_n (j := 0) d_LH_many_12 rfl rfl ?_
    refine am_iload_n (j := 2) d_LH_many_13 rfl rfl ?_
    obtain ⟨hc, h⟩ := h
    obtain ⟨hz, h⟩ := h
    refine am_caseN (F := am_oC) (q := (f_CB_columns s x2).1) (c := 0) (fun c0 => ?_) (fun c0 => ?_)
    · have h := h.1 c0
      refine ak_EH (as := [.int x2]) (rest := []) d_LH_many_14 cw_LH_many_14 rfl (ct_CB_columns hg hc) rfl rfl (by decide) sh_0 rfl (Nat.le_of_ble_eq_true rfl) (by decide) (by decide) (fun n => absurd c0 n) (fun _ => ?_)
      exact am_iret d_LH_many_17 rfl rfl (by decide) (by decide) am_oC_ok
    · have h := h.2 c0
      have c1 : (f_CB_columns s x2).1 = 1 := by rcases hz with z | z <;> first | exact z | exact absurd z c0
      refine ak_EH (as := [.int x2]) (rest := []) d_LH_many_14 cw_LH_many_14 rfl (ct_CB_columns hg hc) rfl rfl (by decide) sh_0 rfl (Nat.le_of_ble_eq_true rfl) (by decide) (by decide) (fun _ => ⟨18, by rw [c1]; exact hd_LH_many_1, fun q9 => ?_⟩) (fun n => absurd n c0)
      refine am_astoreS_n (lv2 := [(3, .retAddr q9), (0, .ref 0), (1, .int x1), (2, .int x2)]) d_LH_many_18 rfl (by decide) rfl ?_
      refine am_ldc (v := (-9999999 : Int32)) d_LH_many_19 aw_3_220 ?_
      exact am_iret d_LH_many_21 rfl rfl (by decide) (by decide) am_oC_ok
  · have h := h.1 c
    refine am_aload_n (j := 0) d_LH_many_4 rfl rfl ?_
    refine am_iload_n (j := 2) d_LH_many_5 rfl rfl ?_
    obtain ⟨hc, h⟩ := h
    obtain ⟨hz, h⟩ := h
    refine am_caseN (F := am_oC) (q := (f_CB_answers s x2).1) (c := 0) (fun c0 => ?_) (fun c0 => ?_)
    · have h := h.1 c0
      refine ak_EH (as := [.int x2]) (rest := []) d_LH_many_6 cw_LH_many_6 rfl (ct_CB_answers hg hc) rfl rfl (by decide) sh_0 rfl (Nat.le_of_ble_eq_true rfl) (by decide) (by decide) (fun n => absurd c0 n) (fun _ => ?_)
      refine am_goto (tgt := 17) d_LH_many_9 (by decide) ?_
      exact am_iret d_LH_many_17 rfl rfl (by decide) (by decide) am_oC_ok
    · have h := h.2 c0
      have c1 : (f_CB_answers s x2).1 = 1 := by rcases hz with z | z <;> first | exact z | exact absurd z c0
      refine ak_EH (as := [.int x2]) (rest := []) d_LH_many_6 cw_LH_many_6 rfl (ct_CB_answers hg hc) rfl rfl (by decide) sh_0 rfl (Nat.le_of_ble_eq_true rfl) (by decide) (by decide) (fun _ => ⟨18, by rw [c1]; exact hd_LH_many_1, fun q9 => ?_⟩) (fun n => absurd n c0)
      refine am_astoreS_n (lv2 := [(3, .retAddr q9), (0, .ref 0), (1, .int x1), (2, .int x2)]) d_LH_many_18 rfl (by decide) rfl ?_
      refine am_ldc (v := (-9999999 : Int32)) d_LH_many_19 aw_3_220 ?_
      exact am_iret d_LH_many_21 rfl rfl (by decide) (by decide) am_oC_ok
theorem ct_LH_many {l : Launch} {g : am_Gl} (hg : g.2.2.2.1 = true) {s : am_M} {x1 : Int32} {x2 : Int32} (h : p_LH_many s x1 x2) : AC l g m_LH_many 207 s [.ref 0, .int x1, .int x2] (am_oC (f_LH_many s x1 x2)) := am_enterH ok_LH_many rfl rfl (Nat.le_of_ble_eq_true rfl) rfl (fun ad0 => w_LH_many hg h)
theorem cw_LH_rows_2 : am_cv m_LH_rows m_CB_rows 152 1 := ⟨⟨ok_CB_rows, rfl, by decide +kernel, by decide, by decide⟩, aw_5_102, aw_5_103, aw_5_104⟩
theorem hd_LH_rows_1 : am_hd m_LH_rows 2 (am_exn 1) 6 := ⟨[], ⟨0, 5, 6, 55⟩, [], rfl, by decide, rfl, by decide, aw_1_196, by decide +kernel, fun z h => absurd h List.not_mem_nil⟩
def f_LH_rows  (s : am_M) (x1 : Int32) : Int32 := (if (f_CB_rows s x1).1 = 0 then (f_CB_rows s x1).2.1 else (-9999999 : Int32))
def p_LH_rows  (s : am_M) (x1 : Int32) : Prop := p_CB_rows s x1 ∧ (((f_CB_rows s x1).1 = 0 ∨ (f_CB_rows s x1).1 = 1) ∧ ((((f_CB_rows s x1).1 = 0) → True) ∧ (¬ ((f_CB_rows s x1).1 = 0) → True)))
set_option maxRecDepth 8000 in
theorem w_LH_rows {l : Launch} {g : am_Gl} (hg : g.2.2.2.1 = true) {ad0 : Nat → Nat} {s : am_M} {x1 : Int32} (h : p_LH_rows s x1) : AW l g m_LH_rows 207 ad0 ((am_oI s) (f_LH_rows s x1)) 0 0 207 s 0 [(0, .ref 0), (1, .int x1)] [] := by
  refine am_aload_n (j := 0) d_LH_rows_0 rfl rfl ?_
  refine am_iload_n (j := 1) d_LH_rows_1 rfl rfl ?_
  obtain ⟨hc, h⟩ := h
  obtain ⟨hz, h⟩ := h
  refine am_caseN (F := (am_oI s)) (q := (f_CB_rows s x1).1) (c := 0) (fun c0 => ?_) (fun c0 => ?_)
  · have h := h.1 c0
    refine ak_EH (as := [.int x1]) (rest := []) d_LH_rows_2 cw_LH_rows_2 rfl (ct_CB_rows hg hc) rfl rfl (by decide) sh_0 rfl (Nat.le_of_ble_eq_true rfl) (by decide) (by decide) (fun n => absurd c0 n) (fun _ => ?_)
    exact am_iret d_LH_rows_5 rfl rfl (by decide) (by decide) am_oI_ok
  · have h := h.2 c0
    have c1 : (f_CB_rows s x1).1 = 1 := by rcases hz with z | z <;> first | exact z | exact absurd z c0
    refine ak_EH (as := [.int x1]) (rest := []) d_LH_rows_2 cw_LH_rows_2 rfl (ct_CB_rows hg hc) rfl rfl (by decide) sh_0 rfl (Nat.le_of_ble_eq_true rfl) (by decide) (by decide) (fun _ => ⟨6, by rw [c1]; exact hd_LH_rows_1, fun q9 => ?_⟩) (fun n => absurd n c0)
    refine am_astoreS_n (lv2 := [(2, .retAddr q9), (0, .ref 0), (1, .int x1)]) d_LH_rows_6 rfl (by decide) rfl ?_
    refine am_ldc (v := (-9999999 : Int32)) d_LH_rows_7 aw_3_220 ?_
    exact am_iret d_LH_rows_9 rfl rfl (by decide) (by decide) am_oI_ok
theorem ct_LH_rows {l : Launch} {g : am_Gl} (hg : g.2.2.2.1 = true) {s : am_M} {x1 : Int32} (h : p_LH_rows s x1) : AC l g m_LH_rows 207 s [.ref 0, .int x1] ((am_oI s) (f_LH_rows s x1)) := am_enterH ok_LH_rows rfl rfl (Nat.le_of_ble_eq_true rfl) rfl (fun ad0 => w_LH_rows hg h)
def f_LH_cell (L : Nat) (xs : Nat → Int32) (s : am_M) (x1 : Int32) : Int32 × am_M := (if (Int32.ofNat L) ≤ x1 then ((((7919 : Int32) * (x1 + (1051 : Int32))) * (x1 + (3511 : Int32))), s) else ((xs (x1).toNatClampNeg), s))
def p_LH_cell (L : Nat) (xs : Nat → Int32) (s : am_M) (x1 : Int32) : Prop := (((Int32.ofNat L) ≤ x1) → True) ∧ (¬ ((Int32.ofNat L) ≤ x1) → vp_in x1 L ∧ (True))
set_option maxRecDepth 8000 in
theorem w_LH_cell {l : Launch} {g : am_Gl} (hg : g.2.2.2.1 = true) {ad0 : Nat → Nat} {s : am_M} {x1 : Int32} (h : p_LH_cell g.2.2.2.2.2.1 g.2.2.2.2.2.2 s x1) : AW l g m_LH_cell 207 ad0 (am_oC (f_LH_cell g.2.2.2.2.2.1 g.2.2.2.2.2.2 s x1)) 0 0 207 s 0 [(0, .retAddr g.2.2.2.2.1), (1, .int x1)] [] := by
  refine am_iload_n (j := 1) d_LH_cell_0 rfl rfl ?_
  refine am_aloadS_n (j := 0) d_LH_cell_1 rfl rfl ?_
  refine am_slen d_LH_cell_2 ?_
  refine aj_ge (F := am_oC) (tgt := 12) d_LH_cell_3 (by decide) (fun c => ?_) (fun c => ?_)
  · have h := h.1 c
    refine am_sipush (v := (7919 : Int32)) d_LH_cell_12 (by decide) ?_
    refine am_iload_n (j := 1) d_LH_cell_15 rfl rfl ?_
    refine am_sipush (v := (1051 : Int32)) d_LH_cell_16 (by decide) ?_
    refine am_iadd d_LH_cell_19 ?_
    refine am_imul d_LH_cell_20 ?_
    refine am_iload_n (j := 1) d_LH_cell_21 rfl rfl ?_
    refine am_sipush (v := (3511 : Int32)) d_LH_cell_22 (by decide) ?_
    refine am_iadd d_LH_cell_25 ?_
    refine am_imul d_LH_cell_26 ?_
    exact am_iret d_LH_cell_27 rfl rfl (by show 0 ≤ 0; omega) (by show 0 ≤ 0; omega) am_oC_ok
  · have h := h.2 c
    refine am_aloadS_n (j := 0) d_LH_cell_6 rfl rfl ?_
    refine am_iload_n (j := 1) d_LH_cell_7 rfl rfl ?_
    obtain ⟨hv, h⟩ := h
    refine am_sld d_LH_cell_8 hv ?_
    refine am_goto (tgt := 27) d_LH_cell_9 (by decide) ?_
    exact am_iret d_LH_cell_27 rfl rfl (by show 0 ≤ 0; omega) (by show 0 ≤ 0; omega) am_oC_ok
theorem ct_LH_cell {l : Launch} {g : am_Gl} (hg : g.2.2.2.1 = true) {s : am_M} {x1 : Int32} (h : p_LH_cell g.2.2.2.2.2.1 g.2.2.2.2.2.2 s x1) : AC l g m_LH_cell 207 s [.retAddr g.2.2.2.2.1, .int x1] (am_oC (f_LH_cell g.2.2.2.2.2.1 g.2.2.2.2.2.2 s x1)) := am_enter ok_LH_cell rfl (Nat.le_of_ble_eq_true rfl) rfl (fun ad0 => w_LH_cell hg h)
theorem cw_LH_act_21 : am_cs m_LH_act m_LH_low 156 2 := ⟨⟨ok_LH_low, rfl, by decide +kernel, by decide, by decide⟩, aw_1_186, aw_1_187⟩
theorem cw_LH_act_48 : am_cs m_LH_act m_LH_low 156 2 := ⟨⟨ok_LH_low, rfl, by decide +kernel, by decide, by decide⟩, aw_1_186, aw_1_187⟩
theorem cw_LH_act_35 : am_cs m_LH_act m_LH_low 156 2 := ⟨⟨ok_LH_low, rfl, by decide +kernel, by decide, by decide⟩, aw_1_186, aw_1_187⟩
theorem cw_LH_act_77 : am_cs m_LH_act m_LH_low 156 2 := ⟨⟨ok_LH_low, rfl, by decide +kernel, by decide, by decide⟩, aw_1_186, aw_1_187⟩
theorem cw_LH_act_63 : am_cs m_LH_act m_LH_low 156 2 := ⟨⟨ok_LH_low, rfl, by decide +kernel, by decide, by decide⟩, aw_1_186, aw_1_187⟩
theorem cw_LH_act_106 : am_cs m_LH_act m_LH_low 156 2 := ⟨⟨ok_LH_low, rfl, by decide +kernel, by decide, by decide⟩, aw_1_186, aw_1_187⟩
theorem cw_LH_act_92 : am_cs m_LH_act m_LH_low 156 2 := ⟨⟨ok_LH_low, rfl, by decide +kernel, by decide, by decide⟩, aw_1_186, aw_1_187⟩
theorem cw_LH_act_1070 : am_sh9 m_LH_act m_LH_does 159 5 := ⟨ok_LH_does, ⟨_, rfl⟩, by decide +kernel, by decide, by decide, aw_1_193, aw_1_194⟩
theorem cw_LH_act_1053 : am_cs m_LH_act m_LH_low 156 2 := ⟨⟨ok_LH_low, rfl, by decide +kernel, by decide, by decide⟩, aw_1_186, aw_1_187⟩
theorem cw_LH_act_1058 : am_sh9 m_LH_act m_LH_does 159 5 := ⟨ok_LH_does, ⟨_, rfl⟩, by decide +kernel, by decide, by decide, aw_1_193, aw_1_194⟩
theorem cw_LH_act_887 : am_cs m_LH_act m_LH_low 156 2 := ⟨⟨ok_LH_low, rfl, by decide +kernel, by decide, by decide⟩, aw_1_186, aw_1_187⟩
theorem cw_LH_act_898 : am_cs m_LH_act m_LH_low 156 2 := ⟨⟨ok_LH_low, rfl, by decide +kernel, by decide, by decide⟩, aw_1_186, aw_1_187⟩
theorem cw_LH_act_1026 : am_sh9 m_LH_act m_LH_asks 171 7 := ⟨ok_LH_asks, ⟨_, rfl⟩, by decide +kernel, by decide, by decide, aw_4_169, aw_4_170⟩
theorem cw_LH_act_1003 : am_cs m_LH_act m_LH_low 156 2 := ⟨⟨ok_LH_low, rfl, by decide +kernel, by decide, by decide⟩, aw_1_186, aw_1_187⟩
theorem cw_LH_act_1009 : am_sh9 m_LH_act m_LH_asks 171 7 := ⟨ok_LH_asks, ⟨_, rfl⟩, by decide +kernel, by decide, by decide, aw_4_169, aw_4_170⟩
theorem cw_LH_act_975 : am_sh9 m_LH_act m_LH_asks 171 7 := ⟨ok_LH_asks, ⟨_, rfl⟩, by decide +kernel, by decide, by decide, aw_4_169, aw_4_170⟩
theorem cw_LH_act_940 : am_cs m_LH_act m_LH_number 167 2 := ⟨⟨ok_LH_number, rfl, by decide +kernel, by decide, by decide⟩, aw_4_165, aw_4_166⟩
theorem cw_LH_act_944 : am_sh9 m_LH_act m_LH_asks 171 7 := ⟨ok_LH_asks, ⟨_, rfl⟩, by decide +kernel, by decide, by decide, aw_4_169, aw_4_170⟩
theorem cw_LH_act_914 : am_sh9 m_LH_act m_LH_does 159 5 := ⟨ok_LH_does, ⟨_, rfl⟩, by decide +kernel, by decide, by decide, aw_1_193, aw_1_194⟩
theorem cw_LH_act_691 : am_sh9 m_LH_act m_LH_does 159 5 := ⟨ok_LH_does, ⟨_, rfl⟩, by decide +kernel, by decide, by decide, aw_1_193, aw_1_194⟩
theorem cw_LH_act_672 : am_cs m_LH_act m_LH_number 167 2 := ⟨⟨ok_LH_number, rfl, by decide +kernel, by decide, by decide⟩, aw_4_165, aw_4_166⟩
theorem cw_LH_act_677 : am_sh9 m_LH_act m_LH_sets 163 8 := ⟨ok_LH_sets, ⟨_, rfl⟩, by decide +kernel, by decide, by decide, aw_3_221, aw_3_222⟩
theorem cw_LH_act_642 : am_sh9 m_LH_act m_LH_does 159 5 := ⟨ok_LH_does, ⟨_, rfl⟩, by decide +kernel, by decide, by decide, aw_1_193, aw_1_194⟩
theorem cw_LH_act_628 : am_sh9 m_LH_act m_LH_does 159 5 := ⟨ok_LH_does, ⟨_, rfl⟩, by decide +kernel, by decide, by decide, aw_1_193, aw_1_194⟩
theorem cw_LH_act_608 : am_sh9 m_LH_act m_LH_does 159 5 := ⟨ok_LH_does, ⟨_, rfl⟩, by decide +kernel, by decide, by decide, aw_1_193, aw_1_194⟩
theorem cw_LH_act_573 : am_cs m_LH_act m_LH_low 156 2 := ⟨⟨ok_LH_low, rfl, by decide +kernel, by decide, by decide⟩, aw_1_186, aw_1_187⟩
theorem cw_LH_act_581 : am_cs m_LH_act m_LH_number 167 2 := ⟨⟨ok_LH_number, rfl, by decide +kernel, by decide, by decide⟩, aw_4_165, aw_4_166⟩
theorem cw_LH_act_585 : am_sh9 m_LH_act m_LH_does 159 5 := ⟨ok_LH_does, ⟨_, rfl⟩, by decide +kernel, by decide, by decide, aw_1_193, aw_1_194⟩
theorem cw_LH_act_497 : am_sh9 m_LH_act m_LH_sets 163 8 := ⟨ok_LH_sets, ⟨_, rfl⟩, by decide +kernel, by decide, by decide, aw_3_221, aw_3_222⟩
theorem cw_LH_act_400 : am_sh9 m_LH_act m_LH_sets 163 8 := ⟨ok_LH_sets, ⟨_, rfl⟩, by decide +kernel, by decide, by decide, aw_3_221, aw_3_222⟩
theorem cw_LH_act_224 : am_cs m_LH_act m_LH_low 156 2 := ⟨⟨ok_LH_low, rfl, by decide +kernel, by decide, by decide⟩, aw_1_186, aw_1_187⟩
theorem cw_LH_act_211 : am_cs m_LH_act m_LH_low 156 2 := ⟨⟨ok_LH_low, rfl, by decide +kernel, by decide, by decide⟩, aw_1_186, aw_1_187⟩
theorem cw_LH_act_166 : am_cs m_LH_act m_LH_low 156 2 := ⟨⟨ok_LH_low, rfl, by decide +kernel, by decide, by decide⟩, aw_1_186, aw_1_187⟩
theorem cw_LH_act_151 : am_cs m_LH_act m_LH_low 156 2 := ⟨⟨ok_LH_low, rfl, by decide +kernel, by decide, by decide⟩, aw_1_186, aw_1_187⟩
theorem cw_LH_act_125 : am_sh9 m_LH_act m_LH_does 159 5 := ⟨ok_LH_does, ⟨_, rfl⟩, by decide +kernel, by decide, by decide, aw_1_193, aw_1_194⟩
theorem cw_LH_act_187 : am_cs m_LH_act m_LH_low 156 2 := ⟨⟨ok_LH_low, rfl, by decide +kernel, by decide, by decide⟩, aw_1_186, aw_1_187⟩
theorem cw_LH_act_191 : am_sh9 m_LH_act m_LH_does 159 5 := ⟨ok_LH_does, ⟨_, rfl⟩, by decide +kernel, by decide, by decide, aw_1_193, aw_1_194⟩
theorem cw_LH_act_249 : am_cs m_LH_act m_LH_low 156 2 := ⟨⟨ok_LH_low, rfl, by decide +kernel, by decide, by decide⟩, aw_1_186, aw_1_187⟩
theorem cw_LH_act_252 : am_sh9 m_LH_act m_LH_does 159 5 := ⟨ok_LH_does, ⟨_, rfl⟩, by decide +kernel, by decide, by decide, aw_1_193, aw_1_194⟩
theorem cw_LH_act_236 : am_cs m_LH_act m_LH_low 156 2 := ⟨⟨ok_LH_low, rfl, by decide +kernel, by decide, by decide⟩, aw_1_186, aw_1_187⟩
theorem cw_LH_act_289 : am_cs m_LH_act m_LH_low 156 2 := ⟨⟨ok_LH_low, rfl, by decide +kernel, by decide, by decide⟩, aw_1_186, aw_1_187⟩
theorem cw_LH_act_345 : am_cs m_LH_act m_LH_low 156 2 := ⟨⟨ok_LH_low, rfl, by decide +kernel, by decide, by decide⟩, aw_1_186, aw_1_187⟩
theorem cw_LH_act_354 : am_cs m_LH_act m_LH_low 156 2 := ⟨⟨ok_LH_low, rfl, by decide +kernel, by decide, by decide⟩, aw_1_186, aw_1_187⟩
theorem cw_LH_act_362 : am_cs m_LH_act m_LH_low 156 2 := ⟨⟨ok_LH_low, rfl, by decide +kernel, by decide, by decide⟩, aw_1_186, aw_1_187⟩
theorem cw_LH_act_365 : am_sh9 m_LH_act m_LH_sets 163 8 := ⟨ok_LH_sets, ⟨_, rfl⟩, by decide +kernel, by decide, by decide, aw_3_221, aw_3_222⟩
theorem cw_LH_act_313 : am_cs m_LH_act m_LH_low 156 2 := ⟨⟨ok_LH_low, rfl, by decide +kernel, by decide, by decide⟩, aw_1_186, aw_1_187⟩
theorem cw_LH_act_321 : am_cs m_LH_act m_LH_low 156 2 := ⟨⟨ok_LH_low, rfl, by decide +kernel, by decide, by decide⟩, aw_1_186, aw_1_187⟩
theorem cw_LH_act_325 : am_sh9 m_LH_act m_LH_sets 163 8 := ⟨ok_LH_sets, ⟨_, rfl⟩, by decide +kernel, by decide, by decide, aw_3_221, aw_3_222⟩
theorem cw_LH_act_452 : am_cs m_LH_act m_LH_low 156 2 := ⟨⟨ok_LH_low, rfl, by decide +kernel, by decide, by decide⟩, aw_1_186, aw_1_187⟩
theorem cw_LH_act_440 : am_cs m_LH_act m_LH_low 156 2 := ⟨⟨ok_LH_low, rfl, by decide +kernel, by decide, by decide⟩, aw_1_186, aw_1_187⟩
theorem cw_LH_act_461 : am_cs m_LH_act m_LH_low 156 2 := ⟨⟨ok_LH_low, rfl, by decide +kernel, by decide, by decide⟩, aw_1_186, aw_1_187⟩
theorem cw_LH_act_466 : am_sh9 m_LH_act m_LH_sets 163 8 := ⟨ok_LH_sets, ⟨_, rfl⟩, by decide +kernel, by decide, by decide, aw_3_221, aw_3_222⟩
theorem cw_LH_act_523 : am_cs m_LH_act m_LH_low 156 2 := ⟨⟨ok_LH_low, rfl, by decide +kernel, by decide, by decide⟩, aw_1_186, aw_1_187⟩
theorem cw_LH_act_532 : am_cs m_LH_act m_LH_low 156 2 := ⟨⟨ok_LH_low, rfl, by decide +kernel, by decide, by decide⟩, aw_1_186, aw_1_187⟩
theorem cw_LH_act_541 : am_cs m_LH_act m_LH_low 156 2 := ⟨⟨ok_LH_low, rfl, by decide +kernel, by decide, by decide⟩, aw_1_186, aw_1_187⟩
theorem cw_LH_act_547 : am_sh9 m_LH_act m_LH_sets 163 8 := ⟨ok_LH_sets, ⟨_, rfl⟩, by decide +kernel, by decide, by decide, aw_3_221, aw_3_222⟩
theorem cw_LH_act_732 : am_cs m_LH_act m_LH_low 156 2 := ⟨⟨ok_LH_low, rfl, by decide +kernel, by decide, by decide⟩, aw_1_186, aw_1_187⟩
theorem cw_LH_act_824 : am_cs m_LH_act m_LH_low 156 2 := ⟨⟨ok_LH_low, rfl, by decide +kernel, by decide, by decide⟩, aw_1_186, aw_1_187⟩
theorem cw_LH_act_797 : am_cs m_LH_act m_LH_low 156 2 := ⟨⟨ok_LH_low, rfl, by decide +kernel, by decide, by decide⟩, aw_1_186, aw_1_187⟩
theorem cw_LH_act_806 : am_cs m_LH_act m_LH_low 156 2 := ⟨⟨ok_LH_low, rfl, by decide +kernel, by decide, by decide⟩, aw_1_186, aw_1_187⟩
theorem cw_LH_act_810 : am_sh9 m_LH_act m_LH_asks 171 7 := ⟨ok_LH_asks, ⟨_, rfl⟩, by decide +kernel, by decide, by decide, aw_4_169, aw_4_170⟩
theorem cw_LH_act_766 : am_sh9 m_LH_act m_LH_asks 171 7 := ⟨ok_LH_asks, ⟨_, rfl⟩, by decide +kernel, by decide, by decide, aw_4_169, aw_4_170⟩
theorem cw_LH_act_840 : am_cs m_LH_act m_LH_low 156 2 := ⟨⟨ok_LH_low, rfl, by decide +kernel, by decide, by decide⟩, aw_1_186, aw_1_187⟩
theorem cw_LH_act_858 : am_cs m_LH_act m_LH_low 156 2 := ⟨⟨ok_LH_low, rfl, by decide +kernel, by decide, by decide⟩, aw_1_186, aw_1_187⟩
theorem cw_LH_act_867 : am_cs m_LH_act m_LH_low 156 2 := ⟨⟨ok_LH_low, rfl, by decide +kernel, by decide, by decide⟩, aw_1_186, aw_1_187⟩
theorem cw_LH_act_872 : am_sh9 m_LH_act m_LH_asks 171 7 := ⟨ok_LH_asks, ⟨_, rfl⟩, by decide +kernel, by decide, by decide, aw_4_169, aw_4_170⟩
def f_LH_act_170  (s : am_M) (x1 : Int32) (x2 : Int32) (x3 : Int32) (x4 : Int32) (x5 : Int32) (x6 : Int32) (y1 : Int32) (y2 : Int32) (y3 : Int32) : Int32 × am_M := (if x2 = 0 then ((f_LH_does s y1 y2 y3 ((9 : Int32) + (f_LH_low s (x1 >>> ((12 : Int32) &&& 31)) (9 : Int32)))).1, (f_LH_does s y1 y2 y3 ((9 : Int32) + (f_LH_low s (x1 >>> ((12 : Int32) &&& 31)) (9 : Int32)))).2) else ((f_LH_does s y1 y2 y3 (12 : Int32)).1, (f_LH_does s y1 y2 y3 (12 : Int32)).2))
def p_LH_act_170  (s : am_M) (x1 : Int32) (x2 : Int32) (x3 : Int32) (x4 : Int32) (x5 : Int32) (x6 : Int32) (y1 : Int32) (y2 : Int32) (y3 : Int32) : Prop := ((x2 = 0) → p_LH_low s (x1 >>> ((12 : Int32) &&& 31)) (9 : Int32) ∧ (p_LH_does s y1 y2 y3 ((9 : Int32) + (f_LH_low s (x1 >>> ((12 : Int32) &&& 31)) (9 : Int32))) ∧ (True))) ∧ (¬ (x2 = 0) → p_LH_does s y1 y2 y3 (12 : Int32) ∧ (True))
set_option maxRecDepth 8000 in
theorem w_LH_act_170 {l : Launch} {g : am_Gl} (hg : g.2.2.2.1 = true) {ad0 : Nat → Nat}  {s : am_M} {x1 : Int32} {x2 : Int32} {x3 : Int32} {x4 : Int32} {x5 : Int32} {x6 : Int32} {y1 : Int32} {y2 : Int32} {y3 : Int32} {k z : Nat} (hk : k ≤ 12) (hz : z ≤ 72) (h : p_LH_act_170  s x1 x2 x3 x4 x5 x6 y1 y2 y3) : AW l g m_LH_act 207 ad0 (am_oC (f_LH_act_170  s x1 x2 x3 x4 x5 x6 y1 y2 y3)) k z 207 s 170 [(0, .ref 0), (1, .int x1), (2, .int x2), (3, .int x3), (4, .int x4), (5, .int x5), (6, .int x6)] [.int y3, .int y2, .int y1, .ref 0] := by
  refine am_iload_n (j := 2) d_LH_act_170 rfl rfl ?_
  refine ai_eq (F := am_oC) (tgt := 179) d_LH_act_171 (by decide) (fun c => ?_) (fun c => ?_)
  · have h := h.1 c
    refine am_bipush (v := (9 : Int32)) d_LH_act_179 (by decide) ?_
    refine am_iload_n (j := 1) d_LH_act_181 rfl rfl ?_
    refine am_bipush (v := (12 : Int32)) d_LH_act_182 (by decide) ?_
    refine am_ishr d_LH_act_184 ?_
    refine am_bipush (v := (9 : Int32)) d_LH_act_185 (by decide) ?_
    obtain ⟨hc, h⟩ := h
    refine ak9_S (as := [.int (x1 >>> ((12 : Int32) &&& 31)), .int (9 : Int32)]) (rest := [.int (9 : Int32), .int y3, .int y2, .int y1, .ref 0]) d_LH_act_187 cw_LH_act_187 rfl (am_1I (ct_LH_low hg hc)) rfl rfl (Nat.le_of_ble_eq_true rfl) (by show k + 0 ≤ 16; omega) (by show z + 0 ≤ 96; omega) ?_
    refine am_iadd d_LH_act_190 ?_
    obtain ⟨hc, h⟩ := h
    refine ak9_SX (as := [.ref 0, .int y1, .int y2, .int y3, .int ((9 : Int32) + (f_LH_low s (x1 >>> ((12 : Int32) &&& 31)) (9 : Int32)))]) (rest := []) d_LH_act_191 cw_LH_act_191 rfl (am_1C (ct_LH_does hg hc)) rfl rfl (Nat.le_of_ble_eq_true rfl) (by show k + 0 + 4 ≤ 16; omega) (by show z + 0 + 24 ≤ 96; omega) ?_
    refine am_goto (tgt := 255) d_LH_act_194 (by decide) ?_
    exact am_iret d_LH_act_255 rfl rfl (by show k + 0 + 4 ≤ 16; omega) (by show z + 0 + 24 ≤ 96; omega) am_oC_ok
  · have h := h.2 c
    refine am_bipush (v := (12 : Int32)) d_LH_act_174 (by decide) ?_
    refine am_goto (tgt := 191) d_LH_act_176 (by decide) ?_
    obtain ⟨hc, h⟩ := h
    refine ak9_SX (as := [.ref 0, .int y1, .int y2, .int y3, .int (12 : Int32)]) (rest := []) d_LH_act_191 cw_LH_act_191 rfl (am_1C (ct_LH_does hg hc)) rfl rfl (Nat.le_of_ble_eq_true rfl) (by show k + 4 ≤ 16; omega) (by show z + 24 ≤ 96; omega) ?_
    refine am_goto (tgt := 255) d_LH_act_194 (by decide) ?_
    exact am_iret d_LH_act_255 rfl rfl (by show k + 4 ≤ 16; omega) (by show z + 24 ≤ 96; omega) am_oC_ok
def f_LH_act_227  (s : am_M) (x1 : Int32) (x2 : Int32) (x3 : Int32) (x4 : Int32) (x5 : Int32) (x6 : Int32) (y1 : Int32) (y2 : Int32) (y3 : Int32) : Int32 × am_M := (if x2 = 0 then ((f_LH_does s y1 y2 y3 (f_LH_low s (x1 >>> ((12 : Int32) &&& 31)) (3 : Int32))).1, (f_LH_does s y1 y2 y3 (f_LH_low s (x1 >>> ((12 : Int32) &&& 31)) (3 : Int32))).2) else ((f_LH_does s y1 y2 y3 ((f_LH_low s (x1 >>> ((12 : Int32) &&& 31)) (5 : Int32)) - (1 : Int32))).1, (f_LH_does s y1 y2 y3 ((f_LH_low s (x1 >>> ((12 : Int32) &&& 31)) (5 : Int32)) - (1 : Int32))).2))
def p_LH_act_227  (s : am_M) (x1 : Int32) (x2 : Int32) (x3 : Int32) (x4 : Int32) (x5 : Int32) (x6 : Int32) (y1 : Int32) (y2 : Int32) (y3 : Int32) : Prop := ((x2 = 0) → p_LH_low s (x1 >>> ((12 : Int32) &&& 31)) (3 : Int32) ∧ (p_LH_does s y1 y2 y3 (f_LH_low s (x1 >>> ((12 : Int32) &&& 31)) (3 : Int32)) ∧ (True))) ∧ (¬ (x2 = 0) → p_LH_low s (x1 >>> ((12 : Int32) &&& 31)) (5 : Int32) ∧ (p_LH_does s y1 y2 y3 ((f_LH_low s (x1 >>> ((12 : Int32) &&& 31)) (5 : Int32)) - (1 : Int32)) ∧ (True)))
set_option maxRecDepth 8000 in
theorem w_LH_act_227 {l : Launch} {g : am_Gl} (hg : g.2.2.2.1 = true) {ad0 : Nat → Nat}  {s : am_M} {x1 : Int32} {x2 : Int32} {x3 : Int32} {x4 : Int32} {x5 : Int32} {x6 : Int32} {y1 : Int32} {y2 : Int32} {y3 : Int32} {k z : Nat} (hk : k ≤ 12) (hz : z ≤ 72) (h : p_LH_act_227  s x1 x2 x3 x4 x5 x6 y1 y2 y3) : AW l g m_LH_act 207 ad0 (am_oC (f_LH_act_227  s x1 x2 x3 x4 x5 x6 y1 y2 y3)) k z 207 s 227 [(0, .ref 0), (1, .int x1), (2, .int x2), (3, .int x3), (4, .int x4), (5, .int x5), (6, .int x6)] [.int y3, .int y2, .int y1, .ref 0] := by
  refine am_iload_n (j := 2) d_LH_act_227 rfl rfl ?_
  refine ai_eq (F := am_oC) (tgt := 244) d_LH_act_228 (by decide) (fun c => ?_) (fun c => ?_)
  · have h := h.1 c
    refine am_iload_n (j := 1) d_LH_act_244 rfl rfl ?_
    refine am_bipush (v := (12 : Int32)) d_LH_act_245 (by decide) ?_
    refine am_ishr d_LH_act_247 ?_
    refine am_iconst (v := (3 : Int32)) d_LH_act_248 (by decide) ?_
    obtain ⟨hc, h⟩ := h
    refine ak9_S (as := [.int (x1 >>> ((12 : Int32) &&& 31)), .int (3 : Int32)]) (rest := [.int y3, .int y2, .int y1, .ref 0]) d_LH_act_249 cw_LH_act_249 rfl (am_1I (ct_LH_low hg hc)) rfl rfl (Nat.le_of_ble_eq_true rfl) (by show k + 0 ≤ 16; omega) (by show z + 0 ≤ 96; omega) ?_
    obtain ⟨hc, h⟩ := h
    refine ak9_SX (as := [.ref 0, .int y1, .int y2, .int y3, .int (f_LH_low s (x1 >>> ((12 : Int32) &&& 31)) (3 : Int32))]) (rest := []) d_LH_act_252 cw_LH_act_252 rfl (am_1C (ct_LH_does hg hc)) rfl rfl (Nat.le_of_ble_eq_true rfl) (by show k + 0 + 4 ≤ 16; omega) (by show z + 0 + 24 ≤ 96; omega) ?_
    exact am_iret d_LH_act_255 rfl rfl (by show k + 0 + 4 ≤ 16; omega) (by show z + 0 + 24 ≤ 96; omega) am_oC_ok
  · have h := h.2 c
    refine am_iload_n (j := 1) d_LH_act_231 rfl rfl ?_
    refine am_bipush (v := (12 : Int32)) d_LH_act_232 (by decide) ?_
    refine am_ishr d_LH_act_234 ?_
    refine am_iconst (v := (5 : Int32)) d_LH_act_235 (by decide) ?_
    obtain ⟨hc, h⟩ := h
    refine ak9_S (as := [.int (x1 >>> ((12 : Int32) &&& 31)), .int (5 : Int32)]) (rest := [.int y3, .int y2, .int y1, .ref 0]) d_LH_act_236 cw_LH_act_236 rfl (am_1I (ct_LH_low hg hc)) rfl rfl (Nat.le_of_ble_eq_true rfl) (by show k + 0 ≤ 16; omega) (by show z + 0 ≤ 96; omega) ?_
    refine am_iconst (v := (1 : Int32)) d_LH_act_239 (by decide) ?_
    refine am_isub d_LH_act_240 ?_
    refine am_goto (tgt := 252) d_LH_act_241 (by decide) ?_
    obtain ⟨hc, h⟩ := h
    refine ak9_SX (as := [.ref 0, .int y1, .int y2, .int y3, .int ((f_LH_low s (x1 >>> ((12 : Int32) &&& 31)) (5 : Int32)) - (1 : Int32))]) (rest := []) d_LH_act_252 cw_LH_act_252 rfl (am_1C (ct_LH_does hg hc)) rfl rfl (Nat.le_of_ble_eq_true rfl) (by show k + 0 + 4 ≤ 16; omega) (by show z + 0 + 24 ≤ 96; omega) ?_
    exact am_iret d_LH_act_255 rfl rfl (by show k + 0 + 4 ≤ 16; omega) (by show z + 0 + 24 ≤ 96; omega) am_oC_ok
def f_LH_act_289  (s : am_M) (x1 : Int32) (x2 : Int32) (x3 : Int32) (x4 : Int32) (x5 : Int32) (x6 : Int32) (x7 : Int32) (y0 : Int32) (y1 : Int32) : Int32 × am_M := (if x7 = 0 then ((f_LH_sets s (1 : Int32) x4 x5 (f_LH_low s y0 y1) (f_LH_low s (x1 >>> ((12 : Int32) &&& 31)) (6 : Int32)) (f_LH_low s (x1 >>> ((7 : Int32) &&& 31)) (6 : Int32)) (f_LH_low s (x1 >>> ((10 : Int32) &&& 31)) (3 : Int32))).1, (f_LH_sets s (1 : Int32) x4 x5 (f_LH_low s y0 y1) (f_LH_low s (x1 >>> ((12 : Int32) &&& 31)) (6 : Int32)) (f_LH_low s (x1 >>> ((7 : Int32) &&& 31)) (6 : Int32)) (f_LH_low s (x1 >>> ((10 : Int32) &&& 31)) (3 : Int32))).2) else ((f_LH_sets s (0 : Int32) x4 (f_LH_low s y0 y1) x5 (f_LH_low s (x1 >>> ((12 : Int32) &&& 31)) (6 : Int32)) (f_LH_low s (x1 >>> ((7 : Int32) &&& 31)) (3 : Int32)) (0 : Int32)).1, (f_LH_sets s (0 : Int32) x4 (f_LH_low s y0 y1) x5 (f_LH_low s (x1 >>> ((12 : Int32) &&& 31)) (6 : Int32)) (f_LH_low s (x1 >>> ((7 : Int32) &&& 31)) (3 : Int32)) (0 : Int32)).2))
def p_LH_act_289  (s : am_M) (x1 : Int32) (x2 : Int32) (x3 : Int32) (x4 : Int32) (x5 : Int32) (x6 : Int32) (x7 : Int32) (y0 : Int32) (y1 : Int32) : Prop := p_LH_low s y0 y1 ∧ (((x7 = 0) → p_LH_low s (x1 >>> ((12 : Int32) &&& 31)) (6 : Int32) ∧ (p_LH_low s (x1 >>> ((7 : Int32) &&& 31)) (6 : Int32) ∧ (p_LH_low s (x1 >>> ((10 : Int32) &&& 31)) (3 : Int32) ∧ (p_LH_sets s (1 : Int32) x4 x5 (f_LH_low s y0 y1) (f_LH_low s (x1 >>> ((12 : Int32) &&& 31)) (6 : Int32)) (f_LH_low s (x1 >>> ((7 : Int32) &&& 31)) (6 : Int32)) (f_LH_low s (x1 >>> ((10 : Int32) &&& 31)) (3 : Int32)) ∧ (True))))) ∧ (¬ (x7 = 0) → p_LH_low s (x1 >>> ((12 : Int32) &&& 31)) (6 : Int32) ∧ (p_LH_low s (x1 >>> ((7 : Int32) &&& 31)) (3 : Int32) ∧ (p_LH_sets s (0 : Int32) x4 (f_LH_low s y0 y1) x5 (f_LH_low s (x1 >>> ((12 : Int32) &&& 31)) (6 : Int32)) (f_LH_low s (x1 >>> ((7 : Int32) &&& 31)) (3 : Int32)) (0 : Int32) ∧ (True)))))
set_option maxRecDepth 8000 in
theorem w_LH_act_289 {l : Launch} {g : am_Gl} (hg : g.2.2.2.1 = true) {ad0 : Nat → Nat}  {s : am_M} {x1 : Int32} {x2 : Int32} {x3 : Int32} {x4 : Int32} {x5 : Int32} {x6 : Int32} {x7 : Int32} {y0 : Int32} {y1 : Int32} {k z : Nat} (hk : k ≤ 0) (hz : z ≤ 0) (h : p_LH_act_289  s x1 x2 x3 x4 x5 x6 x7 y0 y1) : AW l g m_LH_act 207 ad0 (am_oC (f_LH_act_289  s x1 x2 x3 x4 x5 x6 x7 y0 y1)) k z 207 s 289 [(0, .ref 0), (1, .int x1), (2, .int x2), (3, .int x3), (4, .int x4), (5, .int x5), (6, .int x6), (7, .int x7)] [.int y1, .int y0] := by
  obtain ⟨hc, h⟩ := h
  refine ak9_S (as := [.int y0, .int y1]) (rest := []) d_LH_act_289 cw_LH_act_289 rfl (am_1I (ct_LH_low hg hc)) rfl rfl (Nat.le_of_ble_eq_true rfl) (by show k + 0 ≤ 16; omega) (by show z + 0 ≤ 96; omega) ?_
  refine am_istore (lv2 := [(8, .int (f_LH_low s y0 y1)), (0, .ref 0), (1, .int x1), (2, .int x2), (3, .int x3), (4, .int x4), (5, .int x5), (6, .int x6), (7, .int x7)]) d_LH_act_292 (by decide) rfl ?_
  refine am_iload (j := 8) d_LH_act_294 rfl ?_
  refine ai_eq (F := am_oC) (tgt := 331) d_LH_act_296 (by decide) (fun c => ?_) (fun c => ?_)
  · have h := h.1 c
    refine am_aload_n (j := 1) d_LH_act_331 rfl rfl ?_
    refine am_iconst (v := (1 : Int32)) d_LH_act_332 (by decide) ?_
    refine am_iload (j := 5) d_LH_act_333 rfl ?_
    refine am_iload (j := 6) d_LH_act_335 rfl ?_
    refine am_iload (j := 0) d_LH_act_337 rfl ?_
    refine am_iload_n (j := 2) d_LH_act_339 rfl rfl ?_
    refine am_bipush (v := (12 : Int32)) d_LH_act_340 (by decide) ?_
    refine am_ishr d_LH_act_342 ?_
    refine am_bipush (v := (6 : Int32)) d_LH_act_343 (by decide) ?_
    obtain ⟨hc, h⟩ := h
    refine ak9_S (as := [.int (x1 >>> ((12 : Int32) &&& 31)), .int (6 : Int32)]) (rest := [.int (f_LH_low s y0 y1), .int x5, .int x4, .int (1 : Int32), .ref 0]) d_LH_act_345 cw_LH_act_345 rfl (am_1I (ct_LH_low hg hc)) rfl rfl (Nat.le_of_ble_eq_true rfl) (by show k + 0 + 0 ≤ 16; omega) (by show z + 0 + 0 ≤ 96; omega) ?_
    refine am_iload_n (j := 2) d_LH_act_348 rfl rfl ?_
    refine am_bipush (v := (7 : Int32)) d_LH_act_349 (by decide) ?_
    refine am_ishr d_LH_act_351 ?_
    refine am_bipush (v := (6 : Int32)) d_LH_act_352 (by decide) ?_
    obtain ⟨hc, h⟩ := h
    refine ak9_S (as := [.int (x1 >>> ((7 : Int32) &&& 31)), .int (6 : Int32)]) (rest := [.int (f_LH_low s (x1 >>> ((12 : Int32) &&& 31)) (6 : Int32)), .int (f_LH_low s y0 y1), .int x5, .int x4, .int (1 : Int32), .ref 0]) d_LH_act_354 cw_LH_act_354 rfl (am_1I (ct_LH_low hg hc)) rfl rfl (Nat.le_of_ble_eq_true rfl) (by show k + 0 + 0 + 0 ≤ 16; omega) (by show z + 0 + 0 + 0 ≤ 96; omega) ?_
    refine am_iload_n (j := 2) d_LH_act_357 rfl rfl ?_
    refine am_bipush (v := (10 : Int32)) d_LH_act_358 (by decide) ?_
    refine am_ishr d_LH_act_360 ?_
    refine am_iconst (v := (3 : Int32)) d_LH_act_361 (by decide) ?_
    obtain ⟨hc, h⟩ := h
    refine ak9_S (as := [.int (x1 >>> ((10 : Int32) &&& 31)), .int (3 : Int32)]) (rest := [.int (f_LH_low s (x1 >>> ((7 : Int32) &&& 31)) (6 : Int32)), .int (f_LH_low s (x1 >>> ((12 : Int32) &&& 31)) (6 : Int32)), .int (f_LH_low s y0 y1), .int x5, .int x4, .int (1 : Int32), .ref 0]) d_LH_act_362 cw_LH_act_362 rfl (am_1I (ct_LH_low hg hc)) rfl rfl (Nat.le_of_ble_eq_true rfl) (by show k + 0 + 0 + 0 + 0 ≤ 16; omega) (by show z + 0 + 0 + 0 + 0 ≤ 96; omega) ?_
    obtain ⟨hc, h⟩ := h
    refine ak9_SX (as := [.ref 0, .int (1 : Int32), .int x4, .int x5, .int (f_LH_low s y0 y1), .int (f_LH_low s (x1 >>> ((12 : Int32) &&& 31)) (6 : Int32)), .int (f_LH_low s (x1 >>> ((7 : Int32) &&& 31)) (6 : Int32)), .int (f_LH_low s (x1 >>> ((10 : Int32) &&& 31)) (3 : Int32))]) (rest := []) d_LH_act_365 cw_LH_act_365 rfl (am_1C (ct_LH_sets hg hc)) rfl rfl (Nat.le_of_ble_eq_true rfl) (by show k + 0 + 0 + 0 + 0 + 16 ≤ 16; omega) (by show z + 0 + 0 + 0 + 0 + 96 ≤ 96; omega) ?_
    exact am_iret d_LH_act_368 rfl rfl (by show k + 0 + 0 + 0 + 0 + 16 ≤ 16; omega) (by show z + 0 + 0 + 0 + 0 + 96 ≤ 96; omega) am_oC_ok
  · have h := h.2 c
    refine am_aload_n (j := 1) d_LH_act_299 rfl rfl ?_
    refine am_iconst (v := (0 : Int32)) d_LH_act_300 (by decide) ?_
    refine am_iload (j := 5) d_LH_act_301 rfl ?_
    refine am_iload (j := 0) d_LH_act_303 rfl ?_
    refine am_iload (j := 6) d_LH_act_305 rfl ?_
    refine am_iload_n (j := 2) d_LH_act_307 rfl rfl ?_
    refine am_bipush (v := (12 : Int32)) d_LH_act_308 (by decide) ?_
    refine am_ishr d_LH_act_310 ?_
    refine am_bipush (v := (6 : Int32)) d_LH_act_311 (by decide) ?_
    obtain ⟨hc, h⟩ := h
    refine ak9_S (as := [.int (x1 >>> ((12 : Int32) &&& 31)), .int (6 : Int32)]) (rest := [.int x5, .int (f_LH_low s y0 y1), .int x4, .int (0 : Int32), .ref 0]) d_LH_act_313 cw_LH_act_313 rfl (am_1I (ct_LH_low hg hc)) rfl rfl (Nat.le_of_ble_eq_true rfl) (by show k + 0 + 0 ≤ 16; omega) (by show z + 0 + 0 ≤ 96; omega) ?_
    refine am_iload_n (j := 2) d_LH_act_316 rfl rfl ?_
    refine am_bipush (v := (7 : Int32)) d_LH_act_317 (by decide) ?_
    refine am_ishr d_LH_act_319 ?_
    refine am_iconst (v := (3 : Int32)) d_LH_act_320 (by decide) ?_
    obtain ⟨hc, h⟩ := h
    refine ak9_S (as := [.int (x1 >>> ((7 : Int32) &&& 31)), .int (3 : Int32)]) (rest := [.int (f_LH_low s (x1 >>> ((12 : Int32) &&& 31)) (6 : Int32)), .int x5, .int (f_LH_low s y0 y1), .int x4, .int (0 : Int32), .ref 0]) d_LH_act_321 cw_LH_act_321 rfl (am_1I (ct_LH_low hg hc)) rfl rfl (Nat.le_of_ble_eq_true rfl) (by show k + 0 + 0 + 0 ≤ 16; omega) (by show z + 0 + 0 + 0 ≤ 96; omega) ?_
    refine am_iconst (v := (0 : Int32)) d_LH_act_324 (by decide) ?_
    obtain ⟨hc, h⟩ := h
    refine ak9_SX (as := [.ref 0, .int (0 : Int32), .int x4, .int (f_LH_low s y0 y1), .int x5, .int (f_LH_low s (x1 >>> ((12 : Int32) &&& 31)) (6 : Int32)), .int (f_LH_low s (x1 >>> ((7 : Int32) &&& 31)) (3 : Int32)), .int (0 : Int32)]) (rest := []) d_LH_act_325 cw_LH_act_325 rfl (am_1C (ct_LH_sets hg hc)) rfl rfl (Nat.le_of_ble_eq_true rfl) (by show k + 0 + 0 + 0 + 16 ≤ 16; omega) (by show z + 0 + 0 + 0 + 96 ≤ 96; omega) ?_
    refine am_goto (tgt := 368) d_LH_act_328 (by decide) ?_
    exact am_iret d_LH_act_368 rfl rfl (by show k + 0 + 0 + 0 + 16 ≤ 16; omega) (by show z + 0 + 0 + 0 + 96 ≤ 96; omega) am_oC_ok
def f_LH_act_273  (s : am_M) (x1 : Int32) (x2 : Int32) (x3 : Int32) (x4 : Int32) (x5 : Int32) (x6 : Int32) (y0 : Int32) : Int32 × am_M := (if x2 = 0 then (f_LH_act_289 s x1 x2 x3 x4 x5 x6 y0 (x1 >>> ((14 : Int32) &&& 31)) (5 : Int32)) else (f_LH_act_289 s x1 x2 x3 x4 x5 x6 y0 (x1 >>> ((14 : Int32) &&& 31)) (7 : Int32)))
def p_LH_act_273  (s : am_M) (x1 : Int32) (x2 : Int32) (x3 : Int32) (x4 : Int32) (x5 : Int32) (x6 : Int32) (y0 : Int32) : Prop := ((x2 = 0) → (p_LH_act_289 s x1 x2 x3 x4 x5 x6 y0 (x1 >>> ((14 : Int32) &&& 31)) (5 : Int32))) ∧ (¬ (x2 = 0) → (p_LH_act_289 s x1 x2 x3 x4 x5 x6 y0 (x1 >>> ((14 : Int32) &&& 31)) (7 : Int32)))
set_option maxRecDepth 8000 in
theorem w_LH_act_273 {l : Launch} {g : am_Gl} (hg : g.2.2.2.1 = true) {ad0 : Nat → Nat}  {s : am_M} {x1 : Int32} {x2 : Int32} {x3 : Int32} {x4 : Int32} {x5 : Int32} {x6 : Int32} {y0 : Int32} {k z : Nat} (hk : k ≤ 0) (hz : z ≤ 0) (h : p_LH_act_273  s x1 x2 x3 x4 x5 x6 y0) : AW l g m_LH_act 207 ad0 (am_oC (f_LH_act_273  s x1 x2 x3 x4 x5 x6 y0)) k z 207 s 273 [(0, .ref 0), (1, .int x1), (2, .int x2), (3, .int x3), (4, .int x4), (5, .int x5), (6, .int x6)] [.int y0] := by
  refine am_istore (lv2 := [(7, .int y0), (0, .ref 0), (1, .int x1), (2, .int x2), (3, .int x3), (4, .int x4), (5, .int x5), (6, .int x6)]) d_LH_act_273 (by decide) rfl ?_
  refine am_iload_n (j := 2) d_LH_act_275 rfl rfl ?_
  refine am_bipush (v := (14 : Int32)) d_LH_act_276 (by decide) ?_
  refine am_ishr d_LH_act_278 ?_
  refine am_iload_n (j := 3) d_LH_act_279 rfl rfl ?_
  refine ai_eq (F := am_oC) (tgt := 288) d_LH_act_280 (by decide) (fun c => ?_) (fun c => ?_)
  · have h := h.1 c
    refine am_iconst (v := (5 : Int32)) d_LH_act_288 (by decide) ?_
    refine am_sub [1, 2, 3, 4, 5, 6, 7, 0] (lv2 := [(0, .ref 0), (1, .int x1), (2, .int x2), (3, .int x3), (4, .int x4), (5, .int x5), (6, .int x6), (7, .int y0)]) rfl ?_
    exact w_LH_act_289 hg  (by show k ≤ 0; omega) (by show z ≤ 0; omega) h
  · have h := h.2 c
    refine am_bipush (v := (7 : Int32)) d_LH_act_283 (by decide) ?_
    refine am_goto (tgt := 289) d_LH_act_285 (by decide) ?_
    refine am_sub [1, 2, 3, 4, 5, 6, 7, 0] (lv2 := [(0, .ref 0), (1, .int x1), (2, .int x2), (3, .int x3), (4, .int x4), (5, .int x5), (6, .int x6), (7, .int y0)]) rfl ?_
    exact w_LH_act_289 hg  (by show k ≤ 0; omega) (by show z ≤ 0; omega) h
def f_LH_act_455  (s : am_M) (x1 : Int32) (x2 : Int32) (x3 : Int32) (x4 : Int32) (x5 : Int32) (x6 : Int32) (y1 : Int32) (y2 : Int32) (y3 : Int32) (y4 : Int32) : Int32 × am_M := ((f_LH_sets s y1 y2 y3 y4 (f_LH_low s (x1 >>> ((14 : Int32) &&& 31)) (18 : Int32)) (0 : Int32) (0 : Int32)).1, (f_LH_sets s y1 y2 y3 y4 (f_LH_low s (x1 >>> ((14 : Int32) &&& 31)) (18 : Int32)) (0 : Int32) (0 : Int32)).2)
def p_LH_act_455  (s : am_M) (x1 : Int32) (x2 : Int32) (x3 : Int32) (x4 : Int32) (x5 : Int32) (x6 : Int32) (y1 : Int32) (y2 : Int32) (y3 : Int32) (y4 : Int32) : Prop := p_LH_low s (x1 >>> ((14 : Int32) &&& 31)) (18 : Int32) ∧ (p_LH_sets s y1 y2 y3 y4 (f_LH_low s (x1 >>> ((14 : Int32) &&& 31)) (18 : Int32)) (0 : Int32) (0 : Int32) ∧ (True))
set_option maxRecDepth 8000 in
theorem w_LH_act_455 {l : Launch} {g : am_Gl} (hg : g.2.2.2.1 = true) {ad0 : Nat → Nat}  {s : am_M} {x1 : Int32} {x2 : Int32} {x3 : Int32} {x4 : Int32} {x5 : Int32} {x6 : Int32} {y1 : Int32} {y2 : Int32} {y3 : Int32} {y4 : Int32} {k z : Nat} (hk : k ≤ 0) (hz : z ≤ 0) (h : p_LH_act_455  s x1 x2 x3 x4 x5 x6 y1 y2 y3 y4) : AW l g m_LH_act 207 ad0 (am_oC (f_LH_act_455  s x1 x2 x3 x4 x5 x6 y1 y2 y3 y4)) k z 207 s 455 [(0, .ref 0), (1, .int x1), (2, .int x2), (3, .int x3), (4, .int x4), (5, .int x5), (6, .int x6)] [.int y4, .int y3, .int y2, .int y1, .ref 0] := by
  refine am_iload_n (j := 1) d_LH_act_455 rfl rfl ?_
  refine am_bipush (v := (14 : Int32)) d_LH_act_456 (by decide) ?_
  refine am_ishr d_LH_act_458 ?_
  refine am_bipush (v := (18 : Int32)) d_LH_act_459 (by decide) ?_
  obtain ⟨hc, h⟩ := h
  refine ak9_S (as := [.int (x1 >>> ((14 : Int32) &&& 31)), .int (18 : Int32)]) (rest := [.int y4, .int y3, .int y2, .int y1, .ref 0]) d_LH_act_461 cw_LH_act_461 rfl (am_1I (ct_LH_low hg hc)) rfl rfl (Nat.le_of_ble_eq_true rfl) (by show k + 0 ≤ 16; omega) (by show z + 0 ≤ 96; omega) ?_
  refine am_iconst (v := (0 : Int32)) d_LH_act_464 (by decide) ?_
  refine am_iconst (v := (0 : Int32)) d_LH_act_465 (by decide) ?_
  obtain ⟨hc, h⟩ := h
  refine ak9_SX (as := [.ref 0, .int y1, .int y2, .int y3, .int y4, .int (f_LH_low s (x1 >>> ((14 : Int32) &&& 31)) (18 : Int32)), .int (0 : Int32), .int (0 : Int32)]) (rest := []) d_LH_act_466 cw_LH_act_466 rfl (am_1C (ct_LH_sets hg hc)) rfl rfl (Nat.le_of_ble_eq_true rfl) (by show k + 0 + 16 ≤ 16; omega) (by show z + 0 + 96 ≤ 96; omega) ?_
  refine am_goto (tgt := 550) d_LH_act_469 (by decide) ?_
  exact am_iret d_LH_act_550 rfl rfl (by show k + 0 + 16 ≤ 16; omega) (by show z + 0 + 96 ≤ 96; omega) am_oC_ok
def f_LH_act_425  (s : am_M) (x1 : Int32) (x2 : Int32) (x3 : Int32) (x4 : Int32) (x5 : Int32) (x6 : Int32) (y1 : Int32) : Int32 × am_M := (if x3 = (11 : Int32) then (f_LH_act_455 s x1 x2 x3 x4 x5 x6 y1 x4 x5 (-(f_LH_low s (x1 >>> ((12 : Int32) &&& 31)) (5 : Int32)))) else (f_LH_act_455 s x1 x2 x3 x4 x5 x6 y1 x4 x5 (f_LH_low s (x1 >>> ((12 : Int32) &&& 31)) (3 : Int32))))
def p_LH_act_425  (s : am_M) (x1 : Int32) (x2 : Int32) (x3 : Int32) (x4 : Int32) (x5 : Int32) (x6 : Int32) (y1 : Int32) : Prop := ((x3 = (11 : Int32)) → p_LH_low s (x1 >>> ((12 : Int32) &&& 31)) (5 : Int32) ∧ ((p_LH_act_455 s x1 x2 x3 x4 x5 x6 y1 x4 x5 (-(f_LH_low s (x1 >>> ((12 : Int32) &&& 31)) (5 : Int32)))))) ∧ (¬ (x3 = (11 : Int32)) → p_LH_low s (x1 >>> ((12 : Int32) &&& 31)) (3 : Int32) ∧ ((p_LH_act_455 s x1 x2 x3 x4 x5 x6 y1 x4 x5 (f_LH_low s (x1 >>> ((12 : Int32) &&& 31)) (3 : Int32)))))
set_option maxRecDepth 8000 in
theorem w_LH_act_425 {l : Launch} {g : am_Gl} (hg : g.2.2.2.1 = true) {ad0 : Nat → Nat}  {s : am_M} {x1 : Int32} {x2 : Int32} {x3 : Int32} {x4 : Int32} {x5 : Int32} {x6 : Int32} {y1 : Int32} {k z : Nat} (hk : k ≤ 0) (hz : z ≤ 0) (h : p_LH_act_425  s x1 x2 x3 x4 x5 x6 y1) : AW l g m_LH_act 207 ad0 (am_oC (f_LH_act_425  s x1 x2 x3 x4 x5 x6 y1)) k z 207 s 425 [(0, .ref 0), (1, .int x1), (2, .int x2), (3, .int x3), (4, .int x4), (5, .int x5), (6, .int x6)] [.int y1, .ref 0] := by
  refine am_iload (j := 4) d_LH_act_425 rfl ?_
  refine am_iload (j := 5) d_LH_act_427 rfl ?_
  refine am_iload_n (j := 3) d_LH_act_429 rfl rfl ?_
  refine am_bipush (v := (11 : Int32)) d_LH_act_430 (by decide) ?_
  refine aj_ne (F := am_oC) (tgt := 447) d_LH_act_432 (by decide) (fun c => ?_) (fun c => ?_)
  · have h := h.2 c
    refine am_iload_n (j := 1) d_LH_act_447 rfl rfl ?_
    refine am_bipush (v := (12 : Int32)) d_LH_act_448 (by decide) ?_
    refine am_ishr d_LH_act_450 ?_
    refine am_iconst (v := (3 : Int32)) d_LH_act_451 (by decide) ?_
    obtain ⟨hc, h⟩ := h
    refine ak9_S (as := [.int (x1 >>> ((12 : Int32) &&& 31)), .int (3 : Int32)]) (rest := [.int x5, .int x4, .int y1, .ref 0]) d_LH_act_452 cw_LH_act_452 rfl (am_1I (ct_LH_low hg hc)) rfl rfl (Nat.le_of_ble_eq_true rfl) (by show k + 0 ≤ 16; omega) (by show z + 0 ≤ 96; omega) ?_
    exact w_LH_act_455 hg  (by show k + 0 ≤ 0; omega) (by show z + 0 ≤ 0; omega) h
  · have h := h.1 c
    refine am_iload_n (j := 1) d_LH_act_435 rfl rfl ?_
    refine am_bipush (v := (12 : Int32)) d_LH_act_436 (by decide) ?_
    refine am_ishr d_LH_act_438 ?_
    refine am_iconst (v := (5 : Int32)) d_LH_act_439 (by decide) ?_
    obtain ⟨hc, h⟩ := h
    refine ak9_S (as := [.int (x1 >>> ((12 : Int32) &&& 31)), .int (5 : Int32)]) (rest := [.int x5, .int x4, .int y1, .ref 0]) d_LH_act_440 cw_LH_act_440 rfl (am_1I (ct_LH_low hg hc)) rfl rfl (Nat.le_of_ble_eq_true rfl) (by show k + 0 ≤ 16; omega) (by show z + 0 ≤ 96; omega) ?_
    refine am_ineg d_LH_act_443 ?_
    refine am_goto (tgt := 455) d_LH_act_444 (by decide) ?_
    exact w_LH_act_455 hg  (by show k + 0 ≤ 0; omega) (by show z + 0 ≤ 0; omega) h
def f_LH_act_523  (s : am_M) (x1 : Int32) (x2 : Int32) (x3 : Int32) (x4 : Int32) (x5 : Int32) (x6 : Int32) (y1 : Int32) (y2 : Int32) (y3 : Int32) (y4 : Int32) (y5 : Int32) : Int32 × am_M := ((f_LH_sets s y1 y2 y3 (f_LH_low s y4 y5) (f_LH_low s (x1 >>> ((12 : Int32) &&& 31)) (6 : Int32)) ((f_LH_low s (x1 >>> ((10 : Int32) &&& 31)) (9 : Int32)) - (2 : Int32)) (0 : Int32)).1, (f_LH_sets s y1 y2 y3 (f_LH_low s y4 y5) (f_LH_low s (x1 >>> ((12 : Int32) &&& 31)) (6 : Int32)) ((f_LH_low s (x1 >>> ((10 : Int32) &&& 31)) (9 : Int32)) - (2 : Int32)) (0 : Int32)).2)
def p_LH_act_523  (s : am_M) (x1 : Int32) (x2 : Int32) (x3 : Int32) (x4 : Int32) (x5 : Int32) (x6 : Int32) (y1 : Int32) (y2 : Int32) (y3 : Int32) (y4 : Int32) (y5 : Int32) : Prop := p_LH_low s y4 y5 ∧ (p_LH_low s (x1 >>> ((12 : Int32) &&& 31)) (6 : Int32) ∧ (p_LH_low s (x1 >>> ((10 : Int32) &&& 31)) (9 : Int32) ∧ (p_LH_sets s y1 y2 y3 (f_LH_low s y4 y5) (f_LH_low s (x1 >>> ((12 : Int32) &&& 31)) (6 : Int32)) ((f_LH_low s (x1 >>> ((10 : Int32) &&& 31)) (9 : Int32)) - (2 : Int32)) (0 : Int32) ∧ (True))))
set_option maxRecDepth 8000 in
theorem w_LH_act_523 {l : Launch} {g : am_Gl} (hg : g.2.2.2.1 = true) {ad0 : Nat → Nat}  {s : am_M} {x1 : Int32} {x2 : Int32} {x3 : Int32} {x4 : Int32} {x5 : Int32} {x6 : Int32} {y1 : Int32} {y2 : Int32} {y3 : Int32} {y4 : Int32} {y5 : Int32} {k z : Nat} (hk : k ≤ 0) (hz : z ≤ 0) (h : p_LH_act_523  s x1 x2 x3 x4 x5 x6 y1 y2 y3 y4 y5) : AW l g m_LH_act 207 ad0 (am_oC (f_LH_act_523  s x1 x2 x3 x4 x5 x6 y1 y2 y3 y4 y5)) k z 207 s 523 [(0, .ref 0), (1, .int x1), (2, .int x2), (3, .int x3), (4, .int x4), (5, .int x5), (6, .int x6)] [.int y5, .int y4, .int y3, .int y2, .int y1, .ref 0] := by
  obtain ⟨hc, h⟩ := h
  refine ak9_S (as := [.int y4, .int y5]) (rest := [.int y3, .int y2, .int y1, .ref 0]) d_LH_act_523 cw_LH_act_523 rfl (am_1I (ct_LH_low hg hc)) rfl rfl (Nat.le_of_ble_eq_true rfl) (by show k + 0 ≤ 16; omega) (by show z + 0 ≤ 96; omega) ?_
  refine am_iload_n (j := 1) d_LH_act_526 rfl rfl ?_
  refine am_bipush (v := (12 : Int32)) d_LH_act_527 (by decide) ?_
  refine am_ishr d_LH_act_529 ?_
  refine am_bipush (v := (6 : Int32)) d_LH_act_530 (by decide) ?_
  obtain ⟨hc, h⟩ := h
  refine ak9_S (as := [.int (x1 >>> ((12 : Int32) &&& 31)), .int (6 : Int32)]) (rest := [.int (f_LH_low s y4 y5), .int y3, .int y2, .int y1, .ref 0]) d_LH_act_532 cw_LH_act_532 rfl (am_1I (ct_LH_low hg hc)) rfl rfl (Nat.le_of_ble_eq_true rfl) (by show k + 0 + 0 ≤ 16; omega) (by show z + 0 + 0 ≤ 96; omega) ?_
  refine am_iload_n (j := 1) d_LH_act_535 rfl rfl ?_
  refine am_bipush (v := (10 : Int32)) d_LH_act_536 (by decide) ?_
  refine am_ishr d_LH_act_538 ?_
  refine am_bipush (v := (9 : Int32)) d_LH_act_539 (by decide) ?_
  obtain ⟨hc, h⟩ := h
  refine ak9_S (as := [.int (x1 >>> ((10 : Int32) &&& 31)), .int (9 : Int32)]) (rest := [.int (f_LH_low s (x1 >>> ((12 : Int32) &&& 31)) (6 : Int32)), .int (f_LH_low s y4 y5), .int y3, .int y2, .int y1, .ref 0]) d_LH_act_541 cw_LH_act_541 rfl (am_1I (ct_LH_low hg hc)) rfl rfl (Nat.le_of_ble_eq_true rfl) (by show k + 0 + 0 + 0 ≤ 16; omega) (by show z + 0 + 0 + 0 ≤ 96; omega) ?_
  refine am_iconst (v := (2 : Int32)) d_LH_act_544 (by decide) ?_
  refine am_isub d_LH_act_545 ?_
  refine am_iconst (v := (0 : Int32)) d_LH_act_546 (by decide) ?_
  obtain ⟨hc, h⟩ := h
  refine ak9_SX (as := [.ref 0, .int y1, .int y2, .int y3, .int (f_LH_low s y4 y5), .int (f_LH_low s (x1 >>> ((12 : Int32) &&& 31)) (6 : Int32)), .int ((f_LH_low s (x1 >>> ((10 : Int32) &&& 31)) (9 : Int32)) - (2 : Int32)), .int (0 : Int32)]) (rest := []) d_LH_act_547 cw_LH_act_547 rfl (am_1C (ct_LH_sets hg hc)) rfl rfl (Nat.le_of_ble_eq_true rfl) (by show k + 0 + 0 + 0 + 16 ≤ 16; omega) (by show z + 0 + 0 + 0 + 96 ≤ 96; omega) ?_
  exact am_iret d_LH_act_550 rfl rfl (by show k + 0 + 0 + 0 + 16 ≤ 16; omega) (by show z + 0 + 0 + 0 + 96 ≤ 96; omega) am_oC_ok
def f_LH_act_503  (s : am_M) (x1 : Int32) (x2 : Int32) (x3 : Int32) (x4 : Int32) (x5 : Int32) (x6 : Int32) : Int32 × am_M := (if x2 = 0 then (f_LH_act_523 s x1 x2 x3 x4 x5 x6 (7 : Int32) x4 x5 (x1 >>> ((13 : Int32) &&& 31)) (4 : Int32)) else (f_LH_act_523 s x1 x2 x3 x4 x5 x6 (7 : Int32) x4 x5 (x1 >>> ((13 : Int32) &&& 31)) (5 : Int32)))
def p_LH_act_503  (s : am_M) (x1 : Int32) (x2 : Int32) (x3 : Int32) (x4 : Int32) (x5 : Int32) (x6 : Int32) : Prop := ((x2 = 0) → (p_LH_act_523 s x1 x2 x3 x4 x5 x6 (7 : Int32) x4 x5 (x1 >>> ((13 : Int32) &&& 31)) (4 : Int32))) ∧ (¬ (x2 = 0) → (p_LH_act_523 s x1 x2 x3 x4 x5 x6 (7 : Int32) x4 x5 (x1 >>> ((13 : Int32) &&& 31)) (5 : Int32)))
set_option maxRecDepth 8000 in
theorem w_LH_act_503 {l : Launch} {g : am_Gl} (hg : g.2.2.2.1 = true) {ad0 : Nat → Nat}  {s : am_M} {x1 : Int32} {x2 : Int32} {x3 : Int32} {x4 : Int32} {x5 : Int32} {x6 : Int32} {k z : Nat} (hk : k ≤ 0) (hz : z ≤ 0) (h : p_LH_act_503  s x1 x2 x3 x4 x5 x6) : AW l g m_LH_act 207 ad0 (am_oC (f_LH_act_503  s x1 x2 x3 x4 x5 x6)) k z 207 s 503 [(0, .ref 0), (1, .int x1), (2, .int x2), (3, .int x3), (4, .int x4), (5, .int x5), (6, .int x6)] [] := by
  refine am_aload_n (j := 0) d_LH_act_503 rfl rfl ?_
  refine am_bipush (v := (7 : Int32)) d_LH_act_504 (by decide) ?_
  refine am_iload (j := 4) d_LH_act_506 rfl ?_
  refine am_iload (j := 5) d_LH_act_508 rfl ?_
  refine am_iload_n (j := 1) d_LH_act_510 rfl rfl ?_
  refine am_bipush (v := (13 : Int32)) d_LH_act_511 (by decide) ?_
  refine am_ishr d_LH_act_513 ?_
  refine am_iload_n (j := 2) d_LH_act_514 rfl rfl ?_
  refine ai_eq (F := am_oC) (tgt := 522) d_LH_act_515 (by decide) (fun c => ?_) (fun c => ?_)
  · have h := h.1 c
    refine am_iconst (v := (4 : Int32)) d_LH_act_522 (by decide) ?_
    exact w_LH_act_523 hg  (by show k ≤ 0; omega) (by show z ≤ 0; omega) h
  · have h := h.2 c
    refine am_iconst (v := (5 : Int32)) d_LH_act_518 (by decide) ?_
    refine am_goto (tgt := 523) d_LH_act_519 (by decide) ?_
    exact w_LH_act_523 hg  (by show k ≤ 0; omega) (by show z ≤ 0; omega) h
def f_LH_act_858  (s : am_M) (x1 : Int32) (x2 : Int32) (x3 : Int32) (x4 : Int32) (x5 : Int32) (x6 : Int32) (x7 : Int32) (y1 : Int32) (y2 : Int32) (y3 : Int32) (y4 : Int32) (y5 : Int32) (y6 : Int32) : Int32 × am_M := ((f_LH_asks s y1 y2 y3 y4 (f_LH_low s y5 y6) ((f_LH_low s (x1 >>> ((14 : Int32) &&& 31)) (20 : Int32)) - (4 : Int32))).1, (f_LH_asks s y1 y2 y3 y4 (f_LH_low s y5 y6) ((f_LH_low s (x1 >>> ((14 : Int32) &&& 31)) (20 : Int32)) - (4 : Int32))).2)
def p_LH_act_858  (s : am_M) (x1 : Int32) (x2 : Int32) (x3 : Int32) (x4 : Int32) (x5 : Int32) (x6 : Int32) (x7 : Int32) (y1 : Int32) (y2 : Int32) (y3 : Int32) (y4 : Int32) (y5 : Int32) (y6 : Int32) : Prop := p_LH_low s y5 y6 ∧ (p_LH_low s (x1 >>> ((14 : Int32) &&& 31)) (20 : Int32) ∧ (p_LH_asks s y1 y2 y3 y4 (f_LH_low s y5 y6) ((f_LH_low s (x1 >>> ((14 : Int32) &&& 31)) (20 : Int32)) - (4 : Int32)) ∧ (True)))
set_option maxRecDepth 8000 in
theorem w_LH_act_858 {l : Launch} {g : am_Gl} (hg : g.2.2.2.1 = true) {ad0 : Nat → Nat}  {s : am_M} {x1 : Int32} {x2 : Int32} {x3 : Int32} {x4 : Int32} {x5 : Int32} {x6 : Int32} {x7 : Int32} {y1 : Int32} {y2 : Int32} {y3 : Int32} {y4 : Int32} {y5 : Int32} {y6 : Int32} {k z : Nat} (hk : k ≤ 9) (hz : z ≤ 54) (h : p_LH_act_858  s x1 x2 x3 x4 x5 x6 x7 y1 y2 y3 y4 y5 y6) : AW l g m_LH_act 207 ad0 (am_oC (f_LH_act_858  s x1 x2 x3 x4 x5 x6 x7 y1 y2 y3 y4 y5 y6)) k z 207 s 858 [(0, .ref 0), (1, .int x1), (2, .int x2), (3, .int x3), (4, .int x4), (5, .int x5), (6, .int x6), (7, .int x7)] [.int y6, .int y5, .int y4, .int y3, .int y2, .int y1, .ref 0] := by
  obtain ⟨hc, h⟩ := h
  refine ak9_S (as := [.int y5, .int y6]) (rest := [.int y4, .int y3, .int y2, .int y1, .ref 0]) d_LH_act_858 cw_LH_act_858 rfl (am_1I (ct_LH_low hg hc)) rfl rfl (Nat.le_of_ble_eq_true rfl) (by show k + 0 ≤ 16; omega) (by show z + 0 ≤ 96; omega) ?_
  refine am_iload_n (j := 1) d_LH_act_861 rfl rfl ?_
  refine am_bipush (v := (14 : Int32)) d_LH_act_862 (by decide) ?_
  refine am_ishr d_LH_act_864 ?_
  refine am_bipush (v := (20 : Int32)) d_LH_act_865 (by decide) ?_
  obtain ⟨hc, h⟩ := h
  refine ak9_S (as := [.int (x1 >>> ((14 : Int32) &&& 31)), .int (20 : Int32)]) (rest := [.int (f_LH_low s y5 y6), .int y4, .int y3, .int y2, .int y1, .ref 0]) d_LH_act_867 cw_LH_act_867 rfl (am_1I (ct_LH_low hg hc)) rfl rfl (Nat.le_of_ble_eq_true rfl) (by show k + 0 + 0 ≤ 16; omega) (by show z + 0 + 0 ≤ 96; omega) ?_
  refine am_iconst (v := (4 : Int32)) d_LH_act_870 (by decide) ?_
  refine am_isub d_LH_act_871 ?_
  obtain ⟨hc, h⟩ := h
  refine ak9_SX (as := [.ref 0, .int y1, .int y2, .int y3, .int y4, .int (f_LH_low s y5 y6), .int ((f_LH_low s (x1 >>> ((14 : Int32) &&& 31)) (20 : Int32)) - (4 : Int32))]) (rest := []) d_LH_act_872 cw_LH_act_872 rfl (am_1C (ct_LH_asks hg hc)) rfl rfl (Nat.le_of_ble_eq_true rfl) (by show k + 0 + 0 + 7 ≤ 16; omega) (by show z + 0 + 0 + 42 ≤ 96; omega) ?_
  exact am_iret d_LH_act_875 rfl rfl (by show k + 0 + 0 + 7 ≤ 16; omega) (by show z + 0 + 0 + 42 ≤ 96; omega) am_oC_ok
def f_LH_act_840  (s : am_M) (x1 : Int32) (x2 : Int32) (x3 : Int32) (x4 : Int32) (x5 : Int32) (x6 : Int32) (x7 : Int32) (y1 : Int32) (y2 : Int32) (y3 : Int32) (y4 : Int32) : Int32 × am_M := (if x2 = 0 then (f_LH_act_858 s x1 x2 x3 x4 x5 x6 x7 y1 y2 (f_LH_low s y3 y4) x5 (x1 >>> ((12 : Int32) &&& 31)) (4 : Int32)) else (f_LH_act_858 s x1 x2 x3 x4 x5 x6 x7 y1 y2 (f_LH_low s y3 y4) x5 (x1 >>> ((12 : Int32) &&& 31)) (5 : Int32)))
def p_LH_act_840  (s : am_M) (x1 : Int32) (x2 : Int32) (x3 : Int32) (x4 : Int32) (x5 : Int32) (x6 : Int32) (x7 : Int32) (y1 : Int32) (y2 : Int32) (y3 : Int32) (y4 : Int32) : Prop := p_LH_low s y3 y4 ∧ (((x2 = 0) → (p_LH_act_858 s x1 x2 x3 x4 x5 x6 x7 y1 y2 (f_LH_low s y3 y4) x5 (x1 >>> ((12 : Int32) &&& 31)) (4 : Int32))) ∧ (¬ (x2 = 0) → (p_LH_act_858 s x1 x2 x3 x4 x5 x6 x7 y1 y2 (f_LH_low s y3 y4) x5 (x1 >>> ((12 : Int32) &&& 31)) (5 : Int32))))
set_option maxRecDepth 8000 in
theorem w_LH_act_840 {l : Launch} {g : am_Gl} (hg : g.2.2.2.1 = true) {ad0 : Nat → Nat}  {s : am_M} {x1 : Int32} {x2 : Int32} {x3 : Int32} {x4 : Int32} {x5 : Int32} {x6 : Int32} {x7 : Int32} {y1 : Int32} {y2 : Int32} {y3 : Int32} {y4 : Int32} {k z : Nat} (hk : k ≤ 9) (hz : z ≤ 54) (h : p_LH_act_840  s x1 x2 x3 x4 x5 x6 x7 y1 y2 y3 y4) : AW l g m_LH_act 207 ad0 (am_oC (f_LH_act_840  s x1 x2 x3 x4 x5 x6 x7 y1 y2 y3 y4)) k z 207 s 840 [(0, .ref 0), (1, .int x1), (2, .int x2), (3, .int x3), (4, .int x4), (5, .int x5), (6, .int x6), (7, .int x7)] [.int y4, .int y3, .int y2, .int y1, .ref 0] := by
  obtain ⟨hc, h⟩ := h
  refine ak9_S (as := [.int y3, .int y4]) (rest := [.int y2, .int y1, .ref 0]) d_LH_act_840 cw_LH_act_840 rfl (am_1I (ct_LH_low hg hc)) rfl rfl (Nat.le_of_ble_eq_true rfl) (by show k + 0 ≤ 16; omega) (by show z + 0 ≤ 96; omega) ?_
  refine am_iload (j := 5) d_LH_act_843 rfl ?_
  refine am_iload_n (j := 1) d_LH_act_845 rfl rfl ?_
  refine am_bipush (v := (12 : Int32)) d_LH_act_846 (by decide) ?_
  refine am_ishr d_LH_act_848 ?_
  refine am_iload_n (j := 2) d_LH_act_849 rfl rfl ?_
  refine ai_eq (F := am_oC) (tgt := 857) d_LH_act_850 (by decide) (fun c => ?_) (fun c => ?_)
  · have h := h.1 c
    refine am_iconst (v := (4 : Int32)) d_LH_act_857 (by decide) ?_
    exact w_LH_act_858 hg  (by show k + 0 ≤ 9; omega) (by show z + 0 ≤ 54; omega) h
  · have h := h.2 c
    refine am_iconst (v := (5 : Int32)) d_LH_act_853 (by decide) ?_
    refine am_goto (tgt := 858) d_LH_act_854 (by decide) ?_
    exact w_LH_act_858 hg  (by show k + 0 ≤ 9; omega) (by show z + 0 ≤ 54; omega) h
def f_LH_act_736  (s : am_M) (x1 : Int32) (x2 : Int32) (x3 : Int32) (x4 : Int32) (x5 : Int32) (x6 : Int32) (y0 : Int32) : Int32 × am_M := (if (40 : Int32) ≤ x3 then (if (41 : Int32) ≤ x3 then (if x2 = 0 then (f_LH_act_840 s x1 x2 x3 x4 x5 x6 y0 (1 : Int32) (f_LH_low s (x1 >>> ((7 : Int32) &&& 31)) (8 : Int32)) (x1 >>> ((9 : Int32) &&& 31)) (3 : Int32)) else (f_LH_act_840 s x1 x2 x3 x4 x5 x6 y0 (1 : Int32) (f_LH_low s (x1 >>> ((7 : Int32) &&& 31)) (8 : Int32)) (x1 >>> ((9 : Int32) &&& 31)) (4 : Int32))) else ((f_LH_asks s ((2 : Int32) + ((x1 >>> ((15 : Int32) &&& 31)) &&& (1 : Int32))) y0 x5 (f_LH_low s (x1 >>> ((12 : Int32) &&& 31)) (6 : Int32)) (f_LH_low s (x1 >>> ((10 : Int32) &&& 31)) (6 : Int32)) (0 : Int32)).1, (f_LH_asks s ((2 : Int32) + ((x1 >>> ((15 : Int32) &&& 31)) &&& (1 : Int32))) y0 x5 (f_LH_low s (x1 >>> ((12 : Int32) &&& 31)) (6 : Int32)) (f_LH_low s (x1 >>> ((10 : Int32) &&& 31)) (6 : Int32)) (0 : Int32)).2)) else (if ((x1 >>> ((14 : Int32) &&& 31)) &&& (1 : Int32)) = 0 then ((f_LH_asks s (0 : Int32) y0 (-1 : Int32) (0 : Int32) (0 : Int32) (0 : Int32)).1, (f_LH_asks s (0 : Int32) y0 (-1 : Int32) (0 : Int32) (0 : Int32) (0 : Int32)).2) else ((f_LH_asks s (0 : Int32) y0 x5 (0 : Int32) (0 : Int32) (0 : Int32)).1, (f_LH_asks s (0 : Int32) y0 x5 (0 : Int32) (0 : Int32) (0 : Int32)).2)))
def p_LH_act_736  (s : am_M) (x1 : Int32) (x2 : Int32) (x3 : Int32) (x4 : Int32) (x5 : Int32) (x6 : Int32) (y0 : Int32) : Prop := (((40 : Int32) ≤ x3) → (((41 : Int32) ≤ x3) → p_LH_low s (x1 >>> ((7 : Int32) &&& 31)) (8 : Int32) ∧ (((x2 = 0) → (p_LH_act_840 s x1 x2 x3 x4 x5 x6 y0 (1 : Int32) (f_LH_low s (x1 >>> ((7 : Int32) &&& 31)) (8 : Int32)) (x1 >>> ((9 : Int32) &&& 31)) (3 : Int32))) ∧ (¬ (x2 = 0) → (p_LH_act_840 s x1 x2 x3 x4 x5 x6 y0 (1 : Int32) (f_LH_low s (x1 >>> ((7 : Int32) &&& 31)) (8 : Int32)) (x1 >>> ((9 : Int32) &&& 31)) (4 : Int32))))) ∧ (¬ ((41 : Int32) ≤ x3) → p_LH_low s (x1 >>> ((12 : Int32) &&& 31)) (6 : Int32) ∧ (p_LH_low s (x1 >>> ((10 : Int32) &&& 31)) (6 : Int32) ∧ (p_LH_asks s ((2 : Int32) + ((x1 >>> ((15 : Int32) &&& 31)) &&& (1 : Int32))) y0 x5 (f_LH_low s (x1 >>> ((12 : Int32) &&& 31)) (6 : Int32)) (f_LH_low s (x1 >>> ((10 : Int32) &&& 31)) (6 : Int32)) (0 : Int32) ∧ (True))))) ∧ (¬ ((40 : Int32) ≤ x3) → ((((x1 >>> ((14 : Int32) &&& 31)) &&& (1 : Int32)) = 0) → p_LH_asks s (0 : Int32) y0 (-1 : Int32) (0 : Int32) (0 : Int32) (0 : Int32) ∧ (True)) ∧ (¬ (((x1 >>> ((14 : Int32) &&& 31)) &&& (1 : Int32)) = 0) → p_LH_asks s (0 : Int32) y0 x5 (0 : Int32) (0 : Int32) (0 : Int32) ∧ (True)))
set_option maxRecDepth 8000 in
theorem w_LH_act_736 {l : Launch} {g : am_Gl} (hg : g.2.2.2.1 = true) {ad0 : Nat → Nat}  {s : am_M} {x1 : Int32} {x2 : Int32} {x3 : Int32} {x4 : Int32} {x5 : Int32} {x6 : Int32} {y0 : Int32} {k z : Nat} (hk : k ≤ 9) (hz : z ≤ 54) (h : p_LH_act_736  s x1 x2 x3 x4 x5 x6 y0) : AW l g m_LH_act 207 ad0 (am_oC (f_LH_act_736  s x1 x2 x3 x4 x5 x6 y0)) k z 207 s 736 [(0, .ref 0), (1, .int x1), (2, .int x2), (3, .int x3), (4, .int x4), (5, .int x5), (6, .int x6)] [.int y0] := by
  refine am_istore (lv2 := [(7, .int y0), (0, .ref 0), (1, .int x1), (2, .int x2), (3, .int x3), (4, .int x4), (5, .int x5), (6, .int x6)]) d_LH_act_736 (by decide) rfl ?_
  refine am_iload_n (j := 4) d_LH_act_738 rfl rfl ?_
  refine am_bipush (v := (40 : Int32)) d_LH_act_739 (by decide) ?_
  refine aj_ge (F := am_oC) (tgt := 772) d_LH_act_741 (by decide) (fun c => ?_) (fun c => ?_)
  · have h := h.1 c
    refine am_iload_n (j := 4) d_LH_act_772 rfl rfl ?_
    refine am_bipush (v := (41 : Int32)) d_LH_act_773 (by decide) ?_
    refine aj_ge (F := am_oC) (tgt := 816) d_LH_act_775 (by decide) (fun c => ?_) (fun c => ?_)
    · have h := h.1 c
      refine am_aload_n (j := 1) d_LH_act_816 rfl rfl ?_
      refine am_iconst (v := (1 : Int32)) d_LH_act_817 (by decide) ?_
      refine am_iload_n (j := 2) d_LH_act_818 rfl rfl ?_
      refine am_bipush (v := (7 : Int32)) d_LH_act_819 (by decide) ?_
      refine am_ishr d_LH_act_821 ?_
      refine am_bipush (v := (8 : Int32)) d_LH_act_822 (by decide) ?_
      obtain ⟨hc, h⟩ := h
      refine ak9_S (as := [.int (x1 >>> ((7 : Int32) &&& 31)), .int (8 : Int32)]) (rest := [.int (1 : Int32), .ref 0]) d_LH_act_824 cw_LH_act_824 rfl (am_1I (ct_LH_low hg hc)) rfl rfl (Nat.le_of_ble_eq_true rfl) (by show k + 0 ≤ 16; omega) (by show z + 0 ≤ 96; omega) ?_
      refine am_iload_n (j := 2) d_LH_act_827 rfl rfl ?_
      refine am_bipush (v := (9 : Int32)) d_LH_act_828 (by decide) ?_
      refine am_ishr d_LH_act_830 ?_
      refine am_iload_n (j := 3) d_LH_act_831 rfl rfl ?_
      refine ai_eq (F := am_oC) (tgt := 839) d_LH_act_832 (by decide) (fun c => ?_) (fun c => ?_)
      · have h := h.1 c
        refine am_iconst (v := (3 : Int32)) d_LH_act_839 (by decide) ?_
        refine am_sub [1, 2, 3, 4, 5, 6, 7, 0] (lv2 := [(0, .ref 0), (1, .int x1), (2, .int x2), (3, .int x3), (4, .int x4), (5, .int x5), (6, .int x6), (7, .int y0)]) rfl ?_
        exact w_LH_act_840 hg  (by show k + 0 ≤ 9; omega) (by show z + 0 ≤ 54; omega) h
      · have h := h.2 c
        refine am_iconst (v := (4 : Int32)) d_LH_act_835 (by decide) ?_
        refine am_goto (tgt := 840) d_LH_act_836 (by decide) ?_
        refine am_sub [1, 2, 3, 4, 5, 6, 7, 0] (lv2 := [(0, .ref 0), (1, .int x1), (2, .int x2), (3, .int x3), (4, .int x4), (5, .int x5), (6, .int x6), (7, .int y0)]) rfl ?_
        exact w_LH_act_840 hg  (by show k + 0 ≤ 9; omega) (by show z + 0 ≤ 54; omega) h
    · have h := h.2 c
      refine am_aload_n (j := 1) d_LH_act_778 rfl rfl ?_
      refine am_iconst (v := (2 : Int32)) d_LH_act_779 (by decide) ?_
      refine am_iload_n (j := 2) d_LH_act_780 rfl rfl ?_
      refine am_bipush (v := (15 : Int32)) d_LH_act_781 (by decide) ?_
      refine am_ishr d_LH_act_783 ?_
      refine am_iconst (v := (1 : Int32)) d_LH_act_784 (by decide) ?_
      refine am_iand d_LH_act_785 ?_
      refine am_iadd d_LH_act_786 ?_
      refine am_iload (j := 0) d_LH_act_787 rfl ?_
      refine am_iload (j := 6) d_LH_act_789 rfl ?_
      refine am_iload_n (j := 2) d_LH_act_791 rfl rfl ?_
      refine am_bipush (v := (12 : Int32)) d_LH_act_792 (by decide) ?_
      refine am_ishr d_LH_act_794 ?_
      refine am_bipush (v := (6 : Int32)) d_LH_act_795 (by decide) ?_
      obtain ⟨hc, h⟩ := h
      refine ak9_S (as := [.int (x1 >>> ((12 : Int32) &&& 31)), .int (6 : Int32)]) (rest := [.int x5, .int y0, .int ((2 : Int32) + ((x1 >>> ((15 : Int32) &&& 31)) &&& (1 : Int32))), .ref 0]) d_LH_act_797 cw_LH_act_797 rfl (am_1I (ct_LH_low hg hc)) rfl rfl (Nat.le_of_ble_eq_true rfl) (by show k + 0 ≤ 16; omega) (by show z + 0 ≤ 96; omega) ?_
      refine am_iload_n (j := 2) d_LH_act_800 rfl rfl ?_
      refine am_bipush (v := (10 : Int32)) d_LH_act_801 (by decide) ?_
      refine am_ishr d_LH_act_803 ?_
      refine am_bipush (v := (6 : Int32)) d_LH_act_804 (by decide) ?_
      obtain ⟨hc, h⟩ := h
      refine ak9_S (as := [.int (x1 >>> ((10 : Int32) &&& 31)), .int (6 : Int32)]) (rest := [.int (f_LH_low s (x1 >>> ((12 : Int32) &&& 31)) (6 : Int32)), .int x5, .int y0, .int ((2 : Int32) + ((x1 >>> ((15 : Int32) &&& 31)) &&& (1 : Int32))), .ref 0]) d_LH_act_806 cw_LH_act_806 rfl (am_1I (ct_LH_low hg hc)) rfl rfl (Nat.le_of_ble_eq_true rfl) (by show k + 0 + 0 ≤ 16; omega) (by show z + 0 + 0 ≤ 96; omega) ?_
      refine am_iconst (v := (0 : Int32)) d_LH_act_809 (by decide) ?_
      obtain ⟨hc, h⟩ := h
      refine ak9_SX (as := [.ref 0, .int ((2 : Int32) + ((x1 >>> ((15 : Int32) &&& 31)) &&& (1 : Int32))), .int y0, .int x5, .int (f_LH_low s (x1 >>> ((12 : Int32) &&& 31)) (6 : Int32)), .int (f_LH_low s (x1 >>> ((10 : Int32) &&& 31)) (6 : Int32)), .int (0 : Int32)]) (rest := []) d_LH_act_810 cw_LH_act_810 rfl (am_1C (ct_LH_asks hg hc)) rfl rfl (Nat.le_of_ble_eq_true rfl) (by show k + 0 + 0 + 7 ≤ 16; omega) (by show z + 0 + 0 + 42 ≤ 96; omega) ?_
      refine am_goto (tgt := 875) d_LH_act_813 (by decide) ?_
      exact am_iret d_LH_act_875 rfl rfl (by show k + 0 + 0 + 7 ≤ 16; omega) (by show z + 0 + 0 + 42 ≤ 96; omega) am_oC_ok
  · have h := h.2 c
    refine am_aload_n (j := 1) d_LH_act_744 rfl rfl ?_
    refine am_iconst (v := (0 : Int32)) d_LH_act_745 (by decide) ?_
    refine am_iload (j := 0) d_LH_act_746 rfl ?_
    refine am_iload_n (j := 2) d_LH_act_748 rfl rfl ?_
    refine am_bipush (v := (14 : Int32)) d_LH_act_749 (by decide) ?_
    refine am_ishr d_LH_act_751 ?_
    refine am_iconst (v := (1 : Int32)) d_LH_act_752 (by decide) ?_
    refine am_iand d_LH_act_753 ?_
    refine ai_ne (F := am_oC) (tgt := 761) d_LH_act_754 (by decide) (fun c => ?_) (fun c => ?_)
    · have h := h.2 c
      refine am_iload (j := 6) d_LH_act_761 rfl ?_
      refine am_iconst (v := (0 : Int32)) d_LH_act_763 (by decide) ?_
      refine am_iconst (v := (0 : Int32)) d_LH_act_764 (by decide) ?_
      refine am_iconst (v := (0 : Int32)) d_LH_act_765 (by decide) ?_
      obtain ⟨hc, h⟩ := h
      refine ak9_SX (as := [.ref 0, .int (0 : Int32), .int y0, .int x5, .int (0 : Int32), .int (0 : Int32), .int (0 : Int32)]) (rest := []) d_LH_act_766 cw_LH_act_766 rfl (am_1C (ct_LH_asks hg hc)) rfl rfl (Nat.le_of_ble_eq_true rfl) (by show k + 7 ≤ 16; omega) (by show z + 42 ≤ 96; omega) ?_
      refine am_goto (tgt := 875) d_LH_act_769 (by decide) ?_
      exact am_iret d_LH_act_875 rfl rfl (by show k + 7 ≤ 16; omega) (by show z + 42 ≤ 96; omega) am_oC_ok
    · have h := h.1 c
      refine am_iconst (v := (-1 : Int32)) d_LH_act_757 (by decide) ?_
      refine am_goto (tgt := 763) d_LH_act_758 (by decide) ?_
      refine am_iconst (v := (0 : Int32)) d_LH_act_763 (by decide) ?_
      refine am_iconst (v := (0 : Int32)) d_LH_act_764 (by decide) ?_
      refine am_iconst (v := (0 : Int32)) d_LH_act_765 (by decide) ?_
      obtain ⟨hc, h⟩ := h
      refine ak9_SX (as := [.ref 0, .int (0 : Int32), .int y0, .int (-1 : Int32), .int (0 : Int32), .int (0 : Int32), .int (0 : Int32)]) (rest := []) d_LH_act_766 cw_LH_act_766 rfl (am_1C (ct_LH_asks hg hc)) rfl rfl (Nat.le_of_ble_eq_true rfl) (by show k + 7 ≤ 16; omega) (by show z + 42 ≤ 96; omega) ?_
      refine am_goto (tgt := 875) d_LH_act_769 (by decide) ?_
      exact am_iret d_LH_act_875 rfl rfl (by show k + 7 ≤ 16; omega) (by show z + 42 ≤ 96; omega) am_oC_ok
def f_LH_act_732  (s : am_M) (x1 : Int32) (x2 : Int32) (x3 : Int32) (x4 : Int32) (x5 : Int32) (x6 : Int32) (y0 : Int32) (y1 : Int32) (y2 : Int32) : Int32 × am_M := (f_LH_act_736 s x1 x2 x3 x4 x5 x6 (y0 + (f_LH_low s y1 y2)))
def p_LH_act_732  (s : am_M) (x1 : Int32) (x2 : Int32) (x3 : Int32) (x4 : Int32) (x5 : Int32) (x6 : Int32) (y0 : Int32) (y1 : Int32) (y2 : Int32) : Prop := p_LH_low s y1 y2 ∧ ((p_LH_act_736 s x1 x2 x3 x4 x5 x6 (y0 + (f_LH_low s y1 y2))))
set_option maxRecDepth 8000 in
theorem w_LH_act_732 {l : Launch} {g : am_Gl} (hg : g.2.2.2.1 = true) {ad0 : Nat → Nat}  {s : am_M} {x1 : Int32} {x2 : Int32} {x3 : Int32} {x4 : Int32} {x5 : Int32} {x6 : Int32} {y0 : Int32} {y1 : Int32} {y2 : Int32} {k z : Nat} (hk : k ≤ 9) (hz : z ≤ 54) (h : p_LH_act_732  s x1 x2 x3 x4 x5 x6 y0 y1 y2) : AW l g m_LH_act 207 ad0 (am_oC (f_LH_act_732  s x1 x2 x3 x4 x5 x6 y0 y1 y2)) k z 207 s 732 [(0, .ref 0), (1, .int x1), (2, .int x2), (3, .int x3), (4, .int x4), (5, .int x5), (6, .int x6)] [.int y2, .int y1, .int y0] := by
  obtain ⟨hc, h⟩ := h
  refine ak9_S (as := [.int y1, .int y2]) (rest := [.int y0]) d_LH_act_732 cw_LH_act_732 rfl (am_1I (ct_LH_low hg hc)) rfl rfl (Nat.le_of_ble_eq_true rfl) (by show k + 0 ≤ 16; omega) (by show z + 0 ≤ 96; omega) ?_
  refine am_iadd d_LH_act_735 ?_
  exact w_LH_act_736 hg  (by show k + 0 ≤ 9; omega) (by show z + 0 ≤ 54; omega) h
def f_LH_act_109  (s : am_M) (x1 : Int32) (x2 : Int32) (x3 : Int32) (x4 : Int32) (x5 : Int32) (y0 : Int32) : Int32 × am_M := (if (5 : Int32) ≤ x3 then (if (9 : Int32) ≤ x3 then (if (15 : Int32) ≤ x3 then (if (21 : Int32) ≤ x3 then (if (30 : Int32) ≤ x3 then (if (38 : Int32) ≤ x3 then (if (43 : Int32) ≤ x3 then (if (47 : Int32) ≤ x3 then (if (49 : Int32) ≤ x3 then ((f_LH_does s (10 : Int32) (0 : Int32) (0 : Int32) (0 : Int32)).1, (f_LH_does s (10 : Int32) (0 : Int32) (0 : Int32) (0 : Int32)).2) else (if x2 = 0 then ((f_LH_does s (11 : Int32) (f_LH_low s (x1 >>> ((7 : Int32) &&& 31)) (3 : Int32)) (0 : Int32) (0 : Int32)).1, (f_LH_does s (11 : Int32) (f_LH_low s (x1 >>> ((7 : Int32) &&& 31)) (3 : Int32)) (0 : Int32) (0 : Int32)).2) else ((f_LH_does s (11 : Int32) (f_LH_low s (x1 >>> ((7 : Int32) &&& 31)) (6 : Int32)) (0 : Int32) (0 : Int32)).1, (f_LH_does s (11 : Int32) (f_LH_low s (x1 >>> ((7 : Int32) &&& 31)) (6 : Int32)) (0 : Int32) (0 : Int32)).2))) else (if x3 = (43 : Int32) then ((f_LH_does s (3 : Int32) (0 : Int32) (0 : Int32) (0 : Int32)).1, (f_LH_does s (3 : Int32) (0 : Int32) (0 : Int32) (0 : Int32)).2) else (if x3 = (44 : Int32) then ((f_LH_asks s (7 : Int32) (f_LH_low s (x1 >>> ((7 : Int32) &&& 31)) (3 : Int32)) (f_LH_low s (x1 >>> ((9 : Int32) &&& 31)) (6 : Int32)) x5 (f_LH_number s (x1 >>> ((12 : Int32) &&& 31)) x2) (0 : Int32)).1, (f_LH_asks s (7 : Int32) (f_LH_low s (x1 >>> ((7 : Int32) &&& 31)) (3 : Int32)) (f_LH_low s (x1 >>> ((9 : Int32) &&& 31)) (6 : Int32)) x5 (f_LH_number s (x1 >>> ((12 : Int32) &&& 31)) x2) (0 : Int32)).2) else (if x3 = (45 : Int32) then (if ((x1 >>> ((13 : Int32) &&& 31)) &&& (1 : Int32)) = 0 then ((f_LH_asks s (8 : Int32) (f_LH_low s (x1 >>> ((7 : Int32) &&& 31)) (3 : Int32)) x4 (0 : Int32) (0 : Int32) (0 : Int32)).1, (f_LH_asks s (8 : Int32) (f_LH_low s (x1 >>> ((7 : Int32) &&& 31)) (3 : Int32)) x4 (0 : Int32) (0 : Int32) (0 : Int32)).2) else (if x2 = 0 then ((f_LH_asks s (10 : Int32) (f_LH_low s (x1 >>> ((7 : Int32) &&& 31)) (3 : Int32)) (f_LH_low s (x1 >>> ((9 : Int32) &&& 31)) (6 : Int32)) ((1 : Int32) + (f_LH_low s (x1 >>> ((12 : Int32) &&& 31)) (4 : Int32))) (0 : Int32) (0 : Int32)).1, (f_LH_asks s (10 : Int32) (f_LH_low s (x1 >>> ((7 : Int32) &&& 31)) (3 : Int32)) (f_LH_low s (x1 >>> ((9 : Int32) &&& 31)) (6 : Int32)) ((1 : Int32) + (f_LH_low s (x1 >>> ((12 : Int32) &&& 31)) (4 : Int32))) (0 : Int32) (0 : Int32)).2) else ((f_LH_asks s (10 : Int32) (f_LH_low s (x1 >>> ((7 : Int32) &&& 31)) (3 : Int32)) (f_LH_low s (x1 >>> ((9 : Int32) &&& 31)) (6 : Int32)) ((1 : Int32) + (f_LH_low s (x1 >>> ((12 : Int32) &&& 31)) (7 : Int32))) (0 : Int32) (0 : Int32)).1, (f_LH_asks s (10 : Int32) (f_LH_low s (x1 >>> ((7 : Int32) &&& 31)) (3 : Int32)) (f_LH_low s (x1 >>> ((9 : Int32) &&& 31)) (6 : Int32)) ((1 : Int32) + (f_LH_low s (x1 >>> ((12 : Int32) &&& 31)) (7 : Int32))) (0 : Int32) (0 : Int32)).2))) else ((f_LH_asks s (9 : Int32) (f_LH_low s (x1 >>> ((7 : Int32) &&& 31)) (3 : Int32)) (f_LH_low s (x1 >>> ((9 : Int32) &&& 31)) (6 : Int32)) x5 (0 : Int32) (0 : Int32)).1, (f_LH_asks s (9 : Int32) (f_LH_low s (x1 >>> ((7 : Int32) &&& 31)) (3 : Int32)) (f_LH_low s (x1 >>> ((9 : Int32) &&& 31)) (6 : Int32)) x5 (0 : Int32) (0 : Int32)).2))))) else (if ((x1 >>> ((13 : Int32) &&& 31)) &&& (1 : Int32)) = 0 then (f_LH_act_736 s x1 x2 x3 x4 x5 y0 x4) else (if x2 = 0 then (f_LH_act_732 s x1 x2 x3 x4 x5 y0 (10 : Int32) (x1 >>> ((7 : Int32) &&& 31)) (6 : Int32)) else (f_LH_act_732 s x1 x2 x3 x4 x5 y0 (10 : Int32) (x1 >>> ((7 : Int32) &&& 31)) (9 : Int32))))) else (if (36 : Int32) ≤ x3 then ((f_LH_does s (8 : Int32) x4 y0 (0 : Int32)).1, (f_LH_does s (8 : Int32) x4 y0 (0 : Int32)).2) else ((f_LH_sets s (8 : Int32) x4 y0 x5 (f_LH_number s (x1 >>> ((13 : Int32) &&& 31)) x2) (0 : Int32) (0 : Int32)).1, (f_LH_sets s (8 : Int32) x4 y0 x5 (f_LH_number s (x1 >>> ((13 : Int32) &&& 31)) x2) (0 : Int32) (0 : Int32)).2))) else (if (28 : Int32) ≤ x3 then (if x3 = (28 : Int32) then ((f_LH_does s (9 : Int32) x4 y0 (0 : Int32)).1, (f_LH_does s (9 : Int32) x4 y0 (0 : Int32)).2) else ((f_LH_does s (7 : Int32) x4 x5 (0 : Int32)).1, (f_LH_does s (7 : Int32) x4 x5 (0 : Int32)).2)) else ((f_LH_does s (6 : Int32) x4 (0 : Int32) (0 : Int32)).1, (f_LH_does s (6 : Int32) x4 (0 : Int32) (0 : Int32)).2))) else (if x2 = 0 then ((f_LH_does s (5 : Int32) (f_LH_low s (x1 >>> ((9 : Int32) &&& 31)) (4 : Int32)) (f_LH_number s (x1 >>> ((11 : Int32) &&& 31)) x2) (0 : Int32)).1, (f_LH_does s (5 : Int32) (f_LH_low s (x1 >>> ((9 : Int32) &&& 31)) (4 : Int32)) (f_LH_number s (x1 >>> ((11 : Int32) &&& 31)) x2) (0 : Int32)).2) else ((f_LH_does s (5 : Int32) x5 (f_LH_number s (x1 >>> ((11 : Int32) &&& 31)) x2) (0 : Int32)).1, (f_LH_does s (5 : Int32) x5 (f_LH_number s (x1 >>> ((11 : Int32) &&& 31)) x2) (0 : Int32)).2))) else (if (11 : Int32) ≤ x3 then (if (13 : Int32) ≤ x3 then (if x3 = (13 : Int32) then (if ((x1 >>> ((13 : Int32) &&& 31)) &&& (1 : Int32)) = 0 then ((f_LH_sets s (5 : Int32) x4 x5 (0 : Int32) (0 : Int32) (0 : Int32) (0 : Int32)).1, (f_LH_sets s (5 : Int32) x4 x5 (0 : Int32) (0 : Int32) (0 : Int32) (0 : Int32)).2) else (f_LH_act_503 s x1 x2 x3 x4 x5 y0)) else (f_LH_act_503 s x1 x2 x3 x4 x5 y0)) else (if x3 = (11 : Int32) then (f_LH_act_425 s x1 x2 x3 x4 x5 y0 (4 : Int32)) else (f_LH_act_425 s x1 x2 x3 x4 x5 y0 (6 : Int32)))) else ((f_LH_sets s ((2 : Int32) + (x3 &&& (1 : Int32))) x4 x5 ((x1 >>> ((13 : Int32) &&& 31)) &&& (1 : Int32)) (0 : Int32) (0 : Int32) (0 : Int32)).1, (f_LH_sets s ((2 : Int32) + (x3 &&& (1 : Int32))) x4 x5 ((x1 >>> ((13 : Int32) &&& 31)) &&& (1 : Int32)) (0 : Int32) (0 : Int32) (0 : Int32)).2))) else (if (7 : Int32) ≤ x3 then (f_LH_act_273 s x1 x2 x3 x4 x5 y0 (0 : Int32)) else (f_LH_act_273 s x1 x2 x3 x4 x5 y0 (1 : Int32)))) else (if x3 = 0 then ((f_LH_does s (0 : Int32) (0 : Int32) (0 : Int32) (0 : Int32)).1, (f_LH_does s (0 : Int32) (0 : Int32) (0 : Int32) (0 : Int32)).2) else (if (3 : Int32) ≤ x3 then (if x2 = 0 then (f_LH_act_227 s x1 x2 x3 x4 x5 y0 (2 : Int32) x4 (f_LH_low s (x1 >>> ((9 : Int32) &&& 31)) (3 : Int32))) else (f_LH_act_227 s x1 x2 x3 x4 x5 y0 (2 : Int32) x4 ((f_LH_low s (x1 >>> ((9 : Int32) &&& 31)) (7 : Int32)) - (1 : Int32)))) else (if x2 = 0 then (f_LH_act_170 s x1 x2 x3 x4 x5 y0 (1 : Int32) x4 (-(f_LH_low s (x1 >>> ((9 : Int32) &&& 31)) (5 : Int32)))) else (f_LH_act_170 s x1 x2 x3 x4 x5 y0 (1 : Int32) x4 ((f_LH_low s (x1 >>> ((9 : Int32) &&& 31)) (30000 : Int32)) - (15000 : Int32)))))))
def p_LH_act_109  (s : am_M) (x1 : Int32) (x2 : Int32) (x3 : Int32) (x4 : Int32) (x5 : Int32) (y0 : Int32) : Prop := (((5 : Int32) ≤ x3) → (((9 : Int32) ≤ x3) → (((15 : Int32) ≤ x3) → (((21 : Int32) ≤ x3) → (((30 : Int32) ≤ x3) → (((38 : Int32) ≤ x3) → (((43 : Int32) ≤ x3) → (((47 : Int32) ≤ x3) → (((49 : Int32) ≤ x3) → p_LH_does s (10 : Int32) (0 : Int32) (0 : Int32) (0 : Int32) ∧ (True)) ∧ (¬ ((49 : Int32) ≤ x3) → ((x2 = 0) → p_LH_low s (x1 >>> ((7 : Int32) &&& 31)) (3 : Int32) ∧ (p_LH_does s (11 : Int32) (f_LH_low s (x1 >>> ((7 : Int32) &&& 31)) (3 : Int32)) (0 : Int32) (0 : Int32) ∧ (True))) ∧ (¬ (x2 = 0) → p_LH_low s (x1 >>> ((7 : Int32) &&& 31)) (6 : Int32) ∧ (p_LH_does s (11 : Int32) (f_LH_low s (x1 >>> ((7 : Int32) &&& 31)) (6 : Int32)) (0 : Int32) (0 : Int32) ∧ (True))))) ∧ (¬ ((47 : Int32) ≤ x3) → p_LH_low s (x1 >>> ((7 : Int32) &&& 31)) (3 : Int32) ∧ (p_LH_low s (x1 >>> ((9 : Int32) &&& 31)) (6 : Int32) ∧ (((x3 = (43 : Int32)) → p_LH_does s (3 : Int32) (0 : Int32) (0 : Int32) (0 : Int32) ∧ (True)) ∧ (¬ (x3 = (43 : Int32)) → ((x3 = (44 : Int32)) → p_LH_number s (x1 >>> ((12 : Int32) &&& 31)) x2 ∧ (p_LH_asks s (7 : Int32) (f_LH_low s (x1 >>> ((7 : Int32) &&& 31)) (3 : Int32)) (f_LH_low s (x1 >>> ((9 : Int32) &&& 31)) (6 : Int32)) x5 (f_LH_number s (x1 >>> ((12 : Int32) &&& 31)) x2) (0 : Int32) ∧ (True))) ∧ (¬ (x3 = (44 : Int32)) → ((x3 = (45 : Int32)) → ((((x1 >>> ((13 : Int32) &&& 31)) &&& (1 : Int32)) = 0) → p_LH_asks s (8 : Int32) (f_LH_low s (x1 >>> ((7 : Int32) &&& 31)) (3 : Int32)) x4 (0 : Int32) (0 : Int32) (0 : Int32) ∧ (True)) ∧ (¬ (((x1 >>> ((13 : Int32) &&& 31)) &&& (1 : Int32)) = 0) → ((x2 = 0) → p_LH_low s (x1 >>> ((12 : Int32) &&& 31)) (4 : Int32) ∧ (p_LH_asks s (10 : Int32) (f_LH_low s (x1 >>> ((7 : Int32) &&& 31)) (3 : Int32)) (f_LH_low s (x1 >>> ((9 : Int32) &&& 31)) (6 : Int32)) ((1 : Int32) + (f_LH_low s (x1 >>> ((12 : Int32) &&& 31)) (4 : Int32))) (0 : Int32) (0 : Int32) ∧ (True))) ∧ (¬ (x2 = 0) → p_LH_low s (x1 >>> ((12 : Int32) &&& 31)) (7 : Int32) ∧ (p_LH_asks s (10 : Int32) (f_LH_low s (x1 >>> ((7 : Int32) &&& 31)) (3 : Int32)) (f_LH_low s (x1 >>> ((9 : Int32) &&& 31)) (6 : Int32)) ((1 : Int32) + (f_LH_low s (x1 >>> ((12 : Int32) &&& 31)) (7 : Int32))) (0 : Int32) (0 : Int32) ∧ (True))))) ∧ (¬ (x3 = (45 : Int32)) → p_LH_asks s (9 : Int32) (f_LH_low s (x1 >>> ((7 : Int32) &&& 31)) (3 : Int32)) (f_LH_low s (x1 >>> ((9 : Int32) &&& 31)) (6 : Int32)) x5 (0 : Int32) (0 : Int32) ∧ (True)))))))) ∧ (¬ ((43 : Int32) ≤ x3) → ((((x1 >>> ((13 : Int32) &&& 31)) &&& (1 : Int32)) = 0) → (p_LH_act_736 s x1 x2 x3 x4 x5 y0 x4)) ∧ (¬ (((x1 >>> ((13 : Int32) &&& 31)) &&& (1 : Int32)) = 0) → ((x2 = 0) → (p_LH_act_732 s x1 x2 x3 x4 x5 y0 (10 : Int32) (x1 >>> ((7 : Int32) &&& 31)) (6 : Int32))) ∧ (¬ (x2 = 0) → (p_LH_act_732 s x1 x2 x3 x4 x5 y0 (10 : Int32) (x1 >>> ((7 : Int32) &&& 31)) (9 : Int32)))))) ∧ (¬ ((38 : Int32) ≤ x3) → (((36 : Int32) ≤ x3) → p_LH_does s (8 : Int32) x4 y0 (0 : Int32) ∧ (True)) ∧ (¬ ((36 : Int32) ≤ x3) → p_LH_number s (x1 >>> ((13 : Int32) &&& 31)) x2 ∧ (p_LH_sets s (8 : Int32) x4 y0 x5 (f_LH_number s (x1 >>> ((13 : Int32) &&& 31)) x2) (0 : Int32) (0 : Int32) ∧ (True))))) ∧ (¬ ((30 : Int32) ≤ x3) → (((28 : Int32) ≤ x3) → ((x3 = (28 : Int32)) → p_LH_does s (9 : Int32) x4 y0 (0 : Int32) ∧ (True)) ∧ (¬ (x3 = (28 : Int32)) → p_LH_does s (7 : Int32) x4 x5 (0 : Int32) ∧ (True))) ∧ (¬ ((28 : Int32) ≤ x3) → p_LH_does s (6 : Int32) x4 (0 : Int32) (0 : Int32) ∧ (True)))) ∧ (¬ ((21 : Int32) ≤ x3) → ((x2 = 0) → p_LH_low s (x1 >>> ((9 : Int32) &&& 31)) (4 : Int32) ∧ (p_LH_number s (x1 >>> ((11 : Int32) &&& 31)) x2 ∧ (p_LH_does s (5 : Int32) (f_LH_low s (x1 >>> ((9 : Int32) &&& 31)) (4 : Int32)) (f_LH_number s (x1 >>> ((11 : Int32) &&& 31)) x2) (0 : Int32) ∧ (True)))) ∧ (¬ (x2 = 0) → p_LH_number s (x1 >>> ((11 : Int32) &&& 31)) x2 ∧ (p_LH_does s (5 : Int32) x5 (f_LH_number s (x1 >>> ((11 : Int32) &&& 31)) x2) (0 : Int32) ∧ (True))))) ∧ (¬ ((15 : Int32) ≤ x3) → (((11 : Int32) ≤ x3) → (((13 : Int32) ≤ x3) → ((x3 = (13 : Int32)) → ((((x1 >>> ((13 : Int32) &&& 31)) &&& (1 : Int32)) = 0) → p_LH_sets s (5 : Int32) x4 x5 (0 : Int32) (0 : Int32) (0 : Int32) (0 : Int32) ∧ (True)) ∧ (¬ (((x1 >>> ((13 : Int32) &&& 31)) &&& (1 : Int32)) = 0) → (p_LH_act_503 s x1 x2 x3 x4 x5 y0))) ∧ (¬ (x3 = (13 : Int32)) → (p_LH_act_503 s x1 x2 x3 x4 x5 y0))) ∧ (¬ ((13 : Int32) ≤ x3) → ((x3 = (11 : Int32)) → (p_LH_act_425 s x1 x2 x3 x4 x5 y0 (4 : Int32))) ∧ (¬ (x3 = (11 : Int32)) → (p_LH_act_425 s x1 x2 x3 x4 x5 y0 (6 : Int32))))) ∧ (¬ ((11 : Int32) ≤ x3) → p_LH_sets s ((2 : Int32) + (x3 &&& (1 : Int32))) x4 x5 ((x1 >>> ((13 : Int32) &&& 31)) &&& (1 : Int32)) (0 : Int32) (0 : Int32) (0 : Int32) ∧ (True)))) ∧ (¬ ((9 : Int32) ≤ x3) → (((7 : Int32) ≤ x3) → (p_LH_act_273 s x1 x2 x3 x4 x5 y0 (0 : Int32))) ∧ (¬ ((7 : Int32) ≤ x3) → (p_LH_act_273 s x1 x2 x3 x4 x5 y0 (1 : Int32))))) ∧ (¬ ((5 : Int32) ≤ x3) → ((x3 = 0) → p_LH_does s (0 : Int32) (0 : Int32) (0 : Int32) (0 : Int32) ∧ (True)) ∧ (¬ (x3 = 0) → (((3 : Int32) ≤ x3) → ((x2 = 0) → p_LH_low s (x1 >>> ((9 : Int32) &&& 31)) (3 : Int32) ∧ ((p_LH_act_227 s x1 x2 x3 x4 x5 y0 (2 : Int32) x4 (f_LH_low s (x1 >>> ((9 : Int32) &&& 31)) (3 : Int32))))) ∧ (¬ (x2 = 0) → p_LH_low s (x1 >>> ((9 : Int32) &&& 31)) (7 : Int32) ∧ ((p_LH_act_227 s x1 x2 x3 x4 x5 y0 (2 : Int32) x4 ((f_LH_low s (x1 >>> ((9 : Int32) &&& 31)) (7 : Int32)) - (1 : Int32)))))) ∧ (¬ ((3 : Int32) ≤ x3) → ((x2 = 0) → p_LH_low s (x1 >>> ((9 : Int32) &&& 31)) (5 : Int32) ∧ ((p_LH_act_170 s x1 x2 x3 x4 x5 y0 (1 : Int32) x4 (-(f_LH_low s (x1 >>> ((9 : Int32) &&& 31)) (5 : Int32)))))) ∧ (¬ (x2 = 0) → p_LH_low s (x1 >>> ((9 : Int32) &&& 31)) (30000 : Int32) ∧ ((p_LH_act_170 s x1 x2 x3 x4 x5 y0 (1 : Int32) x4 ((f_LH_low s (x1 >>> ((9 : Int32) &&& 31)) (30000 : Int32)) - (15000 : Int32))))))))
set_option maxRecDepth 8000 in
theorem w_LH_act_109 {l : Launch} {g : am_Gl} (hg : g.2.2.2.1 = true) {ad0 : Nat → Nat}  {s : am_M} {x1 : Int32} {x2 : Int32} {x3 : Int32} {x4 : Int32} {x5 : Int32} {y0 : Int32} {k z : Nat} (hk : k ≤ 0) (hz : z ≤ 0) (h : p_LH_act_109  s x1 x2 x3 x4 x5 y0) : AW l g m_LH_act 207 ad0 (am_oC (f_LH_act_109  s x1 x2 x3 x4 x5 y0)) k z 207 s 109 [(0, .ref 0), (1, .int x1), (2, .int x2), (3, .int x3), (4, .int x4), (5, .int x5)] [.int y0] := by
  refine am_istore (lv2 := [(6, .int y0), (0, .ref 0), (1, .int x1), (2, .int x2), (3, .int x3), (4, .int x4), (5, .int x5)]) d_LH_act_109 (by decide) rfl ?_
  refine am_iload_n (j := 4) d_LH_act_111 rfl rfl ?_
  refine am_iconst (v := (5 : Int32)) d_LH_act_112 (by decide) ?_
  refine aj_ge (F := am_oC) (tgt := 256) d_LH_act_113 (by decide) (fun c => ?_) (fun c => ?_)
  · have h := h.1 c
    refine am_iload_n (j := 4) d_LH_act_256 rfl rfl ?_
    refine am_bipush (v := (9 : Int32)) d_LH_act_257 (by decide) ?_
    refine aj_ge (F := am_oC) (tgt := 369) d_LH_act_259 (by decide) (fun c => ?_) (fun c => ?_)
    · have h := h.1 c
      refine am_iload_n (j := 4) d_LH_act_369 rfl rfl ?_
      refine am_bipush (v := (15 : Int32)) d_LH_act_370 (by decide) ?_
      refine aj_ge (F := am_oC) (tgt := 551) d_LH_act_372 (by decide) (fun c => ?_) (fun c => ?_)
      · have h := h.1 c
        refine am_iload_n (j := 4) d_LH_act_551 rfl rfl ?_
        refine am_bipush (v := (21 : Int32)) d_LH_act_552 (by decide) ?_
        refine aj_ge (F := am_oC) (tgt := 589) d_LH_act_554 (by decide) (fun c => ?_) (fun c => ?_)
        · have h := h.1 c
          refine am_iload_n (j := 4) d_LH_act_589 rfl rfl ?_
          refine am_bipush (v := (30 : Int32)) d_LH_act_590 (by decide) ?_
          refine aj_ge (F := am_oC) (tgt := 646) d_LH_act_592 (by decide) (fun c => ?_) (fun c => ?_)
          · have h := h.1 c
            refine am_iload_n (j := 4) d_LH_act_646 rfl rfl ?_
            refine am_bipush (v := (38 : Int32)) d_LH_act_647 (by decide) ?_
            refine aj_ge (F := am_oC) (tgt := 695) d_LH_act_649 (by decide) (fun c => ?_) (fun c => ?_)
            · have h := h.1 c
              refine am_iload_n (j := 4) d_LH_act_695 rfl rfl ?_
              refine am_bipush (v := (43 : Int32)) d_LH_act_696 (by decide) ?_
              refine aj_ge (F := am_oC) (tgt := 876) d_LH_act_698 (by decide) (fun c => ?_) (fun c => ?_)
              · have h := h.1 c
                refine am_iload_n (j := 4) d_LH_act_876 rfl rfl ?_
                refine am_bipush (v := (47 : Int32)) d_LH_act_877 (by decide) ?_
                refine aj_ge (F := am_oC) (tgt := 1030) d_LH_act_879 (by decide) (fun c => ?_) (fun c => ?_)
                · have h := h.1 c
                  refine am_iload_n (j := 4) d_LH_act_1030 rfl rfl ?_
                  refine am_bipush (v := (49 : Int32)) d_LH_act_1031 (by decide) ?_
                  refine aj_ge (F := am_oC) (tgt := 1064) d_LH_act_1033 (by decide) (fun c => ?_) (fun c => ?_)
                  · have h := h.1 c
                    refine am_aload_n (j := 1) d_LH_act_1064 rfl rfl ?_
                    refine am_bipush (v := (10 : Int32)) d_LH_act_1065 (by decide) ?_
                    refine am_iconst (v := (0 : Int32)) d_LH_act_1067 (by decide) ?_
                    refine am_iconst (v := (0 : Int32)) d_LH_act_1068 (by decide) ?_
                    refine am_iconst (v := (0 : Int32)) d_LH_act_1069 (by decide) ?_
                    obtain ⟨hc, h⟩ := h
                    refine ak9_SX (as := [.ref 0, .int (10 : Int32), .int (0 : Int32), .int (0 : Int32), .int (0 : Int32)]) (rest := []) d_LH_act_1070 cw_LH_act_1070 rfl (am_1C (ct_LH_does hg hc)) rfl rfl (Nat.le_of_ble_eq_true rfl) (by show k + 4 ≤ 16; omega) (by show z + 24 ≤ 96; omega) ?_
                    exact am_iret d_LH_act_1073 rfl rfl (by show k + 4 ≤ 16; omega) (by show z + 24 ≤ 96; omega) am_oC_ok
                  · have h := h.2 c
                    refine am_aload_n (j := 1) d_LH_act_1036 rfl rfl ?_
                    refine am_bipush (v := (11 : Int32)) d_LH_act_1037 (by decide) ?_
                    refine am_iload_n (j := 2) d_LH_act_1039 rfl rfl ?_
                    refine am_bipush (v := (7 : Int32)) d_LH_act_1040 (by decide) ?_
                    refine am_ishr d_LH_act_1042 ?_
                    refine am_iload_n (j := 3) d_LH_act_1043 rfl rfl ?_
                    refine ai_eq (F := am_oC) (tgt := 1052) d_LH_act_1044 (by decide) (fun c => ?_) (fun c => ?_)
                    · have h := h.1 c
                      refine am_iconst (v := (3 : Int32)) d_LH_act_1052 (by decide) ?_
                      obtain ⟨hc, h⟩ := h
                      refine ak9_S (as := [.int (x1 >>> ((7 : Int32) &&& 31)), .int (3 : Int32)]) (rest := [.int (11 : Int32), .ref 0]) d_LH_act_1053 cw_LH_act_1053 rfl (am_1I (ct_LH_low hg hc)) rfl rfl (Nat.le_of_ble_eq_true rfl) (by show k + 0 ≤ 16; omega) (by show z + 0 ≤ 96; omega) ?_
                      refine am_iconst (v := (0 : Int32)) d_LH_act_1056 (by decide) ?_
                      refine am_iconst (v := (0 : Int32)) d_LH_act_1057 (by decide) ?_
                      obtain ⟨hc, h⟩ := h
                      refine ak9_SX (as := [.ref 0, .int (11 : Int32), .int (f_LH_low s (x1 >>> ((7 : Int32) &&& 31)) (3 : Int32)), .int (0 : Int32), .int (0 : Int32)]) (rest := []) d_LH_act_1058 cw_LH_act_1058 rfl (am_1C (ct_LH_does hg hc)) rfl rfl (Nat.le_of_ble_eq_true rfl) (by show k + 0 + 4 ≤ 16; omega) (by show z + 0 + 24 ≤ 96; omega) ?_
                      refine am_goto (tgt := 1073) d_LH_act_1061 (by decide) ?_
                      exact am_iret d_LH_act_1073 rfl rfl (by show k + 0 + 4 ≤ 16; omega) (by show z + 0 + 24 ≤ 96; omega) am_oC_ok
                    · have h := h.2 c
                      refine am_bipush (v := (6 : Int32)) d_LH_act_1047 (by decide) ?_
                      refine am_goto (tgt := 1053) d_LH_act_1049 (by decide) ?_
                      obtain ⟨hc, h⟩ := h
                      refine ak9_S (as := [.int (x1 >>> ((7 : Int32) &&& 31)), .int (6 : Int32)]) (rest := [.int (11 : Int32), .ref 0]) d_LH_act_1053 cw_LH_act_1053 rfl (am_1I (ct_LH_low hg hc)) rfl rfl (Nat.le_of_ble_eq_true rfl) (by show k + 0 ≤ 16; omega) (by show z + 0 ≤ 96; omega) ?_
                      refine am_iconst (v := (0 : Int32)) d_LH_act_1056 (by decide) ?_
                      refine am_iconst (v := (0 : Int32)) d_LH_act_1057 (by decide) ?_
                      obtain ⟨hc, h⟩ := h
                      refine ak9_SX (as := [.ref 0, .int (11 : Int32), .int (f_LH_low s (x1 >>> ((7 : Int32) &&& 31)) (6 : Int32)), .int (0 : Int32), .int (0 : Int32)]) (rest := []) d_LH_act_1058 cw_LH_act_1058 rfl (am_1C (ct_LH_does hg hc)) rfl rfl (Nat.le_of_ble_eq_true rfl) (by show k + 0 + 4 ≤ 16; omega) (by show z + 0 + 24 ≤ 96; omega) ?_
                      refine am_goto (tgt := 1073) d_LH_act_1061 (by decide) ?_
                      exact am_iret d_LH_act_1073 rfl rfl (by show k + 0 + 4 ≤ 16; omega) (by show z + 0 + 24 ≤ 96; omega) am_oC_ok
                · have h := h.2 c
                  refine am_iload_n (j := 2) d_LH_act_882 rfl rfl ?_
                  refine am_bipush (v := (7 : Int32)) d_LH_act_883 (by decide) ?_
                  refine am_ishr d_LH_act_885 ?_
                  refine am_iconst (v := (3 : Int32)) d_LH_act_886 (by decide) ?_
                  obtain ⟨hc, h⟩ := h
                  refine ak9_S (as := [.int (x1 >>> ((7 : Int32) &&& 31)), .int (3 : Int32)]) (rest := []) d_LH_act_887 cw_LH_act_887 rfl (am_1I (ct_LH_low hg hc)) rfl rfl (Nat.le_of_ble_eq_true rfl) (by show k + 0 ≤ 16; omega) (by show z + 0 ≤ 96; omega) ?_
                  refine am_istore (lv2 := [(7, .int (f_LH_low s (x1 >>> ((7 : Int32) &&& 31)) (3 : Int32))), (6, .int y0), (0, .ref 0), (1, .int x1), (2, .int x2), (3, .int x3), (4, .int x4), (5, .int x5)]) d_LH_act_890 (by decide) rfl ?_
                  refine am_iload_n (j := 3) d_LH_act_892 rfl rfl ?_
                  refine am_bipush (v := (9 : Int32)) d_LH_act_893 (by decide) ?_
                  refine am_ishr d_LH_act_895 ?_
                  refine am_bipush (v := (6 : Int32)) d_LH_act_896 (by decide) ?_
                  obtain ⟨hc, h⟩ := h
                  refine ak9_S (as := [.int (x1 >>> ((9 : Int32) &&& 31)), .int (6 : Int32)]) (rest := []) d_LH_act_898 cw_LH_act_898 rfl (am_1I (ct_LH_low hg hc)) rfl rfl (Nat.le_of_ble_eq_true rfl) (by show k + 0 + 0 ≤ 16; omega) (by show z + 0 + 0 ≤ 96; omega) ?_
                  refine am_istore (lv2 := [(8, .int (f_LH_low s (x1 >>> ((9 : Int32) &&& 31)) (6 : Int32))), (7, .int (f_LH_low s (x1 >>> ((7 : Int32) &&& 31)) (3 : Int32))), (6, .int y0), (0, .ref 0), (1, .int x1), (2, .int x2), (3, .int x3), (4, .int x4), (5, .int x5)]) d_LH_act_901 (by decide) rfl ?_
                  refine am_iload_n (j := 6) d_LH_act_903 rfl rfl ?_
                  refine am_bipush (v := (43 : Int32)) d_LH_act_904 (by decide) ?_
                  refine aj_ne (F := am_oC) (tgt := 920) d_LH_act_906 (by decide) (fun c => ?_) (fun c => ?_)
                  · have h := h.2 c
                    refine am_iload_n (j := 6) d_LH_act_920 rfl rfl ?_
                    refine am_bipush (v := (44 : Int32)) d_LH_act_921 (by decide) ?_
                    refine aj_ne (F := am_oC) (tgt := 950) d_LH_act_923 (by decide) (fun c => ?_) (fun c => ?_)
                    · have h := h.2 c
                      refine am_iload_n (j := 6) d_LH_act_950 rfl rfl ?_
                      refine am_bipush (v := (45 : Int32)) d_LH_act_951 (by decide) ?_
                      refine aj_ne (F := am_oC) (tgt := 1015) d_LH_act_953 (by decide) (fun c => ?_) (fun c => ?_)
                      · have h := h.2 c
                        refine am_aload_n (j := 3) d_LH_act_1015 rfl rfl ?_
                        refine am_bipush (v := (9 : Int32)) d_LH_act_1016 (by decide) ?_
                        refine am_iload (j := 1) d_LH_act_1018 rfl ?_
                        refine am_iload (j := 0) d_LH_act_1020 rfl ?_
                        refine am_iload (j := 8) d_LH_act_1022 rfl ?_
                        refine am_iconst (v := (0 : Int32)) d_LH_act_1024 (by decide) ?_
                        refine am_iconst (v := (0 : Int32)) d_LH_act_1025 (by decide) ?_
                        obtain ⟨hc, h⟩ := h
                        refine ak9_SX (as := [.ref 0, .int (9 : Int32), .int (f_LH_low s (x1 >>> ((7 : Int32) &&& 31)) (3 : Int32)), .int (f_LH_low s (x1 >>> ((9 : Int32) &&& 31)) (6 : Int32)), .int x5, .int (0 : Int32), .int (0 : Int32)]) (rest := []) d_LH_act_1026 cw_LH_act_1026 rfl (am_1C (ct_LH_asks hg hc)) rfl rfl (Nat.le_of_ble_eq_true rfl) (by show k + 0 + 0 + 7 ≤ 16; omega) (by show z + 0 + 0 + 42 ≤ 96; omega) ?_
                        exact am_iret d_LH_act_1029 rfl rfl (by show k + 0 + 0 + 7 ≤ 16; omega) (by show z + 0 + 0 + 42 ≤ 96; omega) am_oC_ok
                      · have h := h.1 c
                        refine am_iload_n (j := 4) d_LH_act_956 rfl rfl ?_
                        refine am_bipush (v := (13 : Int32)) d_LH_act_957 (by decide) ?_
                        refine am_ishr d_LH_act_959 ?_
                        refine am_iconst (v := (1 : Int32)) d_LH_act_960 (by decide) ?_
                        refine am_iand d_LH_act_961 ?_
                        refine ai_ne (F := am_oC) (tgt := 981) d_LH_act_962 (by decide) (fun c => ?_) (fun c => ?_)
                        · have h := h.2 c
                          refine am_aload_n (j := 3) d_LH_act_981 rfl rfl ?_
                          refine am_bipush (v := (10 : Int32)) d_LH_act_982 (by decide) ?_
                          refine am_iload (j := 1) d_LH_act_984 rfl ?_
                          refine am_iload (j := 0) d_LH_act_986 rfl ?_
                          refine am_iconst (v := (1 : Int32)) d_LH_act_988 (by decide) ?_
                          refine am_iload_n (j := 4) d_LH_act_989 rfl rfl ?_
                          refine am_bipush (v := (12 : Int32)) d_LH_act_990 (by decide) ?_
                          refine am_ishr d_LH_act_992 ?_
                          refine am_iload_n (j := 5) d_LH_act_993 rfl rfl ?_
                          refine ai_eq (F := am_oC) (tgt := 1002) d_LH_act_994 (by decide) (fun c => ?_) (fun c => ?_)
                          · have h := h.1 c
                            refine am_iconst (v := (4 : Int32)) d_LH_act_1002 (by decide) ?_
                            obtain ⟨hc, h⟩ := h
                            refine ak9_S (as := [.int (x1 >>> ((12 : Int32) &&& 31)), .int (4 : Int32)]) (rest := [.int (1 : Int32), .int (f_LH_low s (x1 >>> ((9 : Int32) &&& 31)) (6 : Int32)), .int (f_LH_low s (x1 >>> ((7 : Int32) &&& 31)) (3 : Int32)), .int (10 : Int32), .ref 0]) d_LH_act_1003 cw_LH_act_1003 rfl (am_1I (ct_LH_low hg hc)) rfl rfl (Nat.le_of_ble_eq_true rfl) (by show k + 0 + 0 + 0 ≤ 16; omega) (by show z + 0 + 0 + 0 ≤ 96; omega) ?_
                            refine am_iadd d_LH_act_1006 ?_
                            refine am_iconst (v := (0 : Int32)) d_LH_act_1007 (by decide) ?_
                            refine am_iconst (v := (0 : Int32)) d_LH_act_1008 (by decide) ?_
                            obtain ⟨hc, h⟩ := h
                            refine ak9_SX (as := [.ref 0, .int (10 : Int32), .int (f_LH_low s (x1 >>> ((7 : Int32) &&& 31)) (3 : Int32)), .int (f_LH_low s (x1 >>> ((9 : Int32) &&& 31)) (6 : Int32)), .int ((1 : Int32) + (f_LH_low s (x1 >>> ((12 : Int32) &&& 31)) (4 : Int32))), .int (0 : Int32), .int (0 : Int32)]) (rest := []) d_LH_act_1009 cw_LH_act_1009 rfl (am_1C (ct_LH_asks hg hc)) rfl rfl (Nat.le_of_ble_eq_true rfl) (by show k + 0 + 0 + 0 + 7 ≤ 16; omega) (by show z + 0 + 0 + 0 + 42 ≤ 96; omega) ?_
                            refine am_goto (tgt := 1029) d_LH_act_1012 (by decide) ?_
                            exact am_iret d_LH_act_1029 rfl rfl (by show k + 0 + 0 + 0 + 7 ≤ 16; omega) (by show z + 0 + 0 + 0 + 42 ≤ 96; omega) am_oC_ok
                          · have h := h.2 c
                            refine am_bipush (v := (7 : Int32)) d_LH_act_997 (by decide) ?_
                            refine am_goto (tgt := 1003) d_LH_act_999 (by decide) ?_
                            obtain ⟨hc, h⟩ := h
                            refine ak9_S (as := [.int (x1 >>> ((12 : Int32) &&& 31)), .int (7 : Int32)]) (rest := [.int (1 : Int32), .int (f_LH_low s (x1 >>> ((9 : Int32) &&& 31)) (6 : Int32)), .int (f_LH_low s (x1 >>> ((7 : Int32) &&& 31)) (3 : Int32)), .int (10 : Int32), .ref 0]) d_LH_act_1003 cw_LH_act_1003 rfl (am_1I (ct_LH_low hg hc)) rfl rfl (Nat.le_of_ble_eq_true rfl) (by show k + 0 + 0 + 0 ≤ 16; omega) (by show z + 0 + 0 + 0 ≤ 96; omega) ?_
                            refine am_iadd d_LH_act_1006 ?_
                            refine am_iconst (v := (0 : Int32)) d_LH_act_1007 (by decide) ?_
                            refine am_iconst (v := (0 : Int32)) d_LH_act_1008 (by decide) ?_
                            obtain ⟨hc, h⟩ := h
                            refine ak9_SX (as := [.ref 0, .int (10 : Int32), .int (f_LH_low s (x1 >>> ((7 : Int32) &&& 31)) (3 : Int32)), .int (f_LH_low s (x1 >>> ((9 : Int32) &&& 31)) (6 : Int32)), .int ((1 : Int32) + (f_LH_low s (x1 >>> ((12 : Int32) &&& 31)) (7 : Int32))), .int (0 : Int32), .int (0 : Int32)]) (rest := []) d_LH_act_1009 cw_LH_act_1009 rfl (am_1C (ct_LH_asks hg hc)) rfl rfl (Nat.le_of_ble_eq_true rfl) (by show k + 0 + 0 + 0 + 7 ≤ 16; omega) (by show z + 0 + 0 + 0 + 42 ≤ 96; omega) ?_
                            refine am_goto (tgt := 1029) d_LH_act_1012 (by decide) ?_
                            exact am_iret d_LH_act_1029 rfl rfl (by show k + 0 + 0 + 0 + 7 ≤ 16; omega) (by show z + 0 + 0 + 0 + 42 ≤ 96; omega) am_oC_ok
                        · have h := h.1 c
                          refine am_aload_n (j := 3) d_LH_act_965 rfl rfl ?_
                          refine am_bipush (v := (8 : Int32)) d_LH_act_966 (by decide) ?_
                          refine am_iload (j := 1) d_LH_act_968 rfl ?_
                          refine am_iload (j := 7) d_LH_act_970 rfl ?_
                          refine am_iconst (v := (0 : Int32)) d_LH_act_972 (by decide) ?_
                          refine am_iconst (v := (0 : Int32)) d_LH_act_973 (by decide) ?_
                          refine am_iconst (v := (0 : Int32)) d_LH_act_974 (by decide) ?_
                          obtain ⟨hc, h⟩ := h
                          refine ak9_SX (as := [.ref 0, .int (8 : Int32), .int (f_LH_low s (x1 >>> ((7 : Int32) &&& 31)) (3 : Int32)), .int x4, .int (0 : Int32), .int (0 : Int32), .int (0 : Int32)]) (rest := []) d_LH_act_975 cw_LH_act_975 rfl (am_1C (ct_LH_asks hg hc)) rfl rfl (Nat.le_of_ble_eq_true rfl) (by show k + 0 + 0 + 7 ≤ 16; omega) (by show z + 0 + 0 + 42 ≤ 96; omega) ?_
                          refine am_goto (tgt := 1029) d_LH_act_978 (by decide) ?_
                          exact am_iret d_LH_act_1029 rfl rfl (by show k + 0 + 0 + 7 ≤ 16; omega) (by show z + 0 + 0 + 42 ≤ 96; omega) am_oC_ok
                    · have h := h.1 c
                      refine am_aload_n (j := 3) d_LH_act_926 rfl rfl ?_
                      refine am_bipush (v := (7 : Int32)) d_LH_act_927 (by decide) ?_
                      refine am_iload (j := 1) d_LH_act_929 rfl ?_
                      refine am_iload (j := 0) d_LH_act_931 rfl ?_
                      refine am_iload (j := 8) d_LH_act_933 rfl ?_
                      refine am_iload_n (j := 4) d_LH_act_935 rfl rfl ?_
                      refine am_bipush (v := (12 : Int32)) d_LH_act_936 (by decide) ?_
                      refine am_ishr d_LH_act_938 ?_
                      refine am_iload_n (j := 5) d_LH_act_939 rfl rfl ?_
                      obtain ⟨hc, h⟩ := h
                      refine ak9_S (as := [.int (x1 >>> ((12 : Int32) &&& 31)), .int x2]) (rest := [.int x5, .int (f_LH_low s (x1 >>> ((9 : Int32) &&& 31)) (6 : Int32)), .int (f_LH_low s (x1 >>> ((7 : Int32) &&& 31)) (3 : Int32)), .int (7 : Int32), .ref 0]) d_LH_act_940 cw_LH_act_940 rfl (am_1I (ct_LH_number hg hc)) rfl rfl (Nat.le_of_ble_eq_true rfl) (by show k + 0 + 0 + 0 ≤ 16; omega) (by show z + 0 + 0 + 0 ≤ 96; omega) ?_
                      refine am_iconst (v := (0 : Int32)) d_LH_act_943 (by decide) ?_
                      obtain ⟨hc, h⟩ := h
                      refine ak9_SX (as := [.ref 0, .int (7 : Int32), .int (f_LH_low s (x1 >>> ((7 : Int32) &&& 31)) (3 : Int32)), .int (f_LH_low s (x1 >>> ((9 : Int32) &&& 31)) (6 : Int32)), .int x5, .int (f_LH_number s (x1 >>> ((12 : Int32) &&& 31)) x2), .int (0 : Int32)]) (rest := []) d_LH_act_944 cw_LH_act_944 rfl (am_1C (ct_LH_asks hg hc)) rfl rfl (Nat.le_of_ble_eq_true rfl) (by show k + 0 + 0 + 0 + 7 ≤ 16; omega) (by show z + 0 + 0 + 0 + 42 ≤ 96; omega) ?_
                      refine am_goto (tgt := 1029) d_LH_act_947 (by decide) ?_
                      exact am_iret d_LH_act_1029 rfl rfl (by show k + 0 + 0 + 0 + 7 ≤ 16; omega) (by show z + 0 + 0 + 0 + 42 ≤ 96; omega) am_oC_ok
                  · have h := h.1 c
                    refine am_aload_n (j := 3) d_LH_act_909 rfl rfl ?_
                    refine am_iconst (v := (3 : Int32)) d_LH_act_910 (by decide) ?_
                    refine am_iconst (v := (0 : Int32)) d_LH_act_911 (by decide) ?_
                    refine am_iconst (v := (0 : Int32)) d_LH_act_912 (by decide) ?_
                    refine am_iconst (v := (0 : Int32)) d_LH_act_913 (by decide) ?_
                    obtain ⟨hc, h⟩ := h
                    refine ak9_SX (as := [.ref 0, .int (3 : Int32), .int (0 : Int32), .int (0 : Int32), .int (0 : Int32)]) (rest := []) d_LH_act_914 cw_LH_act_914 rfl (am_1C (ct_LH_does hg hc)) rfl rfl (Nat.le_of_ble_eq_true rfl) (by show k + 0 + 0 + 4 ≤ 16; omega) (by show z + 0 + 0 + 24 ≤ 96; omega) ?_
                    refine am_goto (tgt := 1029) d_LH_act_917 (by decide) ?_
                    exact am_iret d_LH_act_1029 rfl rfl (by show k + 0 + 0 + 4 ≤ 16; omega) (by show z + 0 + 0 + 24 ≤ 96; omega) am_oC_ok
              · have h := h.2 c
                refine am_iload_n (j := 2) d_LH_act_701 rfl rfl ?_
                refine am_bipush (v := (13 : Int32)) d_LH_act_702 (by decide) ?_
                refine am_ishr d_LH_act_704 ?_
                refine am_iconst (v := (1 : Int32)) d_LH_act_705 (by decide) ?_
                refine am_iand d_LH_act_706 ?_
                refine ai_ne (F := am_oC) (tgt := 715) d_LH_act_707 (by decide) (fun c => ?_) (fun c => ?_)
                · have h := h.2 c
                  refine am_bipush (v := (10 : Int32)) d_LH_act_715 (by decide) ?_
                  refine am_iload_n (j := 2) d_LH_act_717 rfl rfl ?_
                  refine am_bipush (v := (7 : Int32)) d_LH_act_718 (by decide) ?_
                  refine am_ishr d_LH_act_720 ?_
                  refine am_iload_n (j := 3) d_LH_act_721 rfl rfl ?_
                  refine ai_eq (F := am_oC) (tgt := 730) d_LH_act_722 (by decide) (fun c => ?_) (fun c => ?_)
                  · have h := h.1 c
                    refine am_bipush (v := (6 : Int32)) d_LH_act_730 (by decide) ?_
                    refine am_sub [1, 2, 3, 4, 5, 6, 0] (lv2 := [(0, .ref 0), (1, .int x1), (2, .int x2), (3, .int x3), (4, .int x4), (5, .int x5), (6, .int y0)]) rfl ?_
                    exact w_LH_act_732 hg  (by show k ≤ 9; omega) (by show z ≤ 54; omega) h
                  · have h := h.2 c
                    refine am_bipush (v := (9 : Int32)) d_LH_act_725 (by decide) ?_
                    refine am_goto (tgt := 732) d_LH_act_727 (by decide) ?_
                    refine am_sub [1, 2, 3, 4, 5, 6, 0] (lv2 := [(0, .ref 0), (1, .int x1), (2, .int x2), (3, .int x3), (4, .int x4), (5, .int x5), (6, .int y0)]) rfl ?_
                    exact w_LH_act_732 hg  (by show k ≤ 9; omega) (by show z ≤ 54; omega) h
                · have h := h.1 c
                  refine am_iload (j := 5) d_LH_act_710 rfl ?_
                  refine am_goto (tgt := 736) d_LH_act_712 (by decide) ?_
                  refine am_sub [1, 2, 3, 4, 5, 6, 0] (lv2 := [(0, .ref 0), (1, .int x1), (2, .int x2), (3, .int x3), (4, .int x4), (5, .int x5), (6, .int y0)]) rfl ?_
                  exact w_LH_act_736 hg  (by show k ≤ 9; omega) (by show z ≤ 54; omega) h
            · have h := h.2 c
              refine am_iload_n (j := 4) d_LH_act_652 rfl rfl ?_
              refine am_bipush (v := (36 : Int32)) d_LH_act_653 (by decide) ?_
              refine aj_ge (F := am_oC) (tgt := 683) d_LH_act_655 (by decide) (fun c => ?_) (fun c => ?_)
              · have h := h.1 c
                refine am_aload_n (j := 1) d_LH_act_683 rfl rfl ?_
                refine am_bipush (v := (8 : Int32)) d_LH_act_684 (by decide) ?_
                refine am_iload (j := 5) d_LH_act_686 rfl ?_
                refine am_iload (j := 0) d_LH_act_688 rfl ?_
                refine am_iconst (v := (0 : Int32)) d_LH_act_690 (by decide) ?_
                obtain ⟨hc, h⟩ := h
                refine ak9_SX (as := [.ref 0, .int (8 : Int32), .int x4, .int y0, .int (0 : Int32)]) (rest := []) d_LH_act_691 cw_LH_act_691 rfl (am_1C (ct_LH_does hg hc)) rfl rfl (Nat.le_of_ble_eq_true rfl) (by show k + 4 ≤ 16; omega) (by show z + 24 ≤ 96; omega) ?_
                exact am_iret d_LH_act_694 rfl rfl (by show k + 4 ≤ 16; omega) (by show z + 24 ≤ 96; omega) am_oC_ok
              · have h := h.2 c
                refine am_aload_n (j := 1) d_LH_act_658 rfl rfl ?_
                refine am_bipush (v := (8 : Int32)) d_LH_act_659 (by decide) ?_
                refine am_iload (j := 5) d_LH_act_661 rfl ?_
                refine am_iload (j := 0) d_LH_act_663 rfl ?_
                refine am_iload (j := 6) d_LH_act_665 rfl ?_
                refine am_iload_n (j := 2) d_LH_act_667 rfl rfl ?_
                refine am_bipush (v := (13 : Int32)) d_LH_act_668 (by decide) ?_
                refine am_ishr d_LH_act_670 ?_
                refine am_iload_n (j := 3) d_LH_act_671 rfl rfl ?_
                obtain ⟨hc, h⟩ := h
                refine ak9_S (as := [.int (x1 >>> ((13 : Int32) &&& 31)), .int x2]) (rest := [.int x5, .int y0, .int x4, .int (8 : Int32), .ref 0]) d_LH_act_672 cw_LH_act_672 rfl (am_1I (ct_LH_number hg hc)) rfl rfl (Nat.le_of_ble_eq_true rfl) (by show k + 0 ≤ 16; omega) (by show z + 0 ≤ 96; omega) ?_
                refine am_iconst (v := (0 : Int32)) d_LH_act_675 (by decide) ?_
                refine am_iconst (v := (0 : Int32)) d_LH_act_676 (by decide) ?_
                obtain ⟨hc, h⟩ := h
                refine ak9_SX (as := [.ref 0, .int (8 : Int32), .int x4, .int y0, .int x5, .int (f_LH_number s (x1 >>> ((13 : Int32) &&& 31)) x2), .int (0 : Int32), .int (0 : Int32)]) (rest := []) d_LH_act_677 cw_LH_act_677 rfl (am_1C (ct_LH_sets hg hc)) rfl rfl (Nat.le_of_ble_eq_true rfl) (by show k + 0 + 16 ≤ 16; omega) (by show z + 0 + 96 ≤ 96; omega) ?_
                refine am_goto (tgt := 694) d_LH_act_680 (by decide) ?_
                exact am_iret d_LH_act_694 rfl rfl (by show k + 0 + 16 ≤ 16; omega) (by show z + 0 + 96 ≤ 96; omega) am_oC_ok
          · have h := h.2 c
            refine am_iload_n (j := 4) d_LH_act_595 rfl rfl ?_
            refine am_bipush (v := (28 : Int32)) d_LH_act_596 (by decide) ?_
            refine aj_ge (F := am_oC) (tgt := 614) d_LH_act_598 (by decide) (fun c => ?_) (fun c => ?_)
            · have h := h.1 c
              refine am_iload_n (j := 4) d_LH_act_614 rfl rfl ?_
              refine am_bipush (v := (28 : Int32)) d_LH_act_615 (by decide) ?_
              refine aj_ne (F := am_oC) (tgt := 634) d_LH_act_617 (by decide) (fun c => ?_) (fun c => ?_)
              · have h := h.2 c
                refine am_aload_n (j := 1) d_LH_act_634 rfl rfl ?_
                refine am_bipush (v := (7 : Int32)) d_LH_act_635 (by decide) ?_
                refine am_iload (j := 5) d_LH_act_637 rfl ?_
                refine am_iload (j := 6) d_LH_act_639 rfl ?_
                refine am_iconst (v := (0 : Int32)) d_LH_act_641 (by decide) ?_
                obtain ⟨hc, h⟩ := h
                refine ak9_SX (as := [.ref 0, .int (7 : Int32), .int x4, .int x5, .int (0 : Int32)]) (rest := []) d_LH_act_642 cw_LH_act_642 rfl (am_1C (ct_LH_does hg hc)) rfl rfl (Nat.le_of_ble_eq_true rfl) (by show k + 4 ≤ 16; omega) (by show z + 24 ≤ 96; omega) ?_
                exact am_iret d_LH_act_645 rfl rfl (by show k + 4 ≤ 16; omega) (by show z + 24 ≤ 96; omega) am_oC_ok
              · have h := h.1 c
                refine am_aload_n (j := 1) d_LH_act_620 rfl rfl ?_
                refine am_bipush (v := (9 : Int32)) d_LH_act_621 (by decide) ?_
                refine am_iload (j := 5) d_LH_act_623 rfl ?_
                refine am_iload (j := 0) d_LH_act_625 rfl ?_
                refine am_iconst (v := (0 : Int32)) d_LH_act_627 (by decide) ?_
                obtain ⟨hc, h⟩ := h
                refine ak9_SX (as := [.ref 0, .int (9 : Int32), .int x4, .int y0, .int (0 : Int32)]) (rest := []) d_LH_act_628 cw_LH_act_628 rfl (am_1C (ct_LH_does hg hc)) rfl rfl (Nat.le_of_ble_eq_true rfl) (by show k + 4 ≤ 16; omega) (by show z + 24 ≤ 96; omega) ?_
                refine am_goto (tgt := 645) d_LH_act_631 (by decide) ?_
                exact am_iret d_LH_act_645 rfl rfl (by show k + 4 ≤ 16; omega) (by show z + 24 ≤ 96; omega) am_oC_ok
            · have h := h.2 c
              refine am_aload_n (j := 1) d_LH_act_601 rfl rfl ?_
              refine am_bipush (v := (6 : Int32)) d_LH_act_602 (by decide) ?_
              refine am_iload (j := 5) d_LH_act_604 rfl ?_
              refine am_iconst (v := (0 : Int32)) d_LH_act_606 (by decide) ?_
              refine am_iconst (v := (0 : Int32)) d_LH_act_607 (by decide) ?_
              obtain ⟨hc, h⟩ := h
              refine ak9_SX (as := [.ref 0, .int (6 : Int32), .int x4, .int (0 : Int32), .int (0 : Int32)]) (rest := []) d_LH_act_608 cw_LH_act_608 rfl (am_1C (ct_LH_does hg hc)) rfl rfl (Nat.le_of_ble_eq_true rfl) (by show k + 4 ≤ 16; omega) (by show z + 24 ≤ 96; omega) ?_
              refine am_goto (tgt := 645) d_LH_act_611 (by decide) ?_
              exact am_iret d_LH_act_645 rfl rfl (by show k + 4 ≤ 16; omega) (by show z + 24 ≤ 96; omega) am_oC_ok
        · have h := h.2 c
          refine am_aload_n (j := 1) d_LH_act_557 rfl rfl ?_
          refine am_iconst (v := (5 : Int32)) d_LH_act_558 (by decide) ?_
          refine am_iload_n (j := 3) d_LH_act_559 rfl rfl ?_
          refine ai_eq (F := am_oC) (tgt := 568) d_LH_act_560 (by decide) (fun c => ?_) (fun c => ?_)
          · have h := h.1 c
            refine am_iload_n (j := 2) d_LH_act_568 rfl rfl ?_
            refine am_bipush (v := (9 : Int32)) d_LH_act_569 (by decide) ?_
            refine am_ishr d_LH_act_571 ?_
            refine am_iconst (v := (4 : Int32)) d_LH_act_572 (by decide) ?_
            obtain ⟨hc, h⟩ := h
            refine ak9_S (as := [.int (x1 >>> ((9 : Int32) &&& 31)), .int (4 : Int32)]) (rest := [.int (5 : Int32), .ref 0]) d_LH_act_573 cw_LH_act_573 rfl (am_1I (ct_LH_low hg hc)) rfl rfl (Nat.le_of_ble_eq_true rfl) (by show k + 0 ≤ 16; omega) (by show z + 0 ≤ 96; omega) ?_
            refine am_iload_n (j := 2) d_LH_act_576 rfl rfl ?_
            refine am_bipush (v := (11 : Int32)) d_LH_act_577 (by decide) ?_
            refine am_ishr d_LH_act_579 ?_
            refine am_iload_n (j := 3) d_LH_act_580 rfl rfl ?_
            obtain ⟨hc, h⟩ := h
            refine ak9_S (as := [.int (x1 >>> ((11 : Int32) &&& 31)), .int x2]) (rest := [.int (f_LH_low s (x1 >>> ((9 : Int32) &&& 31)) (4 : Int32)), .int (5 : Int32), .ref 0]) d_LH_act_581 cw_LH_act_581 rfl (am_1I (ct_LH_number hg hc)) rfl rfl (Nat.le_of_ble_eq_true rfl) (by show k + 0 + 0 ≤ 16; omega) (by show z + 0 + 0 ≤ 96; omega) ?_
            refine am_iconst (v := (0 : Int32)) d_LH_act_584 (by decide) ?_
            obtain ⟨hc, h⟩ := h
            refine ak9_SX (as := [.ref 0, .int (5 : Int32), .int (f_LH_low s (x1 >>> ((9 : Int32) &&& 31)) (4 : Int32)), .int (f_LH_number s (x1 >>> ((11 : Int32) &&& 31)) x2), .int (0 : Int32)]) (rest := []) d_LH_act_585 cw_LH_act_585 rfl (am_1C (ct_LH_does hg hc)) rfl rfl (Nat.le_of_ble_eq_true rfl) (by show k + 0 + 0 + 4 ≤ 16; omega) (by show z + 0 + 0 + 24 ≤ 96; omega) ?_
            exact am_iret d_LH_act_588 rfl rfl (by show k + 0 + 0 + 4 ≤ 16; omega) (by show z + 0 + 0 + 24 ≤ 96; omega) am_oC_ok
          · have h := h.2 c
            refine am_iload (j := 6) d_LH_act_563 rfl ?_
            refine am_goto (tgt := 576) d_LH_act_565 (by decide) ?_
            refine am_iload_n (j := 2) d_LH_act_576 rfl rfl ?_
            refine am_bipush (v := (11 : Int32)) d_LH_act_577 (by decide) ?_
            refine am_ishr d_LH_act_579 ?_
            refine am_iload_n (j := 3) d_LH_act_580 rfl rfl ?_
            obtain ⟨hc, h⟩ := h
            refine ak9_S (as := [.int (x1 >>> ((11 : Int32) &&& 31)), .int x2]) (rest := [.int x5, .int (5 : Int32), .ref 0]) d_LH_act_581 cw_LH_act_581 rfl (am_1I (ct_LH_number hg hc)) rfl rfl (Nat.le_of_ble_eq_true rfl) (by show k + 0 ≤ 16; omega) (by show z + 0 ≤ 96; omega) ?_
            refine am_iconst (v := (0 : Int32)) d_LH_act_584 (by decide) ?_
            obtain ⟨hc, h⟩ := h
            refine ak9_SX (as := [.ref 0, .int (5 : Int32), .int x5, .int (f_LH_number s (x1 >>> ((11 : Int32) &&& 31)) x2), .int (0 : Int32)]) (rest := []) d_LH_act_585 cw_LH_act_585 rfl (am_1C (ct_LH_does hg hc)) rfl rfl (Nat.le_of_ble_eq_true rfl) (by show k + 0 + 4 ≤ 16; omega) (by show z + 0 + 24 ≤ 96; omega) ?_
            exact am_iret d_LH_act_588 rfl rfl (by show k + 0 + 4 ≤ 16; omega) (by show z + 0 + 24 ≤ 96; omega) am_oC_ok
      · have h := h.2 c
        refine am_iload_n (j := 4) d_LH_act_375 rfl rfl ?_
        refine am_bipush (v := (11 : Int32)) d_LH_act_376 (by decide) ?_
        refine aj_ge (F := am_oC) (tgt := 406) d_LH_act_378 (by decide) (fun c => ?_) (fun c => ?_)
        · have h := h.1 c
          refine am_iload_n (j := 4) d_LH_act_406 rfl rfl ?_
          refine am_bipush (v := (13 : Int32)) d_LH_act_407 (by decide) ?_
          refine aj_ge (F := am_oC) (tgt := 472) d_LH_act_409 (by decide) (fun c => ?_) (fun c => ?_)
          · have h := h.1 c
            refine am_iload_n (j := 4) d_LH_act_472 rfl rfl ?_
            refine am_bipush (v := (13 : Int32)) d_LH_act_473 (by decide) ?_
            refine aj_ne (F := am_oC) (tgt := 503) d_LH_act_475 (by decide) (fun c => ?_) (fun c => ?_)
            · have h := h.2 c
              refine am_sub [1, 2, 3, 4, 5, 6, 0] (lv2 := [(0, .ref 0), (1, .int x1), (2, .int x2), (3, .int x3), (4, .int x4), (5, .int x5), (6, .int y0)]) rfl ?_
              exact w_LH_act_503 hg  (by show k ≤ 0; omega) (by show z ≤ 0; omega) h
            · have h := h.1 c
              refine am_iload_n (j := 2) d_LH_act_478 rfl rfl ?_
              refine am_bipush (v := (13 : Int32)) d_LH_act_479 (by decide) ?_
              refine am_ishr d_LH_act_481 ?_
              refine am_iconst (v := (1 : Int32)) d_LH_act_482 (by decide) ?_
              refine am_iand d_LH_act_483 ?_
              refine ai_ne (F := am_oC) (tgt := 503) d_LH_act_484 (by decide) (fun c => ?_) (fun c => ?_)
              · have h := h.2 c
                refine am_sub [1, 2, 3, 4, 5, 6, 0] (lv2 := [(0, .ref 0), (1, .int x1), (2, .int x2), (3, .int x3), (4, .int x4), (5, .int x5), (6, .int y0)]) rfl ?_
                exact w_LH_act_503 hg  (by show k ≤ 0; omega) (by show z ≤ 0; omega) h
              · have h := h.1 c
                refine am_aload_n (j := 1) d_LH_act_487 rfl rfl ?_
                refine am_iconst (v := (5 : Int32)) d_LH_act_488 (by decide) ?_
                refine am_iload (j := 5) d_LH_act_489 rfl ?_
                refine am_iload (j := 6) d_LH_act_491 rfl ?_
                refine am_iconst (v := (0 : Int32)) d_LH_act_493 (by decide) ?_
                refine am_iconst (v := (0 : Int32)) d_LH_act_494 (by decide) ?_
                refine am_iconst (v := (0 : Int32)) d_LH_act_495 (by decide) ?_
                refine am_iconst (v := (0 : Int32)) d_LH_act_496 (by decide) ?_
                obtain ⟨hc, h⟩ := h
                refine ak9_SX (as := [.ref 0, .int (5 : Int32), .int x4, .int x5, .int (0 : Int32), .int (0 : Int32), .int (0 : Int32), .int (0 : Int32)]) (rest := []) d_LH_act_497 cw_LH_act_497 rfl (am_1C (ct_LH_sets hg hc)) rfl rfl (Nat.le_of_ble_eq_true rfl) (by show k + 16 ≤ 16; omega) (by show z + 96 ≤ 96; omega) ?_
                refine am_goto (tgt := 550) d_LH_act_500 (by decide) ?_
                exact am_iret d_LH_act_550 rfl rfl (by show k + 16 ≤ 16; omega) (by show z + 96 ≤ 96; omega) am_oC_ok
          · have h := h.2 c
            refine am_aload_n (j := 1) d_LH_act_412 rfl rfl ?_
            refine am_iload_n (j := 4) d_LH_act_413 rfl rfl ?_
            refine am_bipush (v := (11 : Int32)) d_LH_act_414 (by decide) ?_
            refine aj_ne (F := am_oC) (tgt := 423) d_LH_act_416 (by decide) (fun c => ?_) (fun c => ?_)
            · have h := h.2 c
              refine am_bipush (v := (6 : Int32)) d_LH_act_423 (by decide) ?_
              refine am_sub [1, 2, 3, 4, 5, 6, 0] (lv2 := [(0, .ref 0), (1, .int x1), (2, .int x2), (3, .int x3), (4, .int x4), (5, .int x5), (6, .int y0)]) rfl ?_
              exact w_LH_act_425 hg  (by show k ≤ 0; omega) (by show z ≤ 0; omega) h
            · have h := h.1 c
              refine am_iconst (v := (4 : Int32)) d_LH_act_419 (by decide) ?_
              refine am_goto (tgt := 425) d_LH_act_420 (by decide) ?_
              refine am_sub [1, 2, 3, 4, 5, 6, 0] (lv2 := [(0, .ref 0), (1, .int x1), (2, .int x2), (3, .int x3), (4, .int x4), (5, .int x5), (6, .int y0)]) rfl ?_
              exact w_LH_act_425 hg  (by show k ≤ 0; omega) (by show z ≤ 0; omega) h
        · have h := h.2 c
          refine am_aload_n (j := 1) d_LH_act_381 rfl rfl ?_
          refine am_iconst (v := (2 : Int32)) d_LH_act_382 (by decide) ?_
          refine am_iload_n (j := 4) d_LH_act_383 rfl rfl ?_
          refine am_iconst (v := (1 : Int32)) d_LH_act_384 (by decide) ?_
          refine am_iand d_LH_act_385 ?_
          refine am_iadd d_LH_act_386 ?_
          refine am_iload (j := 5) d_LH_act_387 rfl ?_
          refine am_iload (j := 6) d_LH_act_389 rfl ?_
          refine am_iload_n (j := 2) d_LH_act_391 rfl rfl ?_
          refine am_bipush (v := (13 : Int32)) d_LH_act_392 (by decide) ?_
          refine am_ishr d_LH_act_394 ?_
          refine am_iconst (v := (1 : Int32)) d_LH_act_395 (by decide) ?_
          refine am_iand d_LH_act_396 ?_
          refine am_iconst (v := (0 : Int32)) d_LH_act_397 (by decide) ?_
          refine am_iconst (v := (0 : Int32)) d_LH_act_398 (by decide) ?_
          refine am_iconst (v := (0 : Int32)) d_LH_act_399 (by decide) ?_
          obtain ⟨hc, h⟩ := h
          refine ak9_SX (as := [.ref 0, .int ((2 : Int32) + (x3 &&& (1 : Int32))), .int x4, .int x5, .int ((x1 >>> ((13 : Int32) &&& 31)) &&& (1 : Int32)), .int (0 : Int32), .int (0 : Int32), .int (0 : Int32)]) (rest := []) d_LH_act_400 cw_LH_act_400 rfl (am_1C (ct_LH_sets hg hc)) rfl rfl (Nat.le_of_ble_eq_true rfl) (by show k + 16 ≤ 16; omega) (by show z + 96 ≤ 96; omega) ?_
          refine am_goto (tgt := 550) d_LH_act_403 (by decide) ?_
          exact am_iret d_LH_act_550 rfl rfl (by show k + 16 ≤ 16; omega) (by show z + 96 ≤ 96; omega) am_oC_ok
    · have h := h.2 c
      refine am_iload_n (j := 4) d_LH_act_262 rfl rfl ?_
      refine am_bipush (v := (7 : Int32)) d_LH_act_263 (by decide) ?_
      refine aj_ge (F := am_oC) (tgt := 272) d_LH_act_265 (by decide) (fun c => ?_) (fun c => ?_)
      · have h := h.1 c
        refine am_iconst (v := (0 : Int32)) d_LH_act_272 (by decide) ?_
        refine am_sub [1, 2, 3, 4, 5, 6, 0] (lv2 := [(0, .ref 0), (1, .int x1), (2, .int x2), (3, .int x3), (4, .int x4), (5, .int x5), (6, .int y0)]) rfl ?_
        exact w_LH_act_273 hg  (by show k ≤ 0; omega) (by show z ≤ 0; omega) h
      · have h := h.2 c
        refine am_iconst (v := (1 : Int32)) d_LH_act_268 (by decide) ?_
        refine am_goto (tgt := 273) d_LH_act_269 (by decide) ?_
        refine am_sub [1, 2, 3, 4, 5, 6, 0] (lv2 := [(0, .ref 0), (1, .int x1), (2, .int x2), (3, .int x3), (4, .int x4), (5, .int x5), (6, .int y0)]) rfl ?_
        exact w_LH_act_273 hg  (by show k ≤ 0; omega) (by show z ≤ 0; omega) h
  · have h := h.2 c
    refine am_iload_n (j := 4) d_LH_act_116 rfl rfl ?_
    refine ai_ne (F := am_oC) (tgt := 131) d_LH_act_117 (by decide) (fun c => ?_) (fun c => ?_)
    · have h := h.2 c
      refine am_iload_n (j := 4) d_LH_act_131 rfl rfl ?_
      refine am_iconst (v := (3 : Int32)) d_LH_act_132 (by decide) ?_
      refine aj_ge (F := am_oC) (tgt := 197) d_LH_act_133 (by decide) (fun c => ?_) (fun c => ?_)
      · have h := h.1 c
        refine am_aload_n (j := 1) d_LH_act_197 rfl rfl ?_
        refine am_iconst (v := (2 : Int32)) d_LH_act_198 (by decide) ?_
        refine am_iload (j := 5) d_LH_act_199 rfl ?_
        refine am_iload_n (j := 3) d_LH_act_201 rfl rfl ?_
        refine ai_eq (F := am_oC) (tgt := 219) d_LH_act_202 (by decide) (fun c => ?_) (fun c => ?_)
        · have h := h.1 c
          refine am_iload_n (j := 2) d_LH_act_219 rfl rfl ?_
          refine am_bipush (v := (9 : Int32)) d_LH_act_220 (by decide) ?_
          refine am_ishr d_LH_act_222 ?_
          refine am_iconst (v := (3 : Int32)) d_LH_act_223 (by decide) ?_
          obtain ⟨hc, h⟩ := h
          refine ak9_S (as := [.int (x1 >>> ((9 : Int32) &&& 31)), .int (3 : Int32)]) (rest := [.int x4, .int (2 : Int32), .ref 0]) d_LH_act_224 cw_LH_act_224 rfl (am_1I (ct_LH_low hg hc)) rfl rfl (Nat.le_of_ble_eq_true rfl) (by show k + 0 ≤ 16; omega) (by show z + 0 ≤ 96; omega) ?_
          refine am_sub [1, 2, 3, 4, 5, 6, 0] (lv2 := [(0, .ref 0), (1, .int x1), (2, .int x2), (3, .int x3), (4, .int x4), (5, .int x5), (6, .int y0)]) rfl ?_
          exact w_LH_act_227 hg  (by show k + 0 ≤ 12; omega) (by show z + 0 ≤ 72; omega) h
        · have h := h.2 c
          refine am_iload_n (j := 2) d_LH_act_205 rfl rfl ?_
          refine am_bipush (v := (9 : Int32)) d_LH_act_206 (by decide) ?_
          refine am_ishr d_LH_act_208 ?_
          refine am_bipush (v := (7 : Int32)) d_LH_act_209 (by decide) ?_
          obtain ⟨hc, h⟩ := h
          refine ak9_S (as := [.int (x1 >>> ((9 : Int32) &&& 31)), .int (7 : Int32)]) (rest := [.int x4, .int (2 : Int32), .ref 0]) d_LH_act_211 cw_LH_act_211 rfl (am_1I (ct_LH_low hg hc)) rfl rfl (Nat.le_of_ble_eq_true rfl) (by show k + 0 ≤ 16; omega) (by show z + 0 ≤ 96; omega) ?_
          refine am_iconst (v := (1 : Int32)) d_LH_act_214 (by decide) ?_
          refine am_isub d_LH_act_215 ?_
          refine am_goto (tgt := 227) d_LH_act_216 (by decide) ?_
          refine am_sub [1, 2, 3, 4, 5, 6, 0] (lv2 := [(0, .ref 0), (1, .int x1), (2, .int x2), (3, .int x3), (4, .int x4), (5, .int x5), (6, .int y0)]) rfl ?_
          exact w_LH_act_227 hg  (by show k + 0 ≤ 12; omega) (by show z + 0 ≤ 72; omega) h
      · have h := h.2 c
        refine am_aload_n (j := 1) d_LH_act_136 rfl rfl ?_
        refine am_iconst (v := (1 : Int32)) d_LH_act_137 (by decide) ?_
        refine am_iload (j := 5) d_LH_act_138 rfl ?_
        refine am_iload_n (j := 3) d_LH_act_140 rfl rfl ?_
        refine ai_eq (F := am_oC) (tgt := 161) d_LH_act_141 (by decide) (fun c => ?_) (fun c => ?_)
        · have h := h.1 c
          refine am_iload_n (j := 2) d_LH_act_161 rfl rfl ?_
          refine am_bipush (v := (9 : Int32)) d_LH_act_162 (by decide) ?_
          refine am_ishr d_LH_act_164 ?_
          refine am_iconst (v := (5 : Int32)) d_LH_act_165 (by decide) ?_
          obtain ⟨hc, h⟩ := h
          refine ak9_S (as := [.int (x1 >>> ((9 : Int32) &&& 31)), .int (5 : Int32)]) (rest := [.int x4, .int (1 : Int32), .ref 0]) d_LH_act_166 cw_LH_act_166 rfl (am_1I (ct_LH_low hg hc)) rfl rfl (Nat.le_of_ble_eq_true rfl) (by show k + 0 ≤ 16; omega) (by show z + 0 ≤ 96; omega) ?_
          refine am_ineg d_LH_act_169 ?_
          refine am_sub [1, 2, 3, 4, 5, 6, 0] (lv2 := [(0, .ref 0), (1, .int x1), (2, .int x2), (3, .int x3), (4, .int x4), (5, .int x5), (6, .int y0)]) rfl ?_
          exact w_LH_act_170 hg  (by show k + 0 ≤ 12; omega) (by show z + 0 ≤ 72; omega) h
        · have h := h.2 c
          refine am_iload_n (j := 2) d_LH_act_144 rfl rfl ?_
          refine am_bipush (v := (9 : Int32)) d_LH_act_145 (by decide) ?_
          refine am_ishr d_LH_act_147 ?_
          refine am_sipush (v := (30000 : Int32)) d_LH_act_148 (by decide) ?_
          obtain ⟨hc, h⟩ := h
          refine ak9_S (as := [.int (x1 >>> ((9 : Int32) &&& 31)), .int (30000 : Int32)]) (rest := [.int x4, .int (1 : Int32), .ref 0]) d_LH_act_151 cw_LH_act_151 rfl (am_1I (ct_LH_low hg hc)) rfl rfl (Nat.le_of_ble_eq_true rfl) (by show k + 0 ≤ 16; omega) (by show z + 0 ≤ 96; omega) ?_
          refine am_sipush (v := (15000 : Int32)) d_LH_act_154 (by decide) ?_
          refine am_isub d_LH_act_157 ?_
          refine am_goto (tgt := 170) d_LH_act_158 (by decide) ?_
          refine am_sub [1, 2, 3, 4, 5, 6, 0] (lv2 := [(0, .ref 0), (1, .int x1), (2, .int x2), (3, .int x3), (4, .int x4), (5, .int x5), (6, .int y0)]) rfl ?_
          exact w_LH_act_170 hg  (by show k + 0 ≤ 12; omega) (by show z + 0 ≤ 72; omega) h
    · have h := h.1 c
      refine am_aload_n (j := 1) d_LH_act_120 rfl rfl ?_
      refine am_iconst (v := (0 : Int32)) d_LH_act_121 (by decide) ?_
      refine am_iconst (v := (0 : Int32)) d_LH_act_122 (by decide) ?_
      refine am_iconst (v := (0 : Int32)) d_LH_act_123 (by decide) ?_
      refine am_iconst (v := (0 : Int32)) d_LH_act_124 (by decide) ?_
      obtain ⟨hc, h⟩ := h
      refine ak9_SX (as := [.ref 0, .int (0 : Int32), .int (0 : Int32), .int (0 : Int32), .int (0 : Int32)]) (rest := []) d_LH_act_125 cw_LH_act_125 rfl (am_1C (ct_LH_does hg hc)) rfl rfl (Nat.le_of_ble_eq_true rfl) (by show k + 4 ≤ 16; omega) (by show z + 24 ≤ 96; omega) ?_
      refine am_goto (tgt := 255) d_LH_act_128 (by decide) ?_
      exact am_iret d_LH_act_255 rfl rfl (by show k + 4 ≤ 16; omega) (by show z + 24 ≤ 96; omega) am_oC_ok
def f_LH_act_80  (s : am_M) (x1 : Int32) (x2 : Int32) (x3 : Int32) (x4 : Int32) (y0 : Int32) : Int32 × am_M := (if x2 = 0 then (f_LH_act_109 s x1 x2 x3 x4 y0 (f_LH_low s (x1 >>> ((11 : Int32) &&& 31)) (8 : Int32))) else (f_LH_act_109 s x1 x2 x3 x4 y0 ((f_LH_low s (x1 >>> ((11 : Int32) &&& 31)) (40 : Int32)) - (3 : Int32))))
def p_LH_act_80  (s : am_M) (x1 : Int32) (x2 : Int32) (x3 : Int32) (x4 : Int32) (y0 : Int32) : Prop := ((x2 = 0) → p_LH_low s (x1 >>> ((11 : Int32) &&& 31)) (8 : Int32) ∧ ((p_LH_act_109 s x1 x2 x3 x4 y0 (f_LH_low s (x1 >>> ((11 : Int32) &&& 31)) (8 : Int32))))) ∧ (¬ (x2 = 0) → p_LH_low s (x1 >>> ((11 : Int32) &&& 31)) (40 : Int32) ∧ ((p_LH_act_109 s x1 x2 x3 x4 y0 ((f_LH_low s (x1 >>> ((11 : Int32) &&& 31)) (40 : Int32)) - (3 : Int32)))))
set_option maxRecDepth 8000 in
theorem w_LH_act_80 {l : Launch} {g : am_Gl} (hg : g.2.2.2.1 = true) {ad0 : Nat → Nat}  {s : am_M} {x1 : Int32} {x2 : Int32} {x3 : Int32} {x4 : Int32} {y0 : Int32} {k z : Nat} (hk : k ≤ 0) (hz : z ≤ 0) (h : p_LH_act_80  s x1 x2 x3 x4 y0) : AW l g m_LH_act 207 ad0 (am_oC (f_LH_act_80  s x1 x2 x3 x4 y0)) k z 207 s 80 [(0, .ref 0), (1, .int x1), (2, .int x2), (3, .int x3), (4, .int x4)] [.int y0] := by
  refine am_istore (lv2 := [(5, .int y0), (0, .ref 0), (1, .int x1), (2, .int x2), (3, .int x3), (4, .int x4)]) d_LH_act_80 (by decide) rfl ?_
  refine am_iload_n (j := 3) d_LH_act_82 rfl rfl ?_
  refine ai_eq (F := am_oC) (tgt := 100) d_LH_act_83 (by decide) (fun c => ?_) (fun c => ?_)
  · have h := h.1 c
    refine am_iload_n (j := 2) d_LH_act_100 rfl rfl ?_
    refine am_bipush (v := (11 : Int32)) d_LH_act_101 (by decide) ?_
    refine am_ishr d_LH_act_103 ?_
    refine am_bipush (v := (8 : Int32)) d_LH_act_104 (by decide) ?_
    obtain ⟨hc, h⟩ := h
    refine ak9_S (as := [.int (x1 >>> ((11 : Int32) &&& 31)), .int (8 : Int32)]) (rest := []) d_LH_act_106 cw_LH_act_106 rfl (am_1I (ct_LH_low hg hc)) rfl rfl (Nat.le_of_ble_eq_true rfl) (by show k + 0 ≤ 16; omega) (by show z + 0 ≤ 96; omega) ?_
    refine am_sub [1, 2, 3, 4, 5, 0] (lv2 := [(0, .ref 0), (1, .int x1), (2, .int x2), (3, .int x3), (4, .int x4), (5, .int y0)]) rfl ?_
    exact w_LH_act_109 hg  (by show k + 0 ≤ 0; omega) (by show z + 0 ≤ 0; omega) h
  · have h := h.2 c
    refine am_iload_n (j := 2) d_LH_act_86 rfl rfl ?_
    refine am_bipush (v := (11 : Int32)) d_LH_act_87 (by decide) ?_
    refine am_ishr d_LH_act_89 ?_
    refine am_bipush (v := (40 : Int32)) d_LH_act_90 (by decide) ?_
    obtain ⟨hc, h⟩ := h
    refine ak9_S (as := [.int (x1 >>> ((11 : Int32) &&& 31)), .int (40 : Int32)]) (rest := []) d_LH_act_92 cw_LH_act_92 rfl (am_1I (ct_LH_low hg hc)) rfl rfl (Nat.le_of_ble_eq_true rfl) (by show k + 0 ≤ 16; omega) (by show z + 0 ≤ 96; omega) ?_
    refine am_iconst (v := (3 : Int32)) d_LH_act_95 (by decide) ?_
    refine am_isub d_LH_act_96 ?_
    refine am_goto (tgt := 109) d_LH_act_97 (by decide) ?_
    refine am_sub [1, 2, 3, 4, 5, 0] (lv2 := [(0, .ref 0), (1, .int x1), (2, .int x2), (3, .int x3), (4, .int x4), (5, .int y0)]) rfl ?_
    exact w_LH_act_109 hg  (by show k + 0 ≤ 0; omega) (by show z + 0 ≤ 0; omega) h
def f_LH_act_51  (s : am_M) (x1 : Int32) (x2 : Int32) (x3 : Int32) (y0 : Int32) : Int32 × am_M := (if x2 = 0 then (f_LH_act_80 s x1 x2 x3 y0 (f_LH_low s (x1 >>> ((9 : Int32) &&& 31)) (6 : Int32))) else (f_LH_act_80 s x1 x2 x3 y0 ((f_LH_low s (x1 >>> ((9 : Int32) &&& 31)) (9 : Int32)) - (1 : Int32))))
def p_LH_act_51  (s : am_M) (x1 : Int32) (x2 : Int32) (x3 : Int32) (y0 : Int32) : Prop := ((x2 = 0) → p_LH_low s (x1 >>> ((9 : Int32) &&& 31)) (6 : Int32) ∧ ((p_LH_act_80 s x1 x2 x3 y0 (f_LH_low s (x1 >>> ((9 : Int32) &&& 31)) (6 : Int32))))) ∧ (¬ (x2 = 0) → p_LH_low s (x1 >>> ((9 : Int32) &&& 31)) (9 : Int32) ∧ ((p_LH_act_80 s x1 x2 x3 y0 ((f_LH_low s (x1 >>> ((9 : Int32) &&& 31)) (9 : Int32)) - (1 : Int32)))))
set_option maxRecDepth 8000 in
theorem w_LH_act_51 {l : Launch} {g : am_Gl} (hg : g.2.2.2.1 = true) {ad0 : Nat → Nat}  {s : am_M} {x1 : Int32} {x2 : Int32} {x3 : Int32} {y0 : Int32} {k z : Nat} (hk : k ≤ 0) (hz : z ≤ 0) (h : p_LH_act_51  s x1 x2 x3 y0) : AW l g m_LH_act 207 ad0 (am_oC (f_LH_act_51  s x1 x2 x3 y0)) k z 207 s 51 [(0, .ref 0), (1, .int x1), (2, .int x2), (3, .int x3)] [.int y0] := by
  refine am_istore (lv2 := [(4, .int y0), (0, .ref 0), (1, .int x1), (2, .int x2), (3, .int x3)]) d_LH_act_51 (by decide) rfl ?_
  refine am_iload_n (j := 3) d_LH_act_53 rfl rfl ?_
  refine ai_eq (F := am_oC) (tgt := 71) d_LH_act_54 (by decide) (fun c => ?_) (fun c => ?_)
  · have h := h.1 c
    refine am_iload_n (j := 2) d_LH_act_71 rfl rfl ?_
    refine am_bipush (v := (9 : Int32)) d_LH_act_72 (by decide) ?_
    refine am_ishr d_LH_act_74 ?_
    refine am_bipush (v := (6 : Int32)) d_LH_act_75 (by decide) ?_
    obtain ⟨hc, h⟩ := h
    refine ak9_S (as := [.int (x1 >>> ((9 : Int32) &&& 31)), .int (6 : Int32)]) (rest := []) d_LH_act_77 cw_LH_act_77 rfl (am_1I (ct_LH_low hg hc)) rfl rfl (Nat.le_of_ble_eq_true rfl) (by show k + 0 ≤ 16; omega) (by show z + 0 ≤ 96; omega) ?_
    refine am_sub [1, 2, 3, 4, 0] (lv2 := [(0, .ref 0), (1, .int x1), (2, .int x2), (3, .int x3), (4, .int y0)]) rfl ?_
    exact w_LH_act_80 hg  (by show k + 0 ≤ 0; omega) (by show z + 0 ≤ 0; omega) h
  · have h := h.2 c
    refine am_iload_n (j := 2) d_LH_act_57 rfl rfl ?_
    refine am_bipush (v := (9 : Int32)) d_LH_act_58 (by decide) ?_
    refine am_ishr d_LH_act_60 ?_
    refine am_bipush (v := (9 : Int32)) d_LH_act_61 (by decide) ?_
    obtain ⟨hc, h⟩ := h
    refine ak9_S (as := [.int (x1 >>> ((9 : Int32) &&& 31)), .int (9 : Int32)]) (rest := []) d_LH_act_63 cw_LH_act_63 rfl (am_1I (ct_LH_low hg hc)) rfl rfl (Nat.le_of_ble_eq_true rfl) (by show k + 0 ≤ 16; omega) (by show z + 0 ≤ 96; omega) ?_
    refine am_iconst (v := (1 : Int32)) d_LH_act_66 (by decide) ?_
    refine am_isub d_LH_act_67 ?_
    refine am_goto (tgt := 80) d_LH_act_68 (by decide) ?_
    refine am_sub [1, 2, 3, 4, 0] (lv2 := [(0, .ref 0), (1, .int x1), (2, .int x2), (3, .int x3), (4, .int y0)]) rfl ?_
    exact w_LH_act_80 hg  (by show k + 0 ≤ 0; omega) (by show z + 0 ≤ 0; omega) h
def f_LH_act_17  (s : am_M) (x1 : Int32) (y0 : Int32) : Int32 × am_M := (if y0 = 0 then (f_LH_act_51 s x1 y0 (f_LH_low s x1 (50 : Int32)) (f_LH_low s (x1 >>> ((6 : Int32) &&& 31)) (3 : Int32))) else (f_LH_act_51 s x1 y0 (f_LH_low s x1 (50 : Int32)) ((f_LH_low s (x1 >>> ((6 : Int32) &&& 31)) (6 : Int32)) - (1 : Int32))))
def p_LH_act_17  (s : am_M) (x1 : Int32) (y0 : Int32) : Prop := p_LH_low s x1 (50 : Int32) ∧ (((y0 = 0) → p_LH_low s (x1 >>> ((6 : Int32) &&& 31)) (3 : Int32) ∧ ((p_LH_act_51 s x1 y0 (f_LH_low s x1 (50 : Int32)) (f_LH_low s (x1 >>> ((6 : Int32) &&& 31)) (3 : Int32))))) ∧ (¬ (y0 = 0) → p_LH_low s (x1 >>> ((6 : Int32) &&& 31)) (6 : Int32) ∧ ((p_LH_act_51 s x1 y0 (f_LH_low s x1 (50 : Int32)) ((f_LH_low s (x1 >>> ((6 : Int32) &&& 31)) (6 : Int32)) - (1 : Int32))))))
set_option maxRecDepth 8000 in
theorem w_LH_act_17 {l : Launch} {g : am_Gl} (hg : g.2.2.2.1 = true) {ad0 : Nat → Nat}  {s : am_M} {x1 : Int32} {y0 : Int32} {k z : Nat} (hk : k ≤ 0) (hz : z ≤ 0) (h : p_LH_act_17  s x1 y0) : AW l g m_LH_act 207 ad0 (am_oC (f_LH_act_17  s x1 y0)) k z 207 s 17 [(0, .ref 0), (1, .int x1)] [.int y0] := by
  refine am_istore_n (lv2 := [(2, .int y0), (0, .ref 0), (1, .int x1)]) d_LH_act_17 rfl (by decide) rfl ?_
  refine am_iload_n (j := 2) d_LH_act_18 rfl rfl ?_
  refine am_bipush (v := (50 : Int32)) d_LH_act_19 (by decide) ?_
  obtain ⟨hc, h⟩ := h
  refine ak9_S (as := [.int x1, .int (50 : Int32)]) (rest := []) d_LH_act_21 cw_LH_act_21 rfl (am_1I (ct_LH_low hg hc)) rfl rfl (Nat.le_of_ble_eq_true rfl) (by show k + 0 ≤ 16; omega) (by show z + 0 ≤ 96; omega) ?_
  refine am_istore_n (lv2 := [(3, .int (f_LH_low s x1 (50 : Int32))), (2, .int y0), (0, .ref 0), (1, .int x1)]) d_LH_act_24 rfl (by decide) rfl ?_
  refine am_iload_n (j := 1) d_LH_act_25 rfl rfl ?_
  refine ai_eq (F := am_oC) (tgt := 43) d_LH_act_26 (by decide) (fun c => ?_) (fun c => ?_)
  · have h := h.1 c
    refine am_iload_n (j := 3) d_LH_act_43 rfl rfl ?_
    refine am_bipush (v := (6 : Int32)) d_LH_act_44 (by decide) ?_
    refine am_ishr d_LH_act_46 ?_
    refine am_iconst (v := (3 : Int32)) d_LH_act_47 (by decide) ?_
    obtain ⟨hc, h⟩ := h
    refine ak9_S (as := [.int (x1 >>> ((6 : Int32) &&& 31)), .int (3 : Int32)]) (rest := []) d_LH_act_48 cw_LH_act_48 rfl (am_1I (ct_LH_low hg hc)) rfl rfl (Nat.le_of_ble_eq_true rfl) (by show k + 0 + 0 ≤ 16; omega) (by show z + 0 + 0 ≤ 96; omega) ?_
    refine am_sub [2, 3, 1, 0] (lv2 := [(0, .ref 0), (1, .int x1), (2, .int y0), (3, .int (f_LH_low s x1 (50 : Int32)))]) rfl ?_
    exact w_LH_act_51 hg  (by show k + 0 + 0 ≤ 0; omega) (by show z + 0 + 0 ≤ 0; omega) h
  · have h := h.2 c
    refine am_iload_n (j := 3) d_LH_act_29 rfl rfl ?_
    refine am_bipush (v := (6 : Int32)) d_LH_act_30 (by decide) ?_
    refine am_ishr d_LH_act_32 ?_
    refine am_bipush (v := (6 : Int32)) d_LH_act_33 (by decide) ?_
    obtain ⟨hc, h⟩ := h
    refine ak9_S (as := [.int (x1 >>> ((6 : Int32) &&& 31)), .int (6 : Int32)]) (rest := []) d_LH_act_35 cw_LH_act_35 rfl (am_1I (ct_LH_low hg hc)) rfl rfl (Nat.le_of_ble_eq_true rfl) (by show k + 0 + 0 ≤ 16; omega) (by show z + 0 + 0 ≤ 96; omega) ?_
    refine am_iconst (v := (1 : Int32)) d_LH_act_38 (by decide) ?_
    refine am_isub d_LH_act_39 ?_
    refine am_goto (tgt := 51) d_LH_act_40 (by decide) ?_
    refine am_sub [2, 3, 1, 0] (lv2 := [(0, .ref 0), (1, .int x1), (2, .int y0), (3, .int (f_LH_low s x1 (50 : Int32)))]) rfl ?_
    exact w_LH_act_51 hg  (by show k + 0 + 0 ≤ 0; omega) (by show z + 0 + 0 ≤ 0; omega) h
def f_LH_act (s : am_M) (x1 : Int32) : Int32 × am_M := (if ((x1 >>> ((18 : Int32) &&& 31)) &&& (7 : Int32)) = (7 : Int32) then (f_LH_act_17 s x1 (1 : Int32)) else (f_LH_act_17 s x1 (0 : Int32)))
def p_LH_act (s : am_M) (x1 : Int32) : Prop := ((((x1 >>> ((18 : Int32) &&& 31)) &&& (7 : Int32)) = (7 : Int32)) → (p_LH_act_17 s x1 (1 : Int32))) ∧ (¬ (((x1 >>> ((18 : Int32) &&& 31)) &&& (7 : Int32)) = (7 : Int32)) → (p_LH_act_17 s x1 (0 : Int32)))
set_option maxRecDepth 8000 in
theorem w_LH_act {l : Launch} {g : am_Gl} (hg : g.2.2.2.1 = true) {ad0 : Nat → Nat} {s : am_M} {x1 : Int32} (h : p_LH_act s x1) : AW l g m_LH_act 207 ad0 (am_oC (f_LH_act s x1)) 0 0 207 s 0 [(0, .ref 0), (1, .int x1)] [] := by
  refine am_iload_n (j := 1) d_LH_act_0 rfl rfl ?_
  refine am_bipush (v := (18 : Int32)) d_LH_act_1 (by decide) ?_
  refine am_ishr d_LH_act_3 ?_
  refine am_bipush (v := (7 : Int32)) d_LH_act_4 (by decide) ?_
  refine am_iand d_LH_act_6 ?_
  refine am_bipush (v := (7 : Int32)) d_LH_act_7 (by decide) ?_
  refine aj_ne (F := am_oC) (tgt := 16) d_LH_act_9 (by decide) (fun c => ?_) (fun c => ?_)
  · have h := h.2 c
    refine am_iconst (v := (0 : Int32)) d_LH_act_16 (by decide) ?_
    exact w_LH_act_17 hg  (by show 0 ≤ 0; omega) (by show 0 ≤ 0; omega) h
  · have h := h.1 c
    refine am_iconst (v := (1 : Int32)) d_LH_act_12 (by decide) ?_
    refine am_goto (tgt := 17) d_LH_act_13 (by decide) ?_
    exact w_LH_act_17 hg  (by show 0 ≤ 0; omega) (by show 0 ≤ 0; omega) h
theorem ct_LH_act {l : Launch} {g : am_Gl} (hg : g.2.2.2.1 = true) {s : am_M} {x1 : Int32} (h : p_LH_act s x1) : AC l g m_LH_act 207 s [.ref 0, .int x1] (am_oC (f_LH_act s x1)) := am_enter ok_LH_act rfl (Nat.le_of_ble_eq_true rfl) rfl (fun ad0 => w_LH_act hg h)
theorem cw_LH_isOrderSo_9 : am_sh9 m_LH_isOrderSo m_LH_does 159 5 := ⟨ok_LH_does, ⟨_, rfl⟩, by decide +kernel, by decide, by decide, aw_1_193, aw_1_194⟩
theorem cw_LH_isOrderSo_87 : am_sh9 m_LH_isOrderSo m_LH_does 159 5 := ⟨ok_LH_does, ⟨_, rfl⟩, by decide +kernel, by decide, by decide, aw_1_193, aw_1_194⟩
theorem cw_LH_isOrderSo_118 : am_sh9 m_LH_isOrderSo m_LH_rows 193 2 := ⟨ok_LH_rows, ⟨_, rfl⟩, by decide +kernel, by decide, by decide, aw_5_99, aw_5_100⟩
theorem cw_LH_isOrderSo_148 : am_sh9 m_LH_isOrderSo m_LH_sets10 163 8 := ⟨ok_LH_sets10, ⟨_, rfl⟩, by decide +kernel, by decide, by decide, aw_3_221, aw_3_222⟩
theorem cw_LH_isOrderSo_168 : am_cv m_LH_isOrderSo m_CB_isThere 196 2 := ⟨⟨ok_CB_isThere, rfl, by decide +kernel, by decide, by decide⟩, aw_5_107, aw_5_108, aw_5_109⟩
def f_LH_isOrderSo_70 (K16 : am_M → Int32 → Int32 → Int32 → Int32 → Int32 × am_M) (s : am_M) (x1 : Int32) (x2 : Int32) (x3 : Int32) (x4 : Int32) (x5 : Int32) (y0 : Int32) : Int32 × am_M := (K16 (f_LH_does s (4 : Int32) (x2 + (1 : Int32)) (0 : Int32) (0 : Int32)).2 (x1 ||| ((1 : Int32) <<< (x5 &&& 31))) (x2 + (1 : Int32)) (f_LH_does s (4 : Int32) (x2 + (1 : Int32)) (0 : Int32) (0 : Int32)).1 y0)
def p_LH_isOrderSo_70 (KP16 : am_M → Int32 → Int32 → Int32 → Int32 → Prop) (s : am_M) (x1 : Int32) (x2 : Int32) (x3 : Int32) (x4 : Int32) (x5 : Int32) (y0 : Int32) : Prop := p_LH_does s (4 : Int32) (x2 + (1 : Int32)) (0 : Int32) (0 : Int32) ∧ ((KP16 (f_LH_does s (4 : Int32) (x2 + (1 : Int32)) (0 : Int32) (0 : Int32)).2 (x1 ||| ((1 : Int32) <<< (x5 &&& 31))) (x2 + (1 : Int32)) (f_LH_does s (4 : Int32) (x2 + (1 : Int32)) (0 : Int32) (0 : Int32)).1 y0))
set_option maxRecDepth 8000 in
theorem w_LH_isOrderSo_70 {l : Launch} {g : am_Gl} (hg : g.2.2.2.1 = true) {ad0 : Nat → Nat} {K16 : am_M → Int32 → Int32 → Int32 → Int32 → Int32 × am_M} {KP16 : am_M → Int32 → Int32 → Int32 → Int32 → Prop} {β16 : Nat} (hβ16 : β16 ≤ 104) (hK16 : ∀ (s : am_M) (x1 : Int32) (x2 : Int32) (x3 : Int32) (x4 : Int32) (k z : Nat), k ≤ β16 → z ≤ 6 * β16 → KP16 s x1 x2 x3 x4 → AW l g m_LH_isOrderSo 207 ad0 (am_oC (K16 s x1 x2 x3 x4)) k z 207 s 16 [(0, .ref 0), (1, .int x1), (2, .int x2), (3, .int x3), (4, .int x4)] []) {s : am_M} {x1 : Int32} {x2 : Int32} {x3 : Int32} {x4 : Int32} {x5 : Int32} {y0 : Int32} {k z : Nat} (hk : k + 4 ≤ β16) (hz : z + 24 ≤ 6 * β16) (h : p_LH_isOrderSo_70 KP16 s x1 x2 x3 x4 x5 y0) : AW l g m_LH_isOrderSo 207 ad0 (am_oC (f_LH_isOrderSo_70 K16 s x1 x2 x3 x4 x5 y0)) k z 207 s 70 [(0, .ref 0), (1, .int x1), (2, .int x2), (3, .int x3), (4, .int x4), (5, .int x5)] [.int y0] := by
  refine am_istore (lv2 := [(4, .int y0), (0, .ref 0), (1, .int x1), (2, .int x2), (3, .int x3), (5, .int x5)]) d_LH_isOrderSo_70 (by decide) rfl ?_
  refine am_iload_n (j := 2) d_LH_isOrderSo_72 rfl rfl ?_
  refine am_iconst (v := (1 : Int32)) d_LH_isOrderSo_73 (by decide) ?_
  refine am_iload (j := 5) d_LH_isOrderSo_74 rfl ?_
  refine am_ishl d_LH_isOrderSo_76 ?_
  refine am_ior d_LH_isOrderSo_77 ?_
  refine am_istore_n (lv2 := [(1, .int (x1 ||| ((1 : Int32) <<< (x5 &&& 31)))), (4, .int y0), (0, .ref 0), (2, .int x2), (3, .int x3), (5, .int x5)]) d_LH_isOrderSo_78 rfl (by decide) rfl ?_
  refine am_iinc (j := 3) (v := (x2 + (1 : Int32))) (lv2 := [(2, .int (x2 + (1 : Int32))), (1, .int (x1 ||| ((1 : Int32) <<< (x5 &&& 31)))), (4, .int y0), (0, .ref 0), (3, .int x3), (5, .int x5)]) d_LH_isOrderSo_79 rfl rfl (by decide) rfl ?_
  refine am_aload_n (j := 3) d_LH_isOrderSo_82 rfl rfl ?_
  refine am_iconst (v := (4 : Int32)) d_LH_isOrderSo_83 (by decide) ?_
  refine am_iload_n (j := 0) d_LH_isOrderSo_84 rfl rfl ?_
  refine am_iconst (v := (0 : Int32)) d_LH_isOrderSo_85 (by decide) ?_
  refine am_iconst (v := (0 : Int32)) d_LH_isOrderSo_86 (by decide) ?_
  obtain ⟨hc, h⟩ := h
  refine ak9_SX (as := [.ref 0, .int (4 : Int32), .int (x2 + (1 : Int32)), .int (0 : Int32), .int (0 : Int32)]) (rest := []) d_LH_isOrderSo_87 cw_LH_isOrderSo_87 rfl (am_1C (ct_LH_does hg hc)) rfl rfl (Nat.le_of_ble_eq_true rfl) (by show k + 4 ≤ 3724; omega) (by show z + 24 ≤ 22344; omega) ?_
  refine am_istore_n (lv2 := [(3, .int (f_LH_does s (4 : Int32) (x2 + (1 : Int32)) (0 : Int32) (0 : Int32)).1), (2, .int (x2 + (1 : Int32))), (1, .int (x1 ||| ((1 : Int32) <<< (x5 &&& 31)))), (4, .int y0), (0, .ref 0), (5, .int x5)]) d_LH_isOrderSo_90 rfl (by decide) rfl ?_
  refine am_goto (tgt := 16) d_LH_isOrderSo_91 (by decide) ?_
  refine am_sub [4, 2, 1, 0, 3] (lv2 := [(0, .ref 0), (1, .int (x1 ||| ((1 : Int32) <<< (x5 &&& 31)))), (2, .int (x2 + (1 : Int32))), (3, .int (f_LH_does s (4 : Int32) (x2 + (1 : Int32)) (0 : Int32) (0 : Int32)).1), (4, .int y0)]) rfl ?_
  exact hK16 _ _ _ _ _ _ _ (by show k + 4 ≤ β16; omega) (by show z + 24 ≤ 6 * β16; omega) h
def f_LH_isOrderSo_69 (K16 : am_M → Int32 → Int32 → Int32 → Int32 → Int32 × am_M) (s : am_M) (x1 : Int32) (x2 : Int32) (x3 : Int32) (x4 : Int32) (x5 : Int32) : Int32 × am_M := (f_LH_isOrderSo_70 K16 s x1 x2 x3 x4 x5 (0 : Int32))
def p_LH_isOrderSo_69 (KP16 : am_M → Int32 → Int32 → Int32 → Int32 → Prop) (s : am_M) (x1 : Int32) (x2 : Int32) (x3 : Int32) (x4 : Int32) (x5 : Int32) : Prop := (p_LH_isOrderSo_70 KP16 s x1 x2 x3 x4 x5 (0 : Int32))
set_option maxRecDepth 8000 in
theorem w_LH_isOrderSo_69 {l : Launch} {g : am_Gl} (hg : g.2.2.2.1 = true) {ad0 : Nat → Nat} {K16 : am_M → Int32 → Int32 → Int32 → Int32 → Int32 × am_M} {KP16 : am_M → Int32 → Int32 → Int32 → Int32 → Prop} {β16 : Nat} (hβ16 : β16 ≤ 104) (hK16 : ∀ (s : am_M) (x1 : Int32) (x2 : Int32) (x3 : Int32) (x4 : Int32) (k z : Nat), k ≤ β16 → z ≤ 6 * β16 → KP16 s x1 x2 x3 x4 → AW l g m_LH_isOrderSo 207 ad0 (am_oC (K16 s x1 x2 x3 x4)) k z 207 s 16 [(0, .ref 0), (1, .int x1), (2, .int x2), (3, .int x3), (4, .int x4)] []) {s : am_M} {x1 : Int32} {x2 : Int32} {x3 : Int32} {x4 : Int32} {x5 : Int32} {k z : Nat} (hk : k + 4 ≤ β16) (hz : z + 24 ≤ 6 * β16) (h : p_LH_isOrderSo_69 KP16 s x1 x2 x3 x4 x5) : AW l g m_LH_isOrderSo 207 ad0 (am_oC (f_LH_isOrderSo_69 K16 s x1 x2 x3 x4 x5)) k z 207 s 69 [(0, .ref 0), (1, .int x1), (2, .int x2), (3, .int x3), (4, .int x4), (5, .int x5)] [] := by
  refine am_iconst (v := (0 : Int32)) d_LH_isOrderSo_69 (by decide) ?_
  exact w_LH_isOrderSo_70 hg hβ16 hK16 (by show k + 4 ≤ β16; omega) (by show z + 24 ≤ 6 * β16; omega) h
def f_LH_isOrderSo_200 (K97 : am_M → Int32 → Int32 → Int32 → Int32 → Int32 → Int32 × am_M) (K111 : am_M → Int32 → Int32 → Int32 → Int32 → Int32 → Int32 → Int32 × am_M) (s : am_M) (x1 : Int32) (x2 : Int32) (x3 : Int32) (x4 : Int32) (x5 : Int32) (x6 : Int32) (x7 : Int32) (y0 : Int32) : Int32 × am_M := (K111 s x1 x2 x3 y0 x5 (x6 + (1 : Int32)))
def p_LH_isOrderSo_200 (KP97 : am_M → Int32 → Int32 → Int32 → Int32 → Int32 → Prop) (KP111 : am_M → Int32 → Int32 → Int32 → Int32 → Int32 → Int32 → Prop) (s : am_M) (x1 : Int32) (x2 : Int32) (x3 : Int32) (x4 : Int32) (x5 : Int32) (x6 : Int32) (x7 : Int32) (y0 : Int32) : Prop := (KP111 s x1 x2 x3 y0 x5 (x6 + (1 : Int32)))
set_option maxRecDepth 8000 in
theorem w_LH_isOrderSo_200 {l : Launch} {g : am_Gl} (hg : g.2.2.2.1 = true) {ad0 : Nat → Nat} {K97 : am_M → Int32 → Int32 → Int32 → Int32 → Int32 → Int32 × am_M} {KP97 : am_M → Int32 → Int32 → Int32 → Int32 → Int32 → Prop} {β97 : Nat} {K111 : am_M → Int32 → Int32 → Int32 → Int32 → Int32 → Int32 → Int32 × am_M} {KP111 : am_M → Int32 → Int32 → Int32 → Int32 → Int32 → Int32 → Prop} {β111 : Nat} (hβ97 : β97 ≤ 3724) (hK97 : ∀ (s : am_M) (x1 : Int32) (x2 : Int32) (x3 : Int32) (x4 : Int32) (x5 : Int32) (k z : Nat), k ≤ β97 → z ≤ 6 * β97 → KP97 s x1 x2 x3 x4 x5 → AW l g m_LH_isOrderSo 207 ad0 (am_oC (K97 s x1 x2 x3 x4 x5)) k z 207 s 97 [(0, .ref 0), (1, .int x1), (2, .int x2), (3, .int x3), (4, .int x4), (5, .int x5)] []) (hβ111 : β111 + 0 ≤ β97) (hK111 : ∀ (s : am_M) (x1 : Int32) (x2 : Int32) (x3 : Int32) (x4 : Int32) (x5 : Int32) (x6 : Int32) (k z : Nat), k ≤ β111 → z ≤ 6 * β111 → KP111 s x1 x2 x3 x4 x5 x6 → AW l g m_LH_isOrderSo 207 ad0 (am_oC (K111 s x1 x2 x3 x4 x5 x6)) k z 207 s 111 [(0, .ref 0), (1, .int x1), (2, .int x2), (3, .int x3), (4, .int x4), (5, .int x5), (6, .int x6)] []) {s : am_M} {x1 : Int32} {x2 : Int32} {x3 : Int32} {x4 : Int32} {x5 : Int32} {x6 : Int32} {x7 : Int32} {y0 : Int32} {k z : Nat} (hk : k + 0 ≤ β111) (hz : z + 0 ≤ 6 * β111) (h : p_LH_isOrderSo_200 KP97 KP111 s x1 x2 x3 x4 x5 x6 x7 y0) : AW l g m_LH_isOrderSo 207 ad0 (am_oC (f_LH_isOrderSo_200 K97 K111 s x1 x2 x3 x4 x5 x6 x7 y0)) k z 207 s 200 [(0, .ref 0), (1, .int x1), (2, .int x2), (3, .int x3), (4, .int x4), (5, .int x5), (6, .int x6), (7, .int x7)] [.int y0] := by
  refine am_istore (lv2 := [(4, .int y0), (0, .ref 0), (1, .int x1), (2, .int x2), (3, .int x3), (5, .int x5), (6, .int x6), (7, .int x7)]) d_LH_isOrderSo_200 (by decide) rfl ?_
  refine am_iinc (j := 6) (v := (x6 + (1 : Int32))) (lv2 := [(6, .int (x6 + (1 : Int32))), (4, .int y0), (0, .ref 0), (1, .int x1), (2, .int x2), (3, .int x3), (5, .int x5), (7, .int x7)]) d_LH_isOrderSo_202 rfl rfl (by decide) rfl ?_
  refine am_goto (tgt := 111) d_LH_isOrderSo_205 (by decide) ?_
  refine am_sub [2, 3, 4, 5, 1, 6, 0] (lv2 := [(0, .ref 0), (1, .int x1), (2, .int x2), (3, .int x3), (4, .int y0), (5, .int x5), (6, .int (x6 + (1 : Int32)))]) rfl ?_
  exact hK111 _ _ _ _ _ _ _ _ _ (by show k ≤ β111; omega) (by show z ≤ 6 * β111; omega) h
def f_LH_isOrderSo_195 (K97 : am_M → Int32 → Int32 → Int32 → Int32 → Int32 → Int32 × am_M) (K111 : am_M → Int32 → Int32 → Int32 → Int32 → Int32 → Int32 → Int32 × am_M) (s : am_M) (x1 : Int32) (x2 : Int32) (x3 : Int32) (x4 : Int32) (x5 : Int32) (x6 : Int32) (x7 : Int32) : Int32 × am_M := (f_LH_isOrderSo_200 K97 K111 s x1 x2 x3 x4 x5 x6 x7 (1 : Int32))
def p_LH_isOrderSo_195 (KP97 : am_M → Int32 → Int32 → Int32 → Int32 → Int32 → Prop) (KP111 : am_M → Int32 → Int32 → Int32 → Int32 → Int32 → Int32 → Prop) (s : am_M) (x1 : Int32) (x2 : Int32) (x3 : Int32) (x4 : Int32) (x5 : Int32) (x6 : Int32) (x7 : Int32) : Prop := (p_LH_isOrderSo_200 KP97 KP111 s x1 x2 x3 x4 x5 x6 x7 (1 : Int32))
set_option maxRecDepth 8000 in
theorem w_LH_isOrderSo_195 {l : Launch} {g : am_Gl} (hg : g.2.2.2.1 = true) {ad0 : Nat → Nat} {K97 : am_M → Int32 → Int32 → Int32 → Int32 → Int32 → Int32 × am_M} {KP97 : am_M → Int32 → Int32 → Int32 → Int32 → Int32 → Prop} {β97 : Nat} {K111 : am_M → Int32 → Int32 → Int32 → Int32 → Int32 → Int32 → Int32 × am_M} {KP111 : am_M → Int32 → Int32 → Int32 → Int32 → Int32 → Int32 → Prop} {β111 : Nat} (hβ97 : β97 ≤ 3724) (hK97 : ∀ (s : am_M) (x1 : Int32) (x2 : Int32) (x3 : Int32) (x4 : Int32) (x5 : Int32) (k z : Nat), k ≤ β97 → z ≤ 6 * β97 → KP97 s x1 x2 x3 x4 x5 → AW l g m_LH_isOrderSo 207 ad0 (am_oC (K97 s x1 x2 x3 x4 x5)) k z 207 s 97 [(0, .ref 0), (1, .int x1), (2, .int x2), (3, .int x3), (4, .int x4), (5, .int x5)] []) (hβ111 : β111 + 0 ≤ β97) (hK111 : ∀ (s : am_M) (x1 : Int32) (x2 : Int32) (x3 : Int32) (x4 : Int32) (x5 : Int32) (x6 : Int32) (k z : Nat), k ≤ β111 → z ≤ 6 * β111 → KP111 s x1 x2 x3 x4 x5 x6 → AW l g m_LH_isOrderSo 207 ad0 (am_oC (K111 s x1 x2 x3 x4 x5 x6)) k z 207 s 111 [(0, .ref 0), (1, .int x1), (2, .int x2), (3, .int x3), (4, .int x4), (5, .int x5), (6, .int x6)] []) {s : am_M} {x1 : Int32} {x2 : Int32} {x3 : Int32} {x4 : Int32} {x5 : Int32} {x6 : Int32} {x7 : Int32} {k z : Nat} (hk : k + 0 ≤ β111) (hz : z + 0 ≤ 6 * β111) (h : p_LH_isOrderSo_195 KP97 KP111 s x1 x2 x3 x4 x5 x6 x7) : AW l g m_LH_isOrderSo 207 ad0 (am_oC (f_LH_isOrderSo_195 K97 K111 s x1 x2 x3 x4 x5 x6 x7)) k z 207 s 195 [(0, .ref 0), (1, .int x1), (2, .int x2), (3, .int x3), (4, .int x4), (5, .int x5), (6, .int x6), (7, .int x7)] [] := by
  refine am_iconst (v := (1 : Int32)) d_LH_isOrderSo_195 (by decide) ?_
  refine am_goto (tgt := 200) d_LH_isOrderSo_196 (by decide) ?_
  exact w_LH_isOrderSo_200 hg hβ97 hK97 hβ111 hK111 (by show k + 0 ≤ β111; omega) (by show z + 0 ≤ 6 * β111; omega) h
def f_LH_isOrderSo_199 (K97 : am_M → Int32 → Int32 → Int32 → Int32 → Int32 → Int32 × am_M) (K111 : am_M → Int32 → Int32 → Int32 → Int32 → Int32 → Int32 → Int32 × am_M) (s : am_M) (x1 : Int32) (x2 : Int32) (x3 : Int32) (x4 : Int32) (x5 : Int32) (x6 : Int32) (x7 : Int32) : Int32 × am_M := (f_LH_isOrderSo_200 K97 K111 s x1 x2 x3 x4 x5 x6 x7 (0 : Int32))
def p_LH_isOrderSo_199 (KP97 : am_M → Int32 → Int32 → Int32 → Int32 → Int32 → Prop) (KP111 : am_M → Int32 → Int32 → Int32 → Int32 → Int32 → Int32 → Prop) (s : am_M) (x1 : Int32) (x2 : Int32) (x3 : Int32) (x4 : Int32) (x5 : Int32) (x6 : Int32) (x7 : Int32) : Prop := (p_LH_isOrderSo_200 KP97 KP111 s x1 x2 x3 x4 x5 x6 x7 (0 : Int32))
set_option maxRecDepth 8000 in
theorem w_LH_isOrderSo_199 {l : Launch} {g : am_Gl} (hg : g.2.2.2.1 = true) {ad0 : Nat → Nat} {K97 : am_M → Int32 → Int32 → Int32 → Int32 → Int32 → Int32 × am_M} {KP97 : am_M → Int32 → Int32 → Int32 → Int32 → Int32 → Prop} {β97 : Nat} {K111 : am_M → Int32 → Int32 → Int32 → Int32 → Int32 → Int32 → Int32 × am_M} {KP111 : am_M → Int32 → Int32 → Int32 → Int32 → Int32 → Int32 → Prop} {β111 : Nat} (hβ97 : β97 ≤ 3724) (hK97 : ∀ (s : am_M) (x1 : Int32) (x2 : Int32) (x3 : Int32) (x4 : Int32) (x5 : Int32) (k z : Nat), k ≤ β97 → z ≤ 6 * β97 → KP97 s x1 x2 x3 x4 x5 → AW l g m_LH_isOrderSo 207 ad0 (am_oC (K97 s x1 x2 x3 x4 x5)) k z 207 s 97 [(0, .ref 0), (1, .int x1), (2, .int x2), (3, .int x3), (4, .int x4), (5, .int x5)] []) (hβ111 : β111 + 0 ≤ β97) (hK111 : ∀ (s : am_M) (x1 : Int32) (x2 : Int32) (x3 : Int32) (x4 : Int32) (x5 : Int32) (x6 : Int32) (k z : Nat), k ≤ β111 → z ≤ 6 * β111 → KP111 s x1 x2 x3 x4 x5 x6 → AW l g m_LH_isOrderSo 207 ad0 (am_oC (K111 s x1 x2 x3 x4 x5 x6)) k z 207 s 111 [(0, .ref 0), (1, .int x1), (2, .int x2), (3, .int x3), (4, .int x4), (5, .int x5), (6, .int x6)] []) {s : am_M} {x1 : Int32} {x2 : Int32} {x3 : Int32} {x4 : Int32} {x5 : Int32} {x6 : Int32} {x7 : Int32} {k z : Nat} (hk : k + 0 ≤ β111) (hz : z + 0 ≤ 6 * β111) (h : p_LH_isOrderSo_199 KP97 KP111 s x1 x2 x3 x4 x5 x6 x7) : AW l g m_LH_isOrderSo 207 ad0 (am_oC (f_LH_isOrderSo_199 K97 K111 s x1 x2 x3 x4 x5 x6 x7)) k z 207 s 199 [(0, .ref 0), (1, .int x1), (2, .int x2), (3, .int x3), (4, .int x4), (5, .int x5), (6, .int x6), (7, .int x7)] [] := by
  refine am_iconst (v := (0 : Int32)) d_LH_isOrderSo_199 (by decide) ?_
  exact w_LH_isOrderSo_200 hg hβ97 hK97 hβ111 hK111 (by show k + 0 ≤ β111; omega) (by show z + 0 ≤ 6 * β111; omega) h
def f_LH_isOrderSo_208 (K97 : am_M → Int32 → Int32 → Int32 → Int32 → Int32 → Int32 × am_M) (s : am_M) (x1 : Int32) (x2 : Int32) (x3 : Int32) (x4 : Int32) (x5 : Int32) (x6 : Int32) : Int32 × am_M := (K97 s x1 x2 x3 x4 (x5 + (1 : Int32)))
def p_LH_isOrderSo_208 (KP97 : am_M → Int32 → Int32 → Int32 → Int32 → Int32 → Prop) (s : am_M) (x1 : Int32) (x2 : Int32) (x3 : Int32) (x4 : Int32) (x5 : Int32) (x6 : Int32) : Prop := (KP97 s x1 x2 x3 x4 (x5 + (1 : Int32)))
set_option maxRecDepth 8000 in
theorem w_LH_isOrderSo_208 {l : Launch} {g : am_Gl} (hg : g.2.2.2.1 = true) {ad0 : Nat → Nat} {K97 : am_M → Int32 → Int32 → Int32 → Int32 → Int32 → Int32 × am_M} {KP97 : am_M → Int32 → Int32 → Int32 → Int32 → Int32 → Prop} {β97 : Nat} (hβ97 : β97 ≤ 3724) (hK97 : ∀ (s : am_M) (x1 : Int32) (x2 : Int32) (x3 : Int32) (x4 : Int32) (x5 : Int32) (k z : Nat), k ≤ β97 → z ≤ 6 * β97 → KP97 s x1 x2 x3 x4 x5 → AW l g m_LH_isOrderSo 207 ad0 (am_oC (K97 s x1 x2 x3 x4 x5)) k z 207 s 97 [(0, .ref 0), (1, .int x1), (2, .int x2), (3, .int x3), (4, .int x4), (5, .int x5)] []) {s : am_M} {x1 : Int32} {x2 : Int32} {x3 : Int32} {x4 : Int32} {x5 : Int32} {x6 : Int32} {k z : Nat} (hk : k + 0 ≤ β97) (hz : z + 0 ≤ 6 * β97) (h : p_LH_isOrderSo_208 KP97 s x1 x2 x3 x4 x5 x6) : AW l g m_LH_isOrderSo 207 ad0 (am_oC (f_LH_isOrderSo_208 K97 s x1 x2 x3 x4 x5 x6)) k z 207 s 208 [(0, .ref 0), (1, .int x1), (2, .int x2), (3, .int x3), (4, .int x4), (5, .int x5), (6, .int x6)] [] := by
  refine am_iinc (j := 5) (v := (x5 + (1 : Int32))) (lv2 := [(5, .int (x5 + (1 : Int32))), (0, .ref 0), (1, .int x1), (2, .int x2), (3, .int x3), (4, .int x4), (6, .int x6)]) d_LH_isOrderSo_208 rfl rfl (by decide) rfl ?_
  refine am_goto (tgt := 97) d_LH_isOrderSo_211 (by decide) ?_
  refine am_sub [1, 2, 3, 4, 5, 0] (lv2 := [(0, .ref 0), (1, .int x1), (2, .int x2), (3, .int x3), (4, .int x4), (5, .int (x5 + (1 : Int32)))]) rfl ?_
  exact hK97 _ _ _ _ _ _ _ _ (by show k ≤ β97; omega) (by show z ≤ 6 * β97; omega) h
def f_LH_isOrderSo_111 (K97 : am_M → Int32 → Int32 → Int32 → Int32 → Int32 → Int32 × am_M) : Nat → am_M → Int32 → Int32 → Int32 → Int32 → Int32 → Int32 → Int32 × am_M
  | 0, s, x1, x2, x3, x4, x5, x6 => (0, s)
  | n + 1, s, x1, x2, x3, x4, x5, x6 => (if ((6 : Int32) * (f_LH_rows s x5)) ≤ x6 then (f_LH_isOrderSo_208 K97 s x1 x2 x3 x4 x5 x6) else (if x4 = 0 then (f_LH_isOrderSo_208 K97 s x1 x2 x3 x4 x5 x6) else (if (f_LH_sets10 s x5 (x6 / (6 : Int32)) (x6 - x6 / (6 : Int32) * (6 : Int32)) (0 : Int32) (0 : Int32) (0 : Int32)).1 = (-9999999 : Int32) then (f_LH_isOrderSo_195 K97 (f_LH_isOrderSo_111 K97 n) (f_LH_sets10 s x5 (x6 / (6 : Int32)) (x6 - x6 / (6 : Int32) * (6 : Int32)) (0 : Int32) (0 : Int32) (0 : Int32)).2 x1 x2 x3 x4 x5 x6 (f_LH_sets10 s x5 (x6 / (6 : Int32)) (x6 - x6 / (6 : Int32) * (6 : Int32)) (0 : Int32) (0 : Int32) (0 : Int32)).1) else (if (f_CB_isThere (f_LH_sets10 s x5 (x6 / (6 : Int32)) (x6 - x6 / (6 : Int32) * (6 : Int32)) (0 : Int32) (0 : Int32) (0 : Int32)).2 x5 (x6 / (6 : Int32))).2.1 = 0 then (f_LH_isOrderSo_199 K97 (f_LH_isOrderSo_111 K97 n) (f_CB_isThere (f_LH_sets10 s x5 (x6 / (6 : Int32)) (x6 - x6 / (6 : Int32) * (6 : Int32)) (0 : Int32) (0 : Int32) (0 : Int32)).2 x5 (x6 / (6 : Int32))).2.2 x1 x2 x3 x4 x5 x6 (f_LH_sets10 s x5 (x6 / (6 : Int32)) (x6 - x6 / (6 : Int32) * (6 : Int32)) (0 : Int32) (0 : Int32) (0 : Int32)).1) else (if (f_LH_sets10 s x5 (x6 / (6 : Int32)) (x6 - x6 / (6 : Int32) * (6 : Int32)) (0 : Int32) (0 : Int32) (0 : Int32)).1 = (-1000000 : Int32) then (f_LH_isOrderSo_195 K97 (f_LH_isOrderSo_111 K97 n) (f_CB_isThere (f_LH_sets10 s x5 (x6 / (6 : Int32)) (x6 - x6 / (6 : Int32) * (6 : Int32)) (0 : Int32) (0 : Int32) (0 : Int32)).2 x5 (x6 / (6 : Int32))).2.2 x1 x2 x3 x4 x5 x6 (f_LH_sets10 s x5 (x6 / (6 : Int32)) (x6 - x6 / (6 : Int32) * (6 : Int32)) (0 : Int32) (0 : Int32) (0 : Int32)).1) else (if (f_LH_sets10 s x5 (x6 / (6 : Int32)) (x6 - x6 / (6 : Int32) * (6 : Int32)) (0 : Int32) (0 : Int32) (0 : Int32)).1 < (-999999 : Int32) then (f_LH_isOrderSo_199 K97 (f_LH_isOrderSo_111 K97 n) (f_CB_isThere (f_LH_sets10 s x5 (x6 / (6 : Int32)) (x6 - x6 / (6 : Int32) * (6 : Int32)) (0 : Int32) (0 : Int32) (0 : Int32)).2 x5 (x6 / (6 : Int32))).2.2 x1 x2 x3 x4 x5 x6 (f_LH_sets10 s x5 (x6 / (6 : Int32)) (x6 - x6 / (6 : Int32) * (6 : Int32)) (0 : Int32) (0 : Int32) (0 : Int32)).1) else (if (999999 : Int32) < (f_LH_sets10 s x5 (x6 / (6 : Int32)) (x6 - x6 / (6 : Int32) * (6 : Int32)) (0 : Int32) (0 : Int32) (0 : Int32)).1 then (f_LH_isOrderSo_199 K97 (f_LH_isOrderSo_111 K97 n) (f_CB_isThere (f_LH_sets10 s x5 (x6 / (6 : Int32)) (x6 - x6 / (6 : Int32) * (6 : Int32)) (0 : Int32) (0 : Int32) (0 : Int32)).2 x5 (x6 / (6 : Int32))).2.2 x1 x2 x3 x4 x5 x6 (f_LH_sets10 s x5 (x6 / (6 : Int32)) (x6 - x6 / (6 : Int32) * (6 : Int32)) (0 : Int32) (0 : Int32) (0 : Int32)).1) else (f_LH_isOrderSo_195 K97 (f_LH_isOrderSo_111 K97 n) (f_CB_isThere (f_LH_sets10 s x5 (x6 / (6 : Int32)) (x6 - x6 / (6 : Int32) * (6 : Int32)) (0 : Int32) (0 : Int32) (0 : Int32)).2 x5 (x6 / (6 : Int32))).2.2 x1 x2 x3 x4 x5 x6 (f_LH_sets10 s x5 (x6 / (6 : Int32)) (x6 - x6 / (6 : Int32) * (6 : Int32)) (0 : Int32) (0 : Int32) (0 : Int32)).1))))))))
def p_LH_isOrderSo_111 (KP97 : am_M → Int32 → Int32 → Int32 → Int32 → Int32 → Prop) : Nat → am_M → Int32 → Int32 → Int32 → Int32 → Int32 → Int32 → Prop
  | 0, s, x1, x2, x3, x4, x5, x6 => False
  | n + 1, s, x1, x2, x3, x4, x5, x6 => p_LH_rows s x5 ∧ (((((6 : Int32) * (f_LH_rows s x5)) ≤ x6) → (p_LH_isOrderSo_208 KP97 s x1 x2 x3 x4 x5 x6)) ∧ (¬ (((6 : Int32) * (f_LH_rows s x5)) ≤ x6) → ((x4 = 0) → (p_LH_isOrderSo_208 KP97 s x1 x2 x3 x4 x5 x6)) ∧ (¬ (x4 = 0) → p_LH_sets10 s x5 (x6 / (6 : Int32)) (x6 - x6 / (6 : Int32) * (6 : Int32)) (0 : Int32) (0 : Int32) (0 : Int32) ∧ ((((f_LH_sets10 s x5 (x6 / (6 : Int32)) (x6 - x6 / (6 : Int32) * (6 : Int32)) (0 : Int32) (0 : Int32) (0 : Int32)).1 = (-9999999 : Int32)) → (p_LH_isOrderSo_195 KP97 (p_LH_isOrderSo_111 KP97 n) (f_LH_sets10 s x5 (x6 / (6 : Int32)) (x6 - x6 / (6 : Int32) * (6 : Int32)) (0 : Int32) (0 : Int32) (0 : Int32)).2 x1 x2 x3 x4 x5 x6 (f_LH_sets10 s x5 (x6 / (6 : Int32)) (x6 - x6 / (6 : Int32) * (6 : Int32)) (0 : Int32) (0 : Int32) (0 : Int32)).1)) ∧ (¬ ((f_LH_sets10 s x5 (x6 / (6 : Int32)) (x6 - x6 / (6 : Int32) * (6 : Int32)) (0 : Int32) (0 : Int32) (0 : Int32)).1 = (-9999999 : Int32)) → p_CB_isThere (f_LH_sets10 s x5 (x6 / (6 : Int32)) (x6 - x6 / (6 : Int32) * (6 : Int32)) (0 : Int32) (0 : Int32) (0 : Int32)).2 x5 (x6 / (6 : Int32)) ∧ ((f_CB_isThere (f_LH_sets10 s x5 (x6 / (6 : Int32)) (x6 - x6 / (6 : Int32) * (6 : Int32)) (0 : Int32) (0 : Int32) (0 : Int32)).2 x5 (x6 / (6 : Int32))).1 = 0 ∧ ((((f_CB_isThere (f_LH_sets10 s x5 (x6 / (6 : Int32)) (x6 - x6 / (6 : Int32) * (6 : Int32)) (0 : Int32) (0 : Int32) (0 : Int32)).2 x5 (x6 / (6 : Int32))).2.1 = 0) → (p_LH_isOrderSo_199 KP97 (p_LH_isOrderSo_111 KP97 n) (f_CB_isThere (f_LH_sets10 s x5 (x6 / (6 : Int32)) (x6 - x6 / (6 : Int32) * (6 : Int32)) (0 : Int32) (0 : Int32) (0 : Int32)).2 x5 (x6 / (6 : Int32))).2.2 x1 x2 x3 x4 x5 x6 (f_LH_sets10 s x5 (x6 / (6 : Int32)) (x6 - x6 / (6 : Int32) * (6 : Int32)) (0 : Int32) (0 : Int32) (0 : Int32)).1)) ∧ (¬ ((f_CB_isThere (f_LH_sets10 s x5 (x6 / (6 : Int32)) (x6 - x6 / (6 : Int32) * (6 : Int32)) (0 : Int32) (0 : Int32) (0 : Int32)).2 x5 (x6 / (6 : Int32))).2.1 = 0) → (((f_LH_sets10 s x5 (x6 / (6 : Int32)) (x6 - x6 / (6 : Int32) * (6 : Int32)) (0 : Int32) (0 : Int32) (0 : Int32)).1 = (-1000000 : Int32)) → (p_LH_isOrderSo_195 KP97 (p_LH_isOrderSo_111 KP97 n) (f_CB_isThere (f_LH_sets10 s x5 (x6 / (6 : Int32)) (x6 - x6 / (6 : Int32) * (6 : Int32)) (0 : Int32) (0 : Int32) (0 : Int32)).2 x5 (x6 / (6 : Int32))).2.2 x1 x2 x3 x4 x5 x6 (f_LH_sets10 s x5 (x6 / (6 : Int32)) (x6 - x6 / (6 : Int32) * (6 : Int32)) (0 : Int32) (0 : Int32) (0 : Int32)).1)) ∧ (¬ ((f_LH_sets10 s x5 (x6 / (6 : Int32)) (x6 - x6 / (6 : Int32) * (6 : Int32)) (0 : Int32) (0 : Int32) (0 : Int32)).1 = (-1000000 : Int32)) → (((f_LH_sets10 s x5 (x6 / (6 : Int32)) (x6 - x6 / (6 : Int32) * (6 : Int32)) (0 : Int32) (0 : Int32) (0 : Int32)).1 < (-999999 : Int32)) → (p_LH_isOrderSo_199 KP97 (p_LH_isOrderSo_111 KP97 n) (f_CB_isThere (f_LH_sets10 s x5 (x6 / (6 : Int32)) (x6 - x6 / (6 : Int32) * (6 : Int32)) (0 : Int32) (0 : Int32) (0 : Int32)).2 x5 (x6 / (6 : Int32))).2.2 x1 x2 x3 x4 x5 x6 (f_LH_sets10 s x5 (x6 / (6 : Int32)) (x6 - x6 / (6 : Int32) * (6 : Int32)) (0 : Int32) (0 : Int32) (0 : Int32)).1)) ∧ (¬ ((f_LH_sets10 s x5 (x6 / (6 : Int32)) (x6 - x6 / (6 : Int32) * (6 : Int32)) (0 : Int32) (0 : Int32) (0 : Int32)).1 < (-999999 : Int32)) → (((999999 : Int32) < (f_LH_sets10 s x5 (x6 / (6 : Int32)) (x6 - x6 / (6 : Int32) * (6 : Int32)) (0 : Int32) (0 : Int32) (0 : Int32)).1) → (p_LH_isOrderSo_199 KP97 (p_LH_isOrderSo_111 KP97 n) (f_CB_isThere (f_LH_sets10 s x5 (x6 / (6 : Int32)) (x6 - x6 / (6 : Int32) * (6 : Int32)) (0 : Int32) (0 : Int32) (0 : Int32)).2 x5 (x6 / (6 : Int32))).2.2 x1 x2 x3 x4 x5 x6 (f_LH_sets10 s x5 (x6 / (6 : Int32)) (x6 - x6 / (6 : Int32) * (6 : Int32)) (0 : Int32) (0 : Int32) (0 : Int32)).1)) ∧ (¬ ((999999 : Int32) < (f_LH_sets10 s x5 (x6 / (6 : Int32)) (x6 - x6 / (6 : Int32) * (6 : Int32)) (0 : Int32) (0 : Int32) (0 : Int32)).1) → (p_LH_isOrderSo_195 KP97 (p_LH_isOrderSo_111 KP97 n) (f_CB_isThere (f_LH_sets10 s x5 (x6 / (6 : Int32)) (x6 - x6 / (6 : Int32) * (6 : Int32)) (0 : Int32) (0 : Int32) (0 : Int32)).2 x5 (x6 / (6 : Int32))).2.2 x1 x2 x3 x4 x5 x6 (f_LH_sets10 s x5 (x6 / (6 : Int32)) (x6 - x6 / (6 : Int32) * (6 : Int32)) (0 : Int32) (0 : Int32) (0 : Int32)).1))))))))))))
set_option maxRecDepth 8000 in
theorem w_LH_isOrderSo_111 {l : Launch} {g : am_Gl} (hg : g.2.2.2.1 = true) {ad0 : Nat → Nat} {K97 : am_M → Int32 → Int32 → Int32 → Int32 → Int32 → Int32 × am_M} {KP97 : am_M → Int32 → Int32 → Int32 → Int32 → Int32 → Prop} {β97 : Nat} (hβ97 : β97 ≤ 3724) (hK97 : ∀ (s : am_M) (x1 : Int32) (x2 : Int32) (x3 : Int32) (x4 : Int32) (x5 : Int32) (k z : Nat), k ≤ β97 → z ≤ 6 * β97 → KP97 s x1 x2 x3 x4 x5 → AW l g m_LH_isOrderSo 207 ad0 (am_oC (K97 s x1 x2 x3 x4 x5)) k z 207 s 97 [(0, .ref 0), (1, .int x1), (2, .int x2), (3, .int x3), (4, .int x4), (5, .int x5)] []) : ∀ (n : Nat) (s : am_M) (x1 : Int32) (x2 : Int32) (x3 : Int32) (x4 : Int32) (x5 : Int32) (x6 : Int32) (k z : Nat), k + 4 * n + 0 ≤ β97 → z + 24 * n + 0 ≤ 6 * β97 → p_LH_isOrderSo_111 KP97 n s x1 x2 x3 x4 x5 x6 → AW l g m_LH_isOrderSo 207 ad0 (am_oC (f_LH_isOrderSo_111 K97 n s x1 x2 x3 x4 x5 x6)) k z 207 s 111 [(0, .ref 0), (1, .int x1), (2, .int x2), (3, .int x3), (4, .int x4), (5, .int x5), (6, .int x6)] [] := by
  intro n
  induction n with
  | zero => intro s x1 x2 x3 x4 x5 x6 k z _ _ h; exact h.elim
  | succ n ih =>
    intro s x1 x2 x3 x4 x5 x6 k z hk hz h
    obtain ⟨β111, hb111⟩ : ∃ b, b + 4 * n + 0 = β97 := ⟨β97 - (4 * n + 0), by omega⟩
    have hβ111 : β111 + 0 ≤ β97 := by omega
    have hK111 : ∀ (s : am_M) (x1 : Int32) (x2 : Int32) (x3 : Int32) (x4 : Int32) (x5 : Int32) (x6 : Int32) (k z : Nat), k ≤ β111 → z ≤ 6 * β111 → (p_LH_isOrderSo_111 KP97 n) s x1 x2 x3 x4 x5 x6 → AW l g m_LH_isOrderSo 207 ad0 (am_oC ((f_LH_isOrderSo_111 K97 n) s x1 x2 x3 x4 x5 x6)) k z 207 s 111 [(0, .ref 0), (1, .int x1), (2, .int x2), (3, .int x3), (4, .int x4), (5, .int x5), (6, .int x6)] [] := fun s x1 x2 x3 x4 x5 x6 k z h1 h2 h3 => ih s x1 x2 x3 x4 x5 x6 k z (by omega) (by omega) h3
    refine am_iload (j := 6) d_LH_isOrderSo_111 rfl ?_
    refine am_bipush (v := (6 : Int32)) d_LH_isOrderSo_113 (by decide) ?_
    refine am_aload_n (j := 0) d_LH_isOrderSo_115 rfl rfl ?_
    refine am_iload (j := 5) d_LH_isOrderSo_116 rfl ?_
    obtain ⟨hc, h⟩ := h
    refine ak9_SX (as := [.ref 0, .int x5]) (rest := [.int (6 : Int32), .int x6]) d_LH_isOrderSo_118 cw_LH_isOrderSo_118 rfl (am_1I (ct_LH_rows hg hc)) rfl rfl (Nat.le_of_ble_eq_true rfl) (by show k + 1 ≤ 3724; omega) (by show z + 6 ≤ 22344; omega) ?_
    refine am_imul d_LH_isOrderSo_121 ?_
    refine aj_ge (F := am_oC) (tgt := 208) d_LH_isOrderSo_122 (by decide) (fun c => ?_) (fun c => ?_)
    · have h := h.1 c
      exact w_LH_isOrderSo_208 hg hβ97 hK97 (by show k + 1 + 0 ≤ β97; omega) (by show z + 6 + 0 ≤ 6 * β97; omega) h
    · have h := h.2 c
      refine am_iload (j := 4) d_LH_isOrderSo_125 rfl ?_
      refine ai_eq (F := am_oC) (tgt := 208) d_LH_isOrderSo_127 (by decide) (fun c => ?_) (fun c => ?_)
      · have h := h.1 c
        exact w_LH_isOrderSo_208 hg hβ97 hK97 (by show k + 1 + 0 ≤ β97; omega) (by show z + 6 + 0 ≤ 6 * β97; omega) h
      · have h := h.2 c
        refine am_aload_n (j := 0) d_LH_isOrderSo_130 rfl rfl ?_
        refine am_bipush (v := (10 : Int32)) d_LH_isOrderSo_131 (by decide) ?_
        refine am_iload (j := 5) d_LH_isOrderSo_133 rfl ?_
        refine am_iload (j := 6) d_LH_isOrderSo_135 rfl ?_
        refine am_bipush (v := (6 : Int32)) d_LH_isOrderSo_137 (by decide) ?_
        refine am_idiv d_LH_isOrderSo_139 (by decide) ?_
        refine am_iload (j := 6) d_LH_isOrderSo_140 rfl ?_
        refine am_bipush (v := (6 : Int32)) d_LH_isOrderSo_142 (by decide) ?_
        refine am_irem d_LH_isOrderSo_144 (by decide) ?_
        refine am_iconst (v := (0 : Int32)) d_LH_isOrderSo_145 (by decide) ?_
        refine am_iconst (v := (0 : Int32)) d_LH_isOrderSo_146 (by decide) ?_
        refine am_iconst (v := (0 : Int32)) d_LH_isOrderSo_147 (by decide) ?_
        obtain ⟨hc, h⟩ := h
        refine ak9_SX (as := [.ref 0, .int (10 : Int32), .int x5, .int (x6 / (6 : Int32)), .int (x6 - x6 / (6 : Int32) * (6 : Int32)), .int (0 : Int32), .int (0 : Int32), .int (0 : Int32)]) (rest := []) d_LH_isOrderSo_148 cw_LH_isOrderSo_148 rfl (am_1C (ct_LH_sets10 hg hc)) rfl rfl (Nat.le_of_ble_eq_true rfl) (by show k + 1 + 2 ≤ 3724; omega) (by show z + 6 + 12 ≤ 22344; omega) ?_
        refine am_istore (lv2 := [(7, .int (f_LH_sets10 s x5 (x6 / (6 : Int32)) (x6 - x6 / (6 : Int32) * (6 : Int32)) (0 : Int32) (0 : Int32) (0 : Int32)).1), (0, .ref 0), (1, .int x1), (2, .int x2), (3, .int x3), (4, .int x4), (5, .int x5), (6, .int x6)]) d_LH_isOrderSo_151 (by decide) rfl ?_
        refine am_iload (j := 0) d_LH_isOrderSo_153 rfl ?_
        refine am_ldc (v := (-9999999 : Int32)) d_LH_isOrderSo_155 aw_3_220 ?_
        refine aj_eq (F := am_oC) (tgt := 195) d_LH_isOrderSo_157 (by decide) (fun c => ?_) (fun c => ?_)
        · have h := h.1 c
          refine am_sub [1, 2, 3, 4, 5, 6, 7, 0] (lv2 := [(0, .ref 0), (1, .int x1), (2, .int x2), (3, .int x3), (4, .int x4), (5, .int x5), (6, .int x6), (7, .int (f_LH_sets10 s x5 (x6 / (6 : Int32)) (x6 - x6 / (6 : Int32) * (6 : Int32)) (0 : Int32) (0 : Int32) (0 : Int32)).1)]) rfl ?_
          exact w_LH_isOrderSo_195 hg hβ97 hK97 hβ111 hK111 (by show k + 1 + 2 + 0 ≤ β111; omega) (by show z + 6 + 12 + 0 ≤ 6 * β111; omega) h
        · have h := h.2 c
          refine am_aload_n (j := 1) d_LH_isOrderSo_160 rfl rfl ?_
          refine am_iload (j := 6) d_LH_isOrderSo_161 rfl ?_
          refine am_iload (j := 7) d_LH_isOrderSo_163 rfl ?_
          refine am_bipush (v := (6 : Int32)) d_LH_isOrderSo_165 (by decide) ?_
          refine am_idiv d_LH_isOrderSo_167 (by decide) ?_
          obtain ⟨hc, h⟩ := h
          obtain ⟨h0, h⟩ := h
          refine ak9_VX (as := [.int x5, .int (x6 / (6 : Int32))]) (rest := []) d_LH_isOrderSo_168 cw_LH_isOrderSo_168 rfl (am_1E h0 (ct_CB_isThere hg hc)) rfl rfl rc_0 (Nat.le_of_ble_eq_true rfl) (by show k + 1 + 2 + 1 ≤ 3724; omega) (by show z + 6 + 12 + 6 ≤ 22344; omega) ?_
          refine ai_eq (F := am_oC) (tgt := 199) d_LH_isOrderSo_171 (by decide) (fun c => ?_) (fun c => ?_)
          · have h := h.1 c
            refine am_sub [1, 2, 3, 4, 5, 6, 7, 0] (lv2 := [(0, .ref 0), (1, .int x1), (2, .int x2), (3, .int x3), (4, .int x4), (5, .int x5), (6, .int x6), (7, .int (f_LH_sets10 s x5 (x6 / (6 : Int32)) (x6 - x6 / (6 : Int32) * (6 : Int32)) (0 : Int32) (0 : Int32) (0 : Int32)).1)]) rfl ?_
            exact w_LH_isOrderSo_199 hg hβ97 hK97 hβ111 hK111 (by show k + 1 + 2 + 1 + 0 ≤ β111; omega) (by show z + 6 + 12 + 6 + 0 ≤ 6 * β111; omega) h
          · have h := h.2 c
            refine am_iload (j := 0) d_LH_isOrderSo_174 rfl ?_
            refine am_ldc (v := (-1000000 : Int32)) d_LH_isOrderSo_176 aw_4_168 ?_
            refine aj_eq (F := am_oC) (tgt := 195) d_LH_isOrderSo_178 (by decide) (fun c => ?_) (fun c => ?_)
            · have h := h.1 c
              refine am_sub [1, 2, 3, 4, 5, 6, 7, 0] (lv2 := [(0, .ref 0), (1, .int x1), (2, .int x2), (3, .int x3), (4, .int x4), (5, .int x5), (6, .int x6), (7, .int (f_LH_sets10 s x5 (x6 / (6 : Int32)) (x6 - x6 / (6 : Int32) * (6 : Int32)) (0 : Int32) (0 : Int32) (0 : Int32)).1)]) rfl ?_
              exact w_LH_isOrderSo_195 hg hβ97 hK97 hβ111 hK111 (by show k + 1 + 2 + 1 + 0 ≤ β111; omega) (by show z + 6 + 12 + 6 + 0 ≤ 6 * β111; omega) h
            · have h := h.2 c
              refine am_iload (j := 0) d_LH_isOrderSo_181 rfl ?_
              refine am_ldc (v := (-999999 : Int32)) d_LH_isOrderSo_183 aw_5_125 ?_
              refine aj_lt (F := am_oC) (tgt := 199) d_LH_isOrderSo_185 (by decide) (fun c => ?_) (fun c => ?_)
              · have h := h.1 c
                refine am_sub [1, 2, 3, 4, 5, 6, 7, 0] (lv2 := [(0, .ref 0), (1, .int x1), (2, .int x2), (3, .int x3), (4, .int x4), (5, .int x5), (6, .int x6), (7, .int (f_LH_sets10 s x5 (x6 / (6 : Int32)) (x6 - x6 / (6 : Int32) * (6 : Int32)) (0 : Int32) (0 : Int32) (0 : Int32)).1)]) rfl ?_
                exact w_LH_isOrderSo_199 hg hβ97 hK97 hβ111 hK111 (by show k + 1 + 2 + 1 + 0 ≤ β111; omega) (by show z + 6 + 12 + 6 + 0 ≤ 6 * β111; omega) h
              · have h := h.2 c
                refine am_iload (j := 0) d_LH_isOrderSo_188 rfl ?_
                refine am_ldc (v := (999999 : Int32)) d_LH_isOrderSo_190 aw_5_126 ?_
                refine aj_gt (F := am_oC) (tgt := 199) d_LH_isOrderSo_192 (by decide) (fun c => ?_) (fun c => ?_)
                · have h := h.1 c
                  refine am_sub [1, 2, 3, 4, 5, 6, 7, 0] (lv2 := [(0, .ref 0), (1, .int x1), (2, .int x2), (3, .int x3), (4, .int x4), (5, .int x5), (6, .int x6), (7, .int (f_LH_sets10 s x5 (x6 / (6 : Int32)) (x6 - x6 / (6 : Int32) * (6 : Int32)) (0 : Int32) (0 : Int32) (0 : Int32)).1)]) rfl ?_
                  exact w_LH_isOrderSo_199 hg hβ97 hK97 hβ111 hK111 (by show k + 1 + 2 + 1 + 0 ≤ β111; omega) (by show z + 6 + 12 + 6 + 0 ≤ 6 * β111; omega) h
                · have h := h.2 c
                  refine am_sub [1, 2, 3, 4, 5, 6, 7, 0] (lv2 := [(0, .ref 0), (1, .int x1), (2, .int x2), (3, .int x3), (4, .int x4), (5, .int x5), (6, .int x6), (7, .int (f_LH_sets10 s x5 (x6 / (6 : Int32)) (x6 - x6 / (6 : Int32) * (6 : Int32)) (0 : Int32) (0 : Int32) (0 : Int32)).1)]) rfl ?_
                  exact w_LH_isOrderSo_195 hg hβ97 hK97 hβ111 hK111 (by show k + 1 + 2 + 1 + 0 ≤ β111; omega) (by show z + 6 + 12 + 6 + 0 ≤ 6 * β111; omega) h
def f_LH_isOrderSo_97  : Nat → am_M → Int32 → Int32 → Int32 → Int32 → Int32 → Int32 × am_M
  | 0, s, x1, x2, x3, x4, x5 => (0, s)
  | n + 1, s, x1, x2, x3, x4, x5 => (if (4 : Int32) ≤ x5 then (if x4 = 0 then ((0 : Int32), s) else (if (24 : Int32) < x2 then ((0 : Int32), s) else ((1 : Int32), s))) else (if x4 = 0 then (if x4 = 0 then ((0 : Int32), s) else (if (24 : Int32) < x2 then ((0 : Int32), s) else ((1 : Int32), s))) else (f_LH_isOrderSo_111 (f_LH_isOrderSo_97  n) 181 s x1 x2 x3 x4 x5 (0 : Int32))))
def p_LH_isOrderSo_97  : Nat → am_M → Int32 → Int32 → Int32 → Int32 → Int32 → Prop
  | 0, s, x1, x2, x3, x4, x5 => False
  | n + 1, s, x1, x2, x3, x4, x5 => (((4 : Int32) ≤ x5) → ((x4 = 0) → True) ∧ (¬ (x4 = 0) → (((24 : Int32) < x2) → True) ∧ (¬ ((24 : Int32) < x2) → True))) ∧ (¬ ((4 : Int32) ≤ x5) → ((x4 = 0) → ((x4 = 0) → True) ∧ (¬ (x4 = 0) → (((24 : Int32) < x2) → True) ∧ (¬ ((24 : Int32) < x2) → True))) ∧ (¬ (x4 = 0) → (p_LH_isOrderSo_111 (p_LH_isOrderSo_97  n) 181 s x1 x2 x3 x4 x5 (0 : Int32))))
set_option maxRecDepth 8000 in
theorem w_LH_isOrderSo_97 {l : Launch} {g : am_Gl} (hg : g.2.2.2.1 = true) {ad0 : Nat → Nat}  : ∀ (n : Nat) (s : am_M) (x1 : Int32) (x2 : Int32) (x3 : Int32) (x4 : Int32) (x5 : Int32) (k z : Nat), k + 724 * n ≤ 3724 → z + 4344 * n ≤ 6 * 3724 → p_LH_isOrderSo_97  n s x1 x2 x3 x4 x5 → AW l g m_LH_isOrderSo 207 ad0 (am_oC (f_LH_isOrderSo_97  n s x1 x2 x3 x4 x5)) k z 207 s 97 [(0, .ref 0), (1, .int x1), (2, .int x2), (3, .int x3), (4, .int x4), (5, .int x5)] [] := by
  intro n
  induction n with
  | zero => intro s x1 x2 x3 x4 x5 k z _ _ h; exact h.elim
  | succ n ih =>
    intro s x1 x2 x3 x4 x5 k z hk hz h
    obtain ⟨β97, hb97⟩ : ∃ b, b + 724 * n + 0 = 3724 := ⟨3724 - (724 * n + 0), by omega⟩
    have hβ97 : β97 ≤ 3724 := by omega
    have hK97 : ∀ (s : am_M) (x1 : Int32) (x2 : Int32) (x3 : Int32) (x4 : Int32) (x5 : Int32) (k z : Nat), k ≤ β97 → z ≤ 6 * β97 → (p_LH_isOrderSo_97  n) s x1 x2 x3 x4 x5 → AW l g m_LH_isOrderSo 207 ad0 (am_oC ((f_LH_isOrderSo_97  n) s x1 x2 x3 x4 x5)) k z 207 s 97 [(0, .ref 0), (1, .int x1), (2, .int x2), (3, .int x3), (4, .int x4), (5, .int x5)] [] := fun s x1 x2 x3 x4 x5 k z h1 h2 h3 => ih s x1 x2 x3 x4 x5 k z (by omega) (by omega) h3
    refine am_iload (j := 5) d_LH_isOrderSo_97 rfl ?_
    refine am_iconst (v := (4 : Int32)) d_LH_isOrderSo_99 (by decide) ?_
    refine aj_ge (F := am_oC) (tgt := 214) d_LH_isOrderSo_100 (by decide) (fun c => ?_) (fun c => ?_)
    · have h := h.1 c
      refine am_iload (j := 4) d_LH_isOrderSo_214 rfl ?_
      refine ai_eq (F := am_oC) (tgt := 229) d_LH_isOrderSo_216 (by decide) (fun c => ?_) (fun c => ?_)
      · have h := h.1 c
        refine am_iconst (v := (0 : Int32)) d_LH_isOrderSo_229 (by decide) ?_
        exact am_iret d_LH_isOrderSo_230 rfl (am_bool (Or.inl rfl)).1 (by show k ≤ 3724; omega) (by show z ≤ 22344; omega) am_oC_ok
      · have h := h.2 c
        refine am_iload_n (j := 2) d_LH_isOrderSo_219 rfl rfl ?_
        refine am_bipush (v := (24 : Int32)) d_LH_isOrderSo_220 (by decide) ?_
        refine aj_gt (F := am_oC) (tgt := 229) d_LH_isOrderSo_222 (by decide) (fun c => ?_) (fun c => ?_)
        · have h := h.1 c
          refine am_iconst (v := (0 : Int32)) d_LH_isOrderSo_229 (by decide) ?_
          exact am_iret d_LH_isOrderSo_230 rfl (am_bool (Or.inl rfl)).1 (by show k ≤ 3724; omega) (by show z ≤ 22344; omega) am_oC_ok
        · have h := h.2 c
          refine am_iconst (v := (1 : Int32)) d_LH_isOrderSo_225 (by decide) ?_
          refine am_goto (tgt := 230) d_LH_isOrderSo_226 (by decide) ?_
          exact am_iret d_LH_isOrderSo_230 rfl (am_bool (Or.inr rfl)).1 (by show k ≤ 3724; omega) (by show z ≤ 22344; omega) am_oC_ok
    · have h := h.2 c
      refine am_iload (j := 4) d_LH_isOrderSo_103 rfl ?_
      refine ai_eq (F := am_oC) (tgt := 214) d_LH_isOrderSo_105 (by decide) (fun c => ?_) (fun c => ?_)
      · have h := h.1 c
        refine am_iload (j := 4) d_LH_isOrderSo_214 rfl ?_
        refine ai_eq (F := am_oC) (tgt := 229) d_LH_isOrderSo_216 (by decide) (fun c => ?_) (fun c => ?_)
        · have h := h.1 c
          refine am_iconst (v := (0 : Int32)) d_LH_isOrderSo_229 (by decide) ?_
          exact am_iret d_LH_isOrderSo_230 rfl (am_bool (Or.inl rfl)).1 (by show k ≤ 3724; omega) (by show z ≤ 22344; omega) am_oC_ok
        · have h := h.2 c
          refine am_iload_n (j := 2) d_LH_isOrderSo_219 rfl rfl ?_
          refine am_bipush (v := (24 : Int32)) d_LH_isOrderSo_220 (by decide) ?_
          refine aj_gt (F := am_oC) (tgt := 229) d_LH_isOrderSo_222 (by decide) (fun c => ?_) (fun c => ?_)
          · have h := h.1 c
            refine am_iconst (v := (0 : Int32)) d_LH_isOrderSo_229 (by decide) ?_
            exact am_iret d_LH_isOrderSo_230 rfl (am_bool (Or.inl rfl)).1 (by show k ≤ 3724; omega) (by show z ≤ 22344; omega) am_oC_ok
          · have h := h.2 c
            refine am_iconst (v := (1 : Int32)) d_LH_isOrderSo_225 (by decide) ?_
            refine am_goto (tgt := 230) d_LH_isOrderSo_226 (by decide) ?_
            exact am_iret d_LH_isOrderSo_230 rfl (am_bool (Or.inr rfl)).1 (by show k ≤ 3724; omega) (by show z ≤ 22344; omega) am_oC_ok
      · have h := h.2 c
        refine am_iconst (v := (0 : Int32)) d_LH_isOrderSo_108 (by decide) ?_
        refine am_istore (lv2 := [(6, .int (0 : Int32)), (0, .ref 0), (1, .int x1), (2, .int x2), (3, .int x3), (4, .int x4), (5, .int x5)]) d_LH_isOrderSo_109 (by decide) rfl ?_
        refine am_sub [1, 2, 3, 4, 5, 6, 0] (lv2 := [(0, .ref 0), (1, .int x1), (2, .int x2), (3, .int x3), (4, .int x4), (5, .int x5), (6, .int (0 : Int32))]) rfl ?_
        exact w_LH_isOrderSo_111 hg hβ97 hK97 181 _ _ _ _ _ _ _ _ _ (by show k + 4 * 181 + 0 ≤ β97; omega) (by show z + 24 * 181 + 0 ≤ 6 * β97; omega) h
def f_LH_isOrderSo_94  (s : am_M) (x1 : Int32) (x2 : Int32) (x3 : Int32) (x4 : Int32) : Int32 × am_M := (f_LH_isOrderSo_97 5 s x1 x2 x3 x4 (0 : Int32))
def p_LH_isOrderSo_94  (s : am_M) (x1 : Int32) (x2 : Int32) (x3 : Int32) (x4 : Int32) : Prop := (p_LH_isOrderSo_97 5 s x1 x2 x3 x4 (0 : Int32))
set_option maxRecDepth 8000 in
theorem w_LH_isOrderSo_94 {l : Launch} {g : am_Gl} (hg : g.2.2.2.1 = true) {ad0 : Nat → Nat}  {s : am_M} {x1 : Int32} {x2 : Int32} {x3 : Int32} {x4 : Int32} {k z : Nat} (hk : k ≤ 104) (hz : z ≤ 624) (h : p_LH_isOrderSo_94  s x1 x2 x3 x4) : AW l g m_LH_isOrderSo 207 ad0 (am_oC (f_LH_isOrderSo_94  s x1 x2 x3 x4)) k z 207 s 94 [(0, .ref 0), (1, .int x1), (2, .int x2), (3, .int x3), (4, .int x4)] [] := by
  refine am_iconst (v := (0 : Int32)) d_LH_isOrderSo_94 (by decide) ?_
  refine am_istore (lv2 := [(5, .int (0 : Int32)), (0, .ref 0), (1, .int x1), (2, .int x2), (3, .int x3), (4, .int x4)]) d_LH_isOrderSo_95 (by decide) rfl ?_
  refine am_sub [1, 2, 3, 4, 5, 0] (lv2 := [(0, .ref 0), (1, .int x1), (2, .int x2), (3, .int x3), (4, .int x4), (5, .int (0 : Int32))]) rfl ?_
  exact w_LH_isOrderSo_97 hg  5 _ _ _ _ _ _ _ _ (by show k + 724 * 5 ≤ 3724; omega) (by show z + 4344 * 5 ≤ 6 * 3724; omega) h
def f_LH_isOrderSo_16  : Nat → am_M → Int32 → Int32 → Int32 → Int32 → Int32 × am_M
  | 0, s, x1, x2, x3, x4 => (0, s)
  | n + 1, s, x1, x2, x3, x4 => (if x3 < 0 then (f_LH_isOrderSo_94 s x1 x2 x3 x4) else (if x4 = 0 then (f_LH_isOrderSo_94 s x1 x2 x3 x4) else (if (6 : Int32) ≤ (x3 - x3 / (10 : Int32) * (10 : Int32)) then (f_LH_isOrderSo_69 (f_LH_isOrderSo_16  n) s x1 x2 x3 x4 (((6 : Int32) * (x3 / (10 : Int32))) + (x3 - x3 / (10 : Int32) * (10 : Int32)))) else (if (4 : Int32) ≤ (x3 / (10 : Int32)) then (f_LH_isOrderSo_69 (f_LH_isOrderSo_16  n) s x1 x2 x3 x4 (((6 : Int32) * (x3 / (10 : Int32))) + (x3 - x3 / (10 : Int32) * (10 : Int32)))) else (if ((x1 >>> ((((6 : Int32) * (x3 / (10 : Int32))) + (x3 - x3 / (10 : Int32) * (10 : Int32))) &&& 31)) &&& (1 : Int32)) = 0 then (f_LH_isOrderSo_70 (f_LH_isOrderSo_16  n) s x1 x2 x3 x4 (((6 : Int32) * (x3 / (10 : Int32))) + (x3 - x3 / (10 : Int32) * (10 : Int32))) (1 : Int32)) else (f_LH_isOrderSo_69 (f_LH_isOrderSo_16  n) s x1 x2 x3 x4 (((6 : Int32) * (x3 / (10 : Int32))) + (x3 - x3 / (10 : Int32) * (10 : Int32)))))))))
def p_LH_isOrderSo_16  : Nat → am_M → Int32 → Int32 → Int32 → Int32 → Prop
  | 0, s, x1, x2, x3, x4 => False
  | n + 1, s, x1, x2, x3, x4 => ((x3 < 0) → (p_LH_isOrderSo_94 s x1 x2 x3 x4)) ∧ (¬ (x3 < 0) → ((x4 = 0) → (p_LH_isOrderSo_94 s x1 x2 x3 x4)) ∧ (¬ (x4 = 0) → (((6 : Int32) ≤ (x3 - x3 / (10 : Int32) * (10 : Int32))) → (p_LH_isOrderSo_69 (p_LH_isOrderSo_16  n) s x1 x2 x3 x4 (((6 : Int32) * (x3 / (10 : Int32))) + (x3 - x3 / (10 : Int32) * (10 : Int32))))) ∧ (¬ ((6 : Int32) ≤ (x3 - x3 / (10 : Int32) * (10 : Int32))) → (((4 : Int32) ≤ (x3 / (10 : Int32))) → (p_LH_isOrderSo_69 (p_LH_isOrderSo_16  n) s x1 x2 x3 x4 (((6 : Int32) * (x3 / (10 : Int32))) + (x3 - x3 / (10 : Int32) * (10 : Int32))))) ∧ (¬ ((4 : Int32) ≤ (x3 / (10 : Int32))) → ((((x1 >>> ((((6 : Int32) * (x3 / (10 : Int32))) + (x3 - x3 / (10 : Int32) * (10 : Int32))) &&& 31)) &&& (1 : Int32)) = 0) → (p_LH_isOrderSo_70 (p_LH_isOrderSo_16  n) s x1 x2 x3 x4 (((6 : Int32) * (x3 / (10 : Int32))) + (x3 - x3 / (10 : Int32) * (10 : Int32))) (1 : Int32))) ∧ (¬ (((x1 >>> ((((6 : Int32) * (x3 / (10 : Int32))) + (x3 - x3 / (10 : Int32) * (10 : Int32))) &&& 31)) &&& (1 : Int32)) = 0) → (p_LH_isOrderSo_69 (p_LH_isOrderSo_16  n) s x1 x2 x3 x4 (((6 : Int32) * (x3 / (10 : Int32))) + (x3 - x3 / (10 : Int32) * (10 : Int32)))))))))
set_option maxRecDepth 8000 in
theorem w_LH_isOrderSo_16 {l : Launch} {g : am_Gl} (hg : g.2.2.2.1 = true) {ad0 : Nat → Nat}  : ∀ (n : Nat) (s : am_M) (x1 : Int32) (x2 : Int32) (x3 : Int32) (x4 : Int32) (k z : Nat), k + 4 * n ≤ 104 → z + 24 * n ≤ 6 * 104 → p_LH_isOrderSo_16  n s x1 x2 x3 x4 → AW l g m_LH_isOrderSo 207 ad0 (am_oC (f_LH_isOrderSo_16  n s x1 x2 x3 x4)) k z 207 s 16 [(0, .ref 0), (1, .int x1), (2, .int x2), (3, .int x3), (4, .int x4)] [] := by
  intro n
  induction n with
  | zero => intro s x1 x2 x3 x4 k z _ _ h; exact h.elim
  | succ n ih =>
    intro s x1 x2 x3 x4 k z hk hz h
    obtain ⟨β16, hb16⟩ : ∃ b, b + 4 * n + 0 = 104 := ⟨104 - (4 * n + 0), by omega⟩
    have hβ16 : β16 ≤ 104 := by omega
    have hK16 : ∀ (s : am_M) (x1 : Int32) (x2 : Int32) (x3 : Int32) (x4 : Int32) (k z : Nat), k ≤ β16 → z ≤ 6 * β16 → (p_LH_isOrderSo_16  n) s x1 x2 x3 x4 → AW l g m_LH_isOrderSo 207 ad0 (am_oC ((f_LH_isOrderSo_16  n) s x1 x2 x3 x4)) k z 207 s 16 [(0, .ref 0), (1, .int x1), (2, .int x2), (3, .int x3), (4, .int x4)] [] := fun s x1 x2 x3 x4 k z h1 h2 h3 => ih s x1 x2 x3 x4 k z (by omega) (by omega) h3
    refine am_iload_n (j := 3) d_LH_isOrderSo_16 rfl rfl ?_
    refine ai_lt (F := am_oC) (tgt := 94) d_LH_isOrderSo_17 (by decide) (fun c => ?_) (fun c => ?_)
    · have h := h.1 c
      exact w_LH_isOrderSo_94 hg  (by show k ≤ 104; omega) (by show z ≤ 624; omega) h
    · have h := h.2 c
      refine am_iload (j := 4) d_LH_isOrderSo_20 rfl ?_
      refine ai_eq (F := am_oC) (tgt := 94) d_LH_isOrderSo_22 (by decide) (fun c => ?_) (fun c => ?_)
      · have h := h.1 c
        exact w_LH_isOrderSo_94 hg  (by show k ≤ 104; omega) (by show z ≤ 624; omega) h
      · have h := h.2 c
        refine am_bipush (v := (6 : Int32)) d_LH_isOrderSo_25 (by decide) ?_
        refine am_iload_n (j := 3) d_LH_isOrderSo_27 rfl rfl ?_
        refine am_bipush (v := (10 : Int32)) d_LH_isOrderSo_28 (by decide) ?_
        refine am_idiv d_LH_isOrderSo_30 (by decide) ?_
        refine am_imul d_LH_isOrderSo_31 ?_
        refine am_iload_n (j := 3) d_LH_isOrderSo_32 rfl rfl ?_
        refine am_bipush (v := (10 : Int32)) d_LH_isOrderSo_33 (by decide) ?_
        refine am_irem d_LH_isOrderSo_35 (by decide) ?_
        refine am_iadd d_LH_isOrderSo_36 ?_
        refine am_istore (lv2 := [(5, .int (((6 : Int32) * (x3 / (10 : Int32))) + (x3 - x3 / (10 : Int32) * (10 : Int32)))), (0, .ref 0), (1, .int x1), (2, .int x2), (3, .int x3), (4, .int x4)]) d_LH_isOrderSo_37 (by decide) rfl ?_
        refine am_iload_n (j := 4) d_LH_isOrderSo_39 rfl rfl ?_
        refine am_bipush (v := (10 : Int32)) d_LH_isOrderSo_40 (by decide) ?_
        refine am_irem d_LH_isOrderSo_42 (by decide) ?_
        refine am_bipush (v := (6 : Int32)) d_LH_isOrderSo_43 (by decide) ?_
        refine aj_ge (F := am_oC) (tgt := 69) d_LH_isOrderSo_45 (by decide) (fun c => ?_) (fun c => ?_)
        · have h := h.1 c
          refine am_sub [1, 2, 3, 4, 5, 0] (lv2 := [(0, .ref 0), (1, .int x1), (2, .int x2), (3, .int x3), (4, .int x4), (5, .int (((6 : Int32) * (x3 / (10 : Int32))) + (x3 - x3 / (10 : Int32) * (10 : Int32))))]) rfl ?_
          exact w_LH_isOrderSo_69 hg hβ16 hK16 (by show k + 4 ≤ β16; omega) (by show z + 24 ≤ 6 * β16; omega) h
        · have h := h.2 c
          refine am_iload_n (j := 4) d_LH_isOrderSo_48 rfl rfl ?_
          refine am_bipush (v := (10 : Int32)) d_LH_isOrderSo_49 (by decide) ?_
          refine am_idiv d_LH_isOrderSo_51 (by decide) ?_
          refine am_iconst (v := (4 : Int32)) d_LH_isOrderSo_52 (by decide) ?_
          refine aj_ge (F := am_oC) (tgt := 69) d_LH_isOrderSo_53 (by decide) (fun c => ?_) (fun c => ?_)
          · have h := h.1 c
            refine am_sub [1, 2, 3, 4, 5, 0] (lv2 := [(0, .ref 0), (1, .int x1), (2, .int x2), (3, .int x3), (4, .int x4), (5, .int (((6 : Int32) * (x3 / (10 : Int32))) + (x3 - x3 / (10 : Int32) * (10 : Int32))))]) rfl ?_
            exact w_LH_isOrderSo_69 hg hβ16 hK16 (by show k + 4 ≤ β16; omega) (by show z + 24 ≤ 6 * β16; omega) h
          · have h := h.2 c
            refine am_iload_n (j := 2) d_LH_isOrderSo_56 rfl rfl ?_
            refine am_iload (j := 0) d_LH_isOrderSo_57 rfl ?_
            refine am_ishr d_LH_isOrderSo_59 ?_
            refine am_iconst (v := (1 : Int32)) d_LH_isOrderSo_60 (by decide) ?_
            refine am_iand d_LH_isOrderSo_61 ?_
            refine ai_ne (F := am_oC) (tgt := 69) d_LH_isOrderSo_62 (by decide) (fun c => ?_) (fun c => ?_)
            · have h := h.2 c
              refine am_sub [1, 2, 3, 4, 5, 0] (lv2 := [(0, .ref 0), (1, .int x1), (2, .int x2), (3, .int x3), (4, .int x4), (5, .int (((6 : Int32) * (x3 / (10 : Int32))) + (x3 - x3 / (10 : Int32) * (10 : Int32))))]) rfl ?_
              exact w_LH_isOrderSo_69 hg hβ16 hK16 (by show k + 4 ≤ β16; omega) (by show z + 24 ≤ 6 * β16; omega) h
            · have h := h.1 c
              refine am_iconst (v := (1 : Int32)) d_LH_isOrderSo_65 (by decide) ?_
              refine am_goto (tgt := 70) d_LH_isOrderSo_66 (by decide) ?_
              refine am_sub [1, 2, 3, 4, 5, 0] (lv2 := [(0, .ref 0), (1, .int x1), (2, .int x2), (3, .int x3), (4, .int x4), (5, .int (((6 : Int32) * (x3 / (10 : Int32))) + (x3 - x3 / (10 : Int32) * (10 : Int32))))]) rfl ?_
              exact w_LH_isOrderSo_70 hg hβ16 hK16 (by show k + 4 ≤ β16; omega) (by show z + 24 ≤ 6 * β16; omega) h
def f_LH_isOrderSo (s : am_M)  : Int32 × am_M := (f_LH_isOrderSo_16 25 (f_LH_does s (4 : Int32) (0 : Int32) (0 : Int32) (0 : Int32)).2 (0 : Int32) (0 : Int32) (f_LH_does s (4 : Int32) (0 : Int32) (0 : Int32) (0 : Int32)).1 (1 : Int32))
def p_LH_isOrderSo (s : am_M)  : Prop := p_LH_does s (4 : Int32) (0 : Int32) (0 : Int32) (0 : Int32) ∧ ((p_LH_isOrderSo_16 25 (f_LH_does s (4 : Int32) (0 : Int32) (0 : Int32) (0 : Int32)).2 (0 : Int32) (0 : Int32) (f_LH_does s (4 : Int32) (0 : Int32) (0 : Int32) (0 : Int32)).1 (1 : Int32)))
set_option maxRecDepth 8000 in
theorem w_LH_isOrderSo {l : Launch} {g : am_Gl} (hg : g.2.2.2.1 = true) {ad0 : Nat → Nat} {s : am_M}  (h : p_LH_isOrderSo s ) : AW l g m_LH_isOrderSo 207 ad0 (am_oC (f_LH_isOrderSo s )) 0 0 207 s 0 [(0, .ref 0)] [] := by
  refine am_iconst (v := (0 : Int32)) d_LH_isOrderSo_0 (by decide) ?_
  refine am_istore_n (lv2 := [(1, .int (0 : Int32)), (0, .ref 0)]) d_LH_isOrderSo_1 rfl (by decide) rfl ?_
  refine am_iconst (v := (0 : Int32)) d_LH_isOrderSo_2 (by decide) ?_
  refine am_istore_n (lv2 := [(2, .int (0 : Int32)), (1, .int (0 : Int32)), (0, .ref 0)]) d_LH_isOrderSo_3 rfl (by decide) rfl ?_
  refine am_aload_n (j := 2) d_LH_isOrderSo_4 rfl rfl ?_
  refine am_iconst (v := (4 : Int32)) d_LH_isOrderSo_5 (by decide) ?_
  refine am_iconst (v := (0 : Int32)) d_LH_isOrderSo_6 (by decide) ?_
  refine am_iconst (v := (0 : Int32)) d_LH_isOrderSo_7 (by decide) ?_
  refine am_iconst (v := (0 : Int32)) d_LH_isOrderSo_8 (by decide) ?_
  obtain ⟨hc, h⟩ := h
  refine ak9_SX (as := [.ref 0, .int (4 : Int32), .int (0 : Int32), .int (0 : Int32), .int (0 : Int32)]) (rest := []) d_LH_isOrderSo_9 cw_LH_isOrderSo_9 rfl (am_1C (ct_LH_does hg hc)) rfl rfl (Nat.le_of_ble_eq_true rfl) (by show 0 + 4 ≤ 3724; omega) (by show 0 + 24 ≤ 22344; omega) ?_
  refine am_istore_n (lv2 := [(3, .int (f_LH_does s (4 : Int32) (0 : Int32) (0 : Int32) (0 : Int32)).1), (2, .int (0 : Int32)), (1, .int (0 : Int32)), (0, .ref 0)]) d_LH_isOrderSo_12 rfl (by decide) rfl ?_
  refine am_iconst (v := (1 : Int32)) d_LH_isOrderSo_13 (by decide) ?_
  refine am_istore (lv2 := [(4, .int (1 : Int32)), (3, .int (f_LH_does s (4 : Int32) (0 : Int32) (0 : Int32) (0 : Int32)).1), (2, .int (0 : Int32)), (1, .int (0 : Int32)), (0, .ref 0)]) d_LH_isOrderSo_14 (by decide) rfl ?_
  refine am_sub [4, 3, 2, 1, 0] (lv2 := [(0, .ref 0), (1, .int (0 : Int32)), (2, .int (0 : Int32)), (3, .int (f_LH_does s (4 : Int32) (0 : Int32) (0 : Int32) (0 : Int32)).1), (4, .int (1 : Int32))]) rfl ?_
  exact w_LH_isOrderSo_16 hg  25 _ _ _ _ _ _ _ (by show 0 + 4 + 4 * 25 ≤ 104; omega) (by show 0 + 24 + 24 * 25 ≤ 6 * 104; omega) h
theorem ct_LH_isOrderSo {l : Launch} {g : am_Gl} (hg : g.2.2.2.1 = true) {s : am_M}  (h : p_LH_isOrderSo s ) : AC l g m_LH_isOrderSo 207 s [.ref 0] (am_oC (f_LH_isOrderSo s )) := am_enter ok_LH_isOrderSo rfl (Nat.le_of_ble_eq_true rfl) rfl (fun ad0 => w_LH_isOrderSo hg h)
theorem cw_LH_isBegun_1 : am_cv m_LH_isBegun m_CB_addTable 8 0 := ⟨⟨ok_CB_addTable, rfl, by decide +kernel, by decide, by decide⟩, aw_1_199, aw_1_200, aw_1_201⟩
theorem cw_LH_isBegun_8 : am_cv m_LH_isBegun m_CB_addTable 8 0 := ⟨⟨ok_CB_addTable, rfl, by decide +kernel, by decide, by decide⟩, aw_1_199, aw_1_200, aw_1_201⟩
theorem cw_LH_isBegun_16 : am_cv m_LH_isBegun m_CB_addTable 8 0 := ⟨⟨ok_CB_addTable, rfl, by decide +kernel, by decide, by decide⟩, aw_1_199, aw_1_200, aw_1_201⟩
theorem cw_LH_isBegun_29 : am_cv m_LH_isBegun m_CB_addNumber 14 3 := ⟨⟨ok_CB_addNumber, rfl, by decide +kernel, by decide, by decide⟩, aw_2_30, aw_2_31, aw_2_32⟩
theorem cw_LH_isBegun_39 : am_cv m_LH_isBegun m_CB_addLink 18 3 := ⟨⟨ok_CB_addLink, rfl, by decide +kernel, by decide, by decide⟩, aw_2_97, aw_2_98, aw_2_99⟩
theorem cw_LH_isBegun_52 : am_cv m_LH_isBegun m_CB_addNumber 14 3 := ⟨⟨ok_CB_addNumber, rfl, by decide +kernel, by decide, by decide⟩, aw_2_30, aw_2_31, aw_2_32⟩
theorem cw_LH_isBegun_62 : am_cv m_LH_isBegun m_CB_addLink 18 3 := ⟨⟨ok_CB_addLink, rfl, by decide +kernel, by decide, by decide⟩, aw_2_97, aw_2_98, aw_2_99⟩
theorem cw_LH_isBegun_75 : am_cv m_LH_isBegun m_CB_addReckoned 66 5 := ⟨⟨ok_CB_addReckoned, rfl, by decide +kernel, by decide, by decide⟩, aw_3_224, aw_3_225, aw_3_226⟩
theorem cw_LH_isBegun_87 : am_cv m_LH_isBegun m_CB_addNumber 14 3 := ⟨⟨ok_CB_addNumber, rfl, by decide +kernel, by decide, by decide⟩, aw_2_30, aw_2_31, aw_2_32⟩
theorem cw_LH_isBegun_96 : am_cv m_LH_isBegun m_CB_ask 110 2 := ⟨⟨ok_CB_ask, rfl, by decide +kernel, by decide, by decide⟩, aw_4_172, aw_4_173, aw_4_174⟩
theorem cw_LH_isBegun_105 : am_cv m_LH_isBegun m_CB_ask 110 2 := ⟨⟨ok_CB_ask, rfl, by decide +kernel, by decide, by decide⟩, aw_4_172, aw_4_173, aw_4_174⟩
theorem cw_LH_isBegun_117 : am_cv m_LH_isBegun m_CB_askGroups 116 3 := ⟨⟨ok_CB_askGroups, rfl, by decide +kernel, by decide, by decide⟩, aw_5_4, aw_5_5, aw_5_6⟩
theorem cw_LH_isBegun_125 : am_cv m_LH_isBegun m_CB_addAct 21 0 := ⟨⟨ok_CB_addAct, rfl, by decide +kernel, by decide, by decide⟩, aw_2_109, aw_2_110, aw_2_111⟩
theorem cw_LH_isBegun_136 : am_cv m_LH_isBegun m_CB_stepPut 131 4 := ⟨⟨ok_CB_stepPut, rfl, by decide +kernel, by decide, by decide⟩, aw_5_34, aw_5_35, aw_5_36⟩
def f_LH_isBegun (s : am_M)  : Int32 × am_M := (if (h_CB_addTable s).2.1 = 0 then (if (h_CB_addTable (h_CB_addTable s).2.2).2.1 = (1 : Int32) then (if (h_CB_addTable (h_CB_addTable (h_CB_addTable s).2.2).2.2).2.1 = (2 : Int32) then (if (h_CB_addNumber (h_CB_addTable (h_CB_addTable (h_CB_addTable s).2.2).2.2).2.2 (0 : Int32) (-2 : Int32) (14 : Int32)).2.1 = 0 then (if (h_CB_addLink (h_CB_addNumber (h_CB_addTable (h_CB_addTable (h_CB_addTable s).2.2).2.2).2.2 (0 : Int32) (-2 : Int32) (14 : Int32)).2.2 (0 : Int32) (1 : Int32) (2 : Int32)).2.1 = (1 : Int32) then (if (h_CB_addNumber (h_CB_addLink (h_CB_addNumber (h_CB_addTable (h_CB_addTable (h_CB_addTable s).2.2).2.2).2.2 (0 : Int32) (-2 : Int32) (14 : Int32)).2.2 (0 : Int32) (1 : Int32) (2 : Int32)).2.2 (1 : Int32) (-2 : Int32) (14 : Int32)).2.1 = 0 then (if (h_CB_addLink (h_CB_addNumber (h_CB_addLink (h_CB_addNumber (h_CB_addTable (h_CB_addTable (h_CB_addTable s).2.2).2.2).2.2 (0 : Int32) (-2 : Int32) (14 : Int32)).2.2 (0 : Int32) (1 : Int32) (2 : Int32)).2.2 (1 : Int32) (-2 : Int32) (14 : Int32)).2.2 (1 : Int32) (0 : Int32) (1 : Int32)).2.1 = (1 : Int32) then (if (h_CB_addReckoned (h_CB_addLink (h_CB_addNumber (h_CB_addLink (h_CB_addNumber (h_CB_addTable (h_CB_addTable (h_CB_addTable s).2.2).2.2).2.2 (0 : Int32) (-2 : Int32) (14 : Int32)).2.2 (0 : Int32) (1 : Int32) (2 : Int32)).2.2 (1 : Int32) (-2 : Int32) (14 : Int32)).2.2 (1 : Int32) (0 : Int32) (1 : Int32)).2.2 (1 : Int32) (3 : Int32) (1 : Int32) (0 : Int32) (0 : Int32)).2.1 = (2 : Int32) then (if (h_CB_addNumber (h_CB_addReckoned (h_CB_addLink (h_CB_addNumber (h_CB_addLink (h_CB_addNumber (h_CB_addTable (h_CB_addTable (h_CB_addTable s).2.2).2.2).2.2 (0 : Int32) (-2 : Int32) (14 : Int32)).2.2 (0 : Int32) (1 : Int32) (2 : Int32)).2.2 (1 : Int32) (-2 : Int32) (14 : Int32)).2.2 (1 : Int32) (0 : Int32) (1 : Int32)).2.2 (1 : Int32) (3 : Int32) (1 : Int32) (0 : Int32) (0 : Int32)).2.2 (2 : Int32) (0 : Int32) (9 : Int32)).2.1 = 0 then (if (h_CB_ask (h_CB_addNumber (h_CB_addReckoned (h_CB_addLink (h_CB_addNumber (h_CB_addLink (h_CB_addNumber (h_CB_addTable (h_CB_addTable (h_CB_addTable s).2.2).2.2).2.2 (0 : Int32) (-2 : Int32) (14 : Int32)).2.2 (0 : Int32) (1 : Int32) (2 : Int32)).2.2 (1 : Int32) (-2 : Int32) (14 : Int32)).2.2 (1 : Int32) (0 : Int32) (1 : Int32)).2.2 (1 : Int32) (3 : Int32) (1 : Int32) (0 : Int32) (0 : Int32)).2.2 (2 : Int32) (0 : Int32) (9 : Int32)).2.2 (0 : Int32) (-1 : Int32)).2.1 = 0 then (if (h_CB_ask (h_CB_ask (h_CB_addNumber (h_CB_addReckoned (h_CB_addLink (h_CB_addNumber (h_CB_addLink (h_CB_addNumber (h_CB_addTable (h_CB_addTable (h_CB_addTable s).2.2).2.2).2.2 (0 : Int32) (-2 : Int32) (14 : Int32)).2.2 (0 : Int32) (1 : Int32) (2 : Int32)).2.2 (1 : Int32) (-2 : Int32) (14 : Int32)).2.2 (1 : Int32) (0 : Int32) (1 : Int32)).2.2 (1 : Int32) (3 : Int32) (1 : Int32) (0 : Int32) (0 : Int32)).2.2 (2 : Int32) (0 : Int32) (9 : Int32)).2.2 (0 : Int32) (-1 : Int32)).2.2 (0 : Int32) (1 : Int32)).2.1 = (1 : Int32) then (if (h_CB_askGroups (h_CB_ask (h_CB_ask (h_CB_addNumber (h_CB_addReckoned (h_CB_addLink (h_CB_addNumber (h_CB_addLink (h_CB_addNumber (h_CB_addTable (h_CB_addTable (h_CB_addTable s).2.2).2.2).2.2 (0 : Int32) (-2 : Int32) (14 : Int32)).2.2 (0 : Int32) (1 : Int32) (2 : Int32)).2.2 (1 : Int32) (-2 : Int32) (14 : Int32)).2.2 (1 : Int32) (0 : Int32) (1 : Int32)).2.2 (1 : Int32) (3 : Int32) (1 : Int32) (0 : Int32) (0 : Int32)).2.2 (2 : Int32) (0 : Int32) (9 : Int32)).2.2 (0 : Int32) (-1 : Int32)).2.2 (0 : Int32) (1 : Int32)).2.2 (10 : Int32) (1 : Int32) (0 : Int32)).2.1 = (2 : Int32) then (if (h_CB_addAct (h_CB_askGroups (h_CB_ask (h_CB_ask (h_CB_addNumber (h_CB_addReckoned (h_CB_addLink (h_CB_addNumber (h_CB_addLink (h_CB_addNumber (h_CB_addTable (h_CB_addTable (h_CB_addTable s).2.2).2.2).2.2 (0 : Int32) (-2 : Int32) (14 : Int32)).2.2 (0 : Int32) (1 : Int32) (2 : Int32)).2.2 (1 : Int32) (-2 : Int32) (14 : Int32)).2.2 (1 : Int32) (0 : Int32) (1 : Int32)).2.2 (1 : Int32) (3 : Int32) (1 : Int32) (0 : Int32) (0 : Int32)).2.2 (2 : Int32) (0 : Int32) (9 : Int32)).2.2 (0 : Int32) (-1 : Int32)).2.2 (0 : Int32) (1 : Int32)).2.2 (10 : Int32) (1 : Int32) (0 : Int32)).2.2).2.1 = 0 then (if (h_CB_stepPut (h_CB_addAct (h_CB_askGroups (h_CB_ask (h_CB_ask (h_CB_addNumber (h_CB_addReckoned (h_CB_addLink (h_CB_addNumber (h_CB_addLink (h_CB_addNumber (h_CB_addTable (h_CB_addTable (h_CB_addTable s).2.2).2.2).2.2 (0 : Int32) (-2 : Int32) (14 : Int32)).2.2 (0 : Int32) (1 : Int32) (2 : Int32)).2.2 (1 : Int32) (-2 : Int32) (14 : Int32)).2.2 (1 : Int32) (0 : Int32) (1 : Int32)).2.2 (1 : Int32) (3 : Int32) (1 : Int32) (0 : Int32) (0 : Int32)).2.2 (2 : Int32) (0 : Int32) (9 : Int32)).2.2 (0 : Int32) (-1 : Int32)).2.2 (0 : Int32) (1 : Int32)).2.2 (10 : Int32) (1 : Int32) (0 : Int32)).2.2).2.2 (0 : Int32) (0 : Int32) (0 : Int32) (3 : Int32)).2.1 = (1 : Int32) then ((1 : Int32), (h_CB_stepPut (h_CB_addAct (h_CB_askGroups (h_CB_ask (h_CB_ask (h_CB_addNumber (h_CB_addReckoned (h_CB_addLink (h_CB_addNumber (h_CB_addLink (h_CB_addNumber (h_CB_addTable (h_CB_addTable (h_CB_addTable s).2.2).2.2).2.2 (0 : Int32) (-2 : Int32) (14 : Int32)).2.2 (0 : Int32) (1 : Int32) (2 : Int32)).2.2 (1 : Int32) (-2 : Int32) (14 : Int32)).2.2 (1 : Int32) (0 : Int32) (1 : Int32)).2.2 (1 : Int32) (3 : Int32) (1 : Int32) (0 : Int32) (0 : Int32)).2.2 (2 : Int32) (0 : Int32) (9 : Int32)).2.2 (0 : Int32) (-1 : Int32)).2.2 (0 : Int32) (1 : Int32)).2.2 (10 : Int32) (1 : Int32) (0 : Int32)).2.2).2.2 (0 : Int32) (0 : Int32) (0 : Int32) (3 : Int32)).2.2) else ((0 : Int32), (h_CB_stepPut (h_CB_addAct (h_CB_askGroups (h_CB_ask (h_CB_ask (h_CB_addNumber (h_CB_addReckoned (h_CB_addLink (h_CB_addNumber (h_CB_addLink (h_CB_addNumber (h_CB_addTable (h_CB_addTable (h_CB_addTable s).2.2).2.2).2.2 (0 : Int32) (-2 : Int32) (14 : Int32)).2.2 (0 : Int32) (1 : Int32) (2 : Int32)).2.2 (1 : Int32) (-2 : Int32) (14 : Int32)).2.2 (1 : Int32) (0 : Int32) (1 : Int32)).2.2 (1 : Int32) (3 : Int32) (1 : Int32) (0 : Int32) (0 : Int32)).2.2 (2 : Int32) (0 : Int32) (9 : Int32)).2.2 (0 : Int32) (-1 : Int32)).2.2 (0 : Int32) (1 : Int32)).2.2 (10 : Int32) (1 : Int32) (0 : Int32)).2.2).2.2 (0 : Int32) (0 : Int32) (0 : Int32) (3 : Int32)).2.2)) else ((0 : Int32), (h_CB_addAct (h_CB_askGroups (h_CB_ask (h_CB_ask (h_CB_addNumber (h_CB_addReckoned (h_CB_addLink (h_CB_addNumber (h_CB_addLink (h_CB_addNumber (h_CB_addTable (h_CB_addTable (h_CB_addTable s).2.2).2.2).2.2 (0 : Int32) (-2 : Int32) (14 : Int32)).2.2 (0 : Int32) (1 : Int32) (2 : Int32)).2.2 (1 : Int32) (-2 : Int32) (14 : Int32)).2.2 (1 : Int32) (0 : Int32) (1 : Int32)).2.2 (1 : Int32) (3 : Int32) (1 : Int32) (0 : Int32) (0 : Int32)).2.2 (2 : Int32) (0 : Int32) (9 : Int32)).2.2 (0 : Int32) (-1 : Int32)).2.2 (0 : Int32) (1 : Int32)).2.2 (10 : Int32) (1 : Int32) (0 : Int32)).2.2).2.2)) else ((0 : Int32), (h_CB_askGroups (h_CB_ask (h_CB_ask (h_CB_addNumber (h_CB_addReckoned (h_CB_addLink (h_CB_addNumber (h_CB_addLink (h_CB_addNumber (h_CB_addTable (h_CB_addTable (h_CB_addTable s).2.2).2.2).2.2 (0 : Int32) (-2 : Int32) (14 : Int32)).2.2 (0 : Int32) (1 : Int32) (2 : Int32)).2.2 (1 : Int32) (-2 : Int32) (14 : Int32)).2.2 (1 : Int32) (0 : Int32) (1 : Int32)).2.2 (1 : Int32) (3 : Int32) (1 : Int32) (0 : Int32) (0 : Int32)).2.2 (2 : Int32) (0 : Int32) (9 : Int32)).2.2 (0 : Int32) (-1 : Int32)).2.2 (0 : Int32) (1 : Int32)).2.2 (10 : Int32) (1 : Int32) (0 : Int32)).2.2)) else ((0 : Int32), (h_CB_ask (h_CB_ask (h_CB_addNumber (h_CB_addReckoned (h_CB_addLink (h_CB_addNumber (h_CB_addLink (h_CB_addNumber (h_CB_addTable (h_CB_addTable (h_CB_addTable s).2.2).2.2).2.2 (0 : Int32) (-2 : Int32) (14 : Int32)).2.2 (0 : Int32) (1 : Int32) (2 : Int32)).2.2 (1 : Int32) (-2 : Int32) (14 : Int32)).2.2 (1 : Int32) (0 : Int32) (1 : Int32)).2.2 (1 : Int32) (3 : Int32) (1 : Int32) (0 : Int32) (0 : Int32)).2.2 (2 : Int32) (0 : Int32) (9 : Int32)).2.2 (0 : Int32) (-1 : Int32)).2.2 (0 : Int32) (1 : Int32)).2.2)) else ((0 : Int32), (h_CB_ask (h_CB_addNumber (h_CB_addReckoned (h_CB_addLink (h_CB_addNumber (h_CB_addLink (h_CB_addNumber (h_CB_addTable (h_CB_addTable (h_CB_addTable s).2.2).2.2).2.2 (0 : Int32) (-2 : Int32) (14 : Int32)).2.2 (0 : Int32) (1 : Int32) (2 : Int32)).2.2 (1 : Int32) (-2 : Int32) (14 : Int32)).2.2 (1 : Int32) (0 : Int32) (1 : Int32)).2.2 (1 : Int32) (3 : Int32) (1 : Int32) (0 : Int32) (0 : Int32)).2.2 (2 : Int32) (0 : Int32) (9 : Int32)).2.2 (0 : Int32) (-1 : Int32)).2.2)) else ((0 : Int32), (h_CB_addNumber (h_CB_addReckoned (h_CB_addLink (h_CB_addNumber (h_CB_addLink (h_CB_addNumber (h_CB_addTable (h_CB_addTable (h_CB_addTable s).2.2).2.2).2.2 (0 : Int32) (-2 : Int32) (14 : Int32)).2.2 (0 : Int32) (1 : Int32) (2 : Int32)).2.2 (1 : Int32) (-2 : Int32) (14 : Int32)).2.2 (1 : Int32) (0 : Int32) (1 : Int32)).2.2 (1 : Int32) (3 : Int32) (1 : Int32) (0 : Int32) (0 : Int32)).2.2 (2 : Int32) (0 : Int32) (9 : Int32)).2.2)) else ((0 : Int32), (h_CB_addReckoned (h_CB_addLink (h_CB_addNumber (h_CB_addLink (h_CB_addNumber (h_CB_addTable (h_CB_addTable (h_CB_addTable s).2.2).2.2).2.2 (0 : Int32) (-2 : Int32) (14 : Int32)).2.2 (0 : Int32) (1 : Int32) (2 : Int32)).2.2 (1 : Int32) (-2 : Int32) (14 : Int32)).2.2 (1 : Int32) (0 : Int32) (1 : Int32)).2.2 (1 : Int32) (3 : Int32) (1 : Int32) (0 : Int32) (0 : Int32)).2.2)) else ((0 : Int32), (h_CB_addLink (h_CB_addNumber (h_CB_addLink (h_CB_addNumber (h_CB_addTable (h_CB_addTable (h_CB_addTable s).2.2).2.2).2.2 (0 : Int32) (-2 : Int32) (14 : Int32)).2.2 (0 : Int32) (1 : Int32) (2 : Int32)).2.2 (1 : Int32) (-2 : Int32) (14 : Int32)).2.2 (1 : Int32) (0 : Int32) (1 : Int32)).2.2)) else ((0 : Int32), (h_CB_addNumber (h_CB_addLink (h_CB_addNumber (h_CB_addTable (h_CB_addTable (h_CB_addTable s).2.2).2.2).2.2 (0 : Int32) (-2 : Int32) (14 : Int32)).2.2 (0 : Int32) (1 : Int32) (2 : Int32)).2.2 (1 : Int32) (-2 : Int32) (14 : Int32)).2.2)) else ((0 : Int32), (h_CB_addLink (h_CB_addNumber (h_CB_addTable (h_CB_addTable (h_CB_addTable s).2.2).2.2).2.2 (0 : Int32) (-2 : Int32) (14 : Int32)).2.2 (0 : Int32) (1 : Int32) (2 : Int32)).2.2)) else ((0 : Int32), (h_CB_addNumber (h_CB_addTable (h_CB_addTable (h_CB_addTable s).2.2).2.2).2.2 (0 : Int32) (-2 : Int32) (14 : Int32)).2.2)) else ((0 : Int32), (h_CB_addTable (h_CB_addTable (h_CB_addTable s).2.2).2.2).2.2)) else ((0 : Int32), (h_CB_addTable (h_CB_addTable s).2.2).2.2)) else ((0 : Int32), (h_CB_addTable s).2.2))
def p_LH_isBegun (s : am_M)  : Prop := (h_CB_addTable s).1 = 0 ∧ ((((h_CB_addTable s).2.1 = 0) → (h_CB_addTable (h_CB_addTable s).2.2).1 = 0 ∧ ((((h_CB_addTable (h_CB_addTable s).2.2).2.1 = (1 : Int32)) → (h_CB_addTable (h_CB_addTable (h_CB_addTable s).2.2).2.2).1 = 0 ∧ ((((h_CB_addTable (h_CB_addTable (h_CB_addTable s).2.2).2.2).2.1 = (2 : Int32)) → p_CB_addNumber (h_CB_addTable (h_CB_addTable (h_CB_addTable s).2.2).2.2).2.2 (0 : Int32) (-2 : Int32) (14 : Int32) ∧ ((h_CB_addNumber (h_CB_addTable (h_CB_addTable (h_CB_addTable s).2.2).2.2).2.2 (0 : Int32) (-2 : Int32) (14 : Int32)).1 = 0 ∧ ((((h_CB_addNumber (h_CB_addTable (h_CB_addTable (h_CB_addTable s).2.2).2.2).2.2 (0 : Int32) (-2 : Int32) (14 : Int32)).2.1 = 0) → p_CB_addLink (h_CB_addNumber (h_CB_addTable (h_CB_addTable (h_CB_addTable s).2.2).2.2).2.2 (0 : Int32) (-2 : Int32) (14 : Int32)).2.2 (0 : Int32) (1 : Int32) (2 : Int32) ∧ ((h_CB_addLink (h_CB_addNumber (h_CB_addTable (h_CB_addTable (h_CB_addTable s).2.2).2.2).2.2 (0 : Int32) (-2 : Int32) (14 : Int32)).2.2 (0 : Int32) (1 : Int32) (2 : Int32)).1 = 0 ∧ ((((h_CB_addLink (h_CB_addNumber (h_CB_addTable (h_CB_addTable (h_CB_addTable s).2.2).2.2).2.2 (0 : Int32) (-2 : Int32) (14 : Int32)).2.2 (0 : Int32) (1 : Int32) (2 : Int32)).2.1 = (1 : Int32)) → p_CB_addNumber (h_CB_addLink (h_CB_addNumber (h_CB_addTable (h_CB_addTable (h_CB_addTable s).2.2).2.2).2.2 (0 : Int32) (-2 : Int32) (14 : Int32)).2.2 (0 : Int32) (1 : Int32) (2 : Int32)).2.2 (1 : Int32) (-2 : Int32) (14 : Int32) ∧ ((h_CB_addNumber (h_CB_addLink (h_CB_addNumber (h_CB_addTable (h_CB_addTable (h_CB_addTable s).2.2).2.2).2.2 (0 : Int32) (-2 : Int32) (14 : Int32)).2.2 (0 : Int32) (1 : Int32) (2 : Int32)).2.2 (1 : Int32) (-2 : Int32) (14 : Int32)).1 = 0 ∧ ((((h_CB_addNumber (h_CB_addLink (h_CB_addNumber (h_CB_addTable (h_CB_addTable (h_CB_addTable s).2.2).2.2).2.2 (0 : Int32) (-2 : Int32) (14 : Int32)).2.2 (0 : Int32) (1 : Int32) (2 : Int32)).2.2 (1 : Int32) (-2 : Int32) (14 : Int32)).2.1 = 0) → p_CB_addLink (h_CB_addNumber (h_CB_addLink (h_CB_addNumber (h_CB_addTable (h_CB_addTable (h_CB_addTable s).2.2).2.2).2.2 (0 : Int32) (-2 : Int32) (14 : Int32)).2.2 (0 : Int32) (1 : Int32) (2 : Int32)).2.2 (1 : Int32) (-2 : Int32) (14 : Int32)).2.2 (1 : Int32) (0 : Int32) (1 : Int32) ∧ ((h_CB_addLink (h_CB_addNumber (h_CB_addLink (h_CB_addNumber (h_CB_addTable (h_CB_addTable (h_CB_addTable s).2.2).2.2).2.2 (0 : Int32) (-2 : Int32) (14 : Int32)).2.2 (0 : Int32) (1 : Int32) (2 : Int32)).2.2 (1 : Int32) (-2 : Int32) (14 : Int32)).2.2 (1 : Int32) (0 : Int32) (1 : Int32)).1 = 0 ∧ ((((h_CB_addLink (h_CB_addNumber (h_CB_addLink (h_CB_addNumber (h_CB_addTable (h_CB_addTable (h_CB_addTable s).2.2).2.2).2.2 (0 : Int32) (-2 : Int32) (14 : Int32)).2.2 (0 : Int32) (1 : Int32) (2 : Int32)).2.2 (1 : Int32) (-2 : Int32) (14 : Int32)).2.2 (1 : Int32) (0 : Int32) (1 : Int32)).2.1 = (1 : Int32)) → p_CB_addReckoned (h_CB_addLink (h_CB_addNumber (h_CB_addLink (h_CB_addNumber (h_CB_addTable (h_CB_addTable (h_CB_addTable s).2.2).2.2).2.2 (0 : Int32) (-2 : Int32) (14 : Int32)).2.2 (0 : Int32) (1 : Int32) (2 : Int32)).2.2 (1 : Int32) (-2 : Int32) (14 : Int32)).2.2 (1 : Int32) (0 : Int32) (1 : Int32)).2.2 (1 : Int32) (3 : Int32) (1 : Int32) (0 : Int32) (0 : Int32) ∧ ((h_CB_addReckoned (h_CB_addLink (h_CB_addNumber (h_CB_addLink (h_CB_addNumber (h_CB_addTable (h_CB_addTable (h_CB_addTable s).2.2).2.2).2.2 (0 : Int32) (-2 : Int32) (14 : Int32)).2.2 (0 : Int32) (1 : Int32) (2 : Int32)).2.2 (1 : Int32) (-2 : Int32) (14 : Int32)).2.2 (1 : Int32) (0 : Int32) (1 : Int32)).2.2 (1 : Int32) (3 : Int32) (1 : Int32) (0 : Int32) (0 : Int32)).1 = 0 ∧ ((((h_CB_addReckoned (h_CB_addLink (h_CB_addNumber (h_CB_addLink (h_CB_addNumber (h_CB_addTable (h_CB_addTable (h_CB_addTable s).2.2).2.2).2.2 (0 : Int32) (-2 : Int32) (14 : Int32)).2.2 (0 : Int32) (1 : Int32) (2 : Int32)).2.2 (1 : Int32) (-2 : Int32) (14 : Int32)).2.2 (1 : Int32) (0 : Int32) (1 : Int32)).2.2 (1 : Int32) (3 : Int32) (1 : Int32) (0 : Int32) (0 : Int32)).2.1 = (2 : Int32)) → p_CB_addNumber (h_CB_addReckoned (h_CB_addLink (h_CB_addNumber (h_CB_addLink (h_CB_addNumber (h_CB_addTable (h_CB_addTable (h_CB_addTable s).2.2).2.2).2.2 (0 : Int32) (-2 : Int32) (14 : Int32)).2.2 (0 : Int32) (1 : Int32) (2 : Int32)).2.2 (1 : Int32) (-2 : Int32) (14 : Int32)).2.2 (1 : Int32) (0 : Int32) (1 : Int32)).2.2 (1 : Int32) (3 : Int32) (1 : Int32) (0 : Int32) (0 : Int32)).2.2 (2 : Int32) (0 : Int32) (9 : Int32) ∧ ((h_CB_addNumber (h_CB_addReckoned (h_CB_addLink (h_CB_addNumber (h_CB_addLink (h_CB_addNumber (h_CB_addTable (h_CB_addTable (h_CB_addTable s).2.2).2.2).2.2 (0 : Int32) (-2 : Int32) (14 : Int32)).2.2 (0 : Int32) (1 : Int32) (2 : Int32)).2.2 (1 : Int32) (-2 : Int32) (14 : Int32)).2.2 (1 : Int32) (0 : Int32) (1 : Int32)).2.2 (1 : Int32) (3 : Int32) (1 : Int32) (0 : Int32) (0 : Int32)).2.2 (2 : Int32) (0 : Int32) (9 : Int32)).1 = 0 ∧ ((((h_CB_addNumber (h_CB_addReckoned (h_CB_addLink (h_CB_addNumber (h_CB_addLink (h_CB_addNumber (h_CB_addTable (h_CB_addTable (h_CB_addTable s).2.2).2.2).2.2 (0 : Int32) (-2 : Int32) (14 : Int32)).2.2 (0 : Int32) (1 : Int32) (2 : Int32)).2.2 (1 : Int32) (-2 : Int32) (14 : Int32)).2.2 (1 : Int32) (0 : Int32) (1 : Int32)).2.2 (1 : Int32) (3 : Int32) (1 : Int32) (0 : Int32) (0 : Int32)).2.2 (2 : Int32) (0 : Int32) (9 : Int32)).2.1 = 0) → p_CB_ask (h_CB_addNumber (h_CB_addReckoned (h_CB_addLink (h_CB_addNumber (h_CB_addLink (h_CB_addNumber (h_CB_addTable (h_CB_addTable (h_CB_addTable s).2.2).2.2).2.2 (0 : Int32) (-2 : Int32) (14 : Int32)).2.2 (0 : Int32) (1 : Int32) (2 : Int32)).2.2 (1 : Int32) (-2 : Int32) (14 : Int32)).2.2 (1 : Int32) (0 : Int32) (1 : Int32)).2.2 (1 : Int32) (3 : Int32) (1 : Int32) (0 : Int32) (0 : Int32)).2.2 (2 : Int32) (0 : Int32) (9 : Int32)).2.2 (0 : Int32) (-1 : Int32) ∧ ((h_CB_ask (h_CB_addNumber (h_CB_addReckoned (h_CB_addLink (h_CB_addNumber (h_CB_addLink (h_CB_addNumber (h_CB_addTable (h_CB_addTable (h_CB_addTable s).2.2).2.2).2.2 (0 : Int32) (-2 : Int32) (14 : Int32)).2.2 (0 : Int32) (1 : Int32) (2 : Int32)).2.2 (1 : Int32) (-2 : Int32) (14 : Int32)).2.2 (1 : Int32) (0 : Int32) (1 : Int32)).2.2 (1 : Int32) (3 : Int32) (1 : Int32) (0 : Int32) (0 : Int32)).2.2 (2 : Int32) (0 : Int32) (9 : Int32)).2.2 (0 : Int32) (-1 : Int32)).1 = 0 ∧ ((((h_CB_ask (h_CB_addNumber (h_CB_addReckoned (h_CB_addLink (h_CB_addNumber (h_CB_addLink (h_CB_addNumber (h_CB_addTable (h_CB_addTable (h_CB_addTable s).2.2).2.2).2.2 (0 : Int32) (-2 : Int32) (14 : Int32)).2.2 (0 : Int32) (1 : Int32) (2 : Int32)).2.2 (1 : Int32) (-2 : Int32) (14 : Int32)).2.2 (1 : Int32) (0 : Int32) (1 : Int32)).2.2 (1 : Int32) (3 : Int32) (1 : Int32) (0 : Int32) (0 : Int32)).2.2 (2 : Int32) (0 : Int32) (9 : Int32)).2.2 (0 : Int32) (-1 : Int32)).2.1 = 0) → p_CB_ask (h_CB_ask (h_CB_addNumber (h_CB_addReckoned (h_CB_addLink (h_CB_addNumber (h_CB_addLink (h_CB_addNumber (h_CB_addTable (h_CB_addTable (h_CB_addTable s).2.2).2.2).2.2 (0 : Int32) (-2 : Int32) (14 : Int32)).2.2 (0 : Int32) (1 : Int32) (2 : Int32)).2.2 (1 : Int32) (-2 : Int32) (14 : Int32)).2.2 (1 : Int32) (0 : Int32) (1 : Int32)).2.2 (1 : Int32) (3 : Int32) (1 : Int32) (0 : Int32) (0 : Int32)).2.2 (2 : Int32) (0 : Int32) (9 : Int32)).2.2 (0 : Int32) (-1 : Int32)).2.2 (0 : Int32) (1 : Int32) ∧ ((h_CB_ask (h_CB_ask (h_CB_addNumber (h_CB_addReckoned (h_CB_addLink (h_CB_addNumber (h_CB_addLink (h_CB_addNumber (h_CB_addTable (h_CB_addTable (h_CB_addTable s).2.2).2.2).2.2 (0 : Int32) (-2 : Int32) (14 : Int32)).2.2 (0 : Int32) (1 : Int32) (2 : Int32)).2.2 (1 : Int32) (-2 : Int32) (14 : Int32)).2.2 (1 : Int32) (0 : Int32) (1 : Int32)).2.2 (1 : Int32) (3 : Int32) (1 : Int32) (0 : Int32) (0 : Int32)).2.2 (2 : Int32) (0 : Int32) (9 : Int32)).2.2 (0 : Int32) (-1 : Int32)).2.2 (0 : Int32) (1 : Int32)).1 = 0 ∧ ((((h_CB_ask (h_CB_ask (h_CB_addNumber (h_CB_addReckoned (h_CB_addLink (h_CB_addNumber (h_CB_addLink (h_CB_addNumber (h_CB_addTable (h_CB_addTable (h_CB_addTable s).2.2).2.2).2.2 (0 : Int32) (-2 : Int32) (14 : Int32)).2.2 (0 : Int32) (1 : Int32) (2 : Int32)).2.2 (1 : Int32) (-2 : Int32) (14 : Int32)).2.2 (1 : Int32) (0 : Int32) (1 : Int32)).2.2 (1 : Int32) (3 : Int32) (1 : Int32) (0 : Int32) (0 : Int32)).2.2 (2 : Int32) (0 : Int32) (9 : Int32)).2.2 (0 : Int32) (-1 : Int32)).2.2 (0 : Int32) (1 : Int32)).2.1 = (1 : Int32)) → p_CB_askGroups (h_CB_ask (h_CB_ask (h_CB_addNumber (h_CB_addReckoned (h_CB_addLink (h_CB_addNumber (h_CB_addLink (h_CB_addNumber (h_CB_addTable (h_CB_addTable (h_CB_addTable s).2.2).2.2).2.2 (0 : Int32) (-2 : Int32) (14 : Int32)).2.2 (0 : Int32) (1 : Int32) (2 : Int32)).2.2 (1 : Int32) (-2 : Int32) (14 : Int32)).2.2 (1 : Int32) (0 : Int32) (1 : Int32)).2.2 (1 : Int32) (3 : Int32) (1 : Int32) (0 : Int32) (0 : Int32)).2.2 (2 : Int32) (0 : Int32) (9 : Int32)).2.2 (0 : Int32) (-1 : Int32)).2.2 (0 : Int32) (1 : Int32)).2.2 (10 : Int32) (1 : Int32) (0 : Int32) ∧ ((h_CB_askGroups (h_CB_ask (h_CB_ask (h_CB_addNumber (h_CB_addReckoned (h_CB_addLink (h_CB_addNumber (h_CB_addLink (h_CB_addNumber (h_CB_addTable (h_CB_addTable (h_CB_addTable s).2.2).2.2).2.2 (0 : Int32) (-2 : Int32) (14 : Int32)).2.2 (0 : Int32) (1 : Int32) (2 : Int32)).2.2 (1 : Int32) (-2 : Int32) (14 : Int32)).2.2 (1 : Int32) (0 : Int32) (1 : Int32)).2.2 (1 : Int32) (3 : Int32) (1 : Int32) (0 : Int32) (0 : Int32)).2.2 (2 : Int32) (0 : Int32) (9 : Int32)).2.2 (0 : Int32) (-1 : Int32)).2.2 (0 : Int32) (1 : Int32)).2.2 (10 : Int32) (1 : Int32) (0 : Int32)).1 = 0 ∧ ((((h_CB_askGroups (h_CB_ask (h_CB_ask (h_CB_addNumber (h_CB_addReckoned (h_CB_addLink (h_CB_addNumber (h_CB_addLink (h_CB_addNumber (h_CB_addTable (h_CB_addTable (h_CB_addTable s).2.2).2.2).2.2 (0 : Int32) (-2 : Int32) (14 : Int32)).2.2 (0 : Int32) (1 : Int32) (2 : Int32)).2.2 (1 : Int32) (-2 : Int32) (14 : Int32)).2.2 (1 : Int32) (0 : Int32) (1 : Int32)).2.2 (1 : Int32) (3 : Int32) (1 : Int32) (0 : Int32) (0 : Int32)).2.2 (2 : Int32) (0 : Int32) (9 : Int32)).2.2 (0 : Int32) (-1 : Int32)).2.2 (0 : Int32) (1 : Int32)).2.2 (10 : Int32) (1 : Int32) (0 : Int32)).2.1 = (2 : Int32)) → (h_CB_addAct (h_CB_askGroups (h_CB_ask (h_CB_ask (h_CB_addNumber (h_CB_addReckoned (h_CB_addLink (h_CB_addNumber (h_CB_addLink (h_CB_addNumber (h_CB_addTable (h_CB_addTable (h_CB_addTable s).2.2).2.2).2.2 (0 : Int32) (-2 : Int32) (14 : Int32)).2.2 (0 : Int32) (1 : Int32) (2 : Int32)).2.2 (1 : Int32) (-2 : Int32) (14 : Int32)).2.2 (1 : Int32) (0 : Int32) (1 : Int32)).2.2 (1 : Int32) (3 : Int32) (1 : Int32) (0 : Int32) (0 : Int32)).2.2 (2 : Int32) (0 : Int32) (9 : Int32)).2.2 (0 : Int32) (-1 : Int32)).2.2 (0 : Int32) (1 : Int32)).2.2 (10 : Int32) (1 : Int32) (0 : Int32)).2.2).1 = 0 ∧ ((((h_CB_addAct (h_CB_askGroups (h_CB_ask (h_CB_ask (h_CB_addNumber (h_CB_addReckoned (h_CB_addLink (h_CB_addNumber (h_CB_addLink (h_CB_addNumber (h_CB_addTable (h_CB_addTable (h_CB_addTable s).2.2).2.2).2.2 (0 : Int32) (-2 : Int32) (14 : Int32)).2.2 (0 : Int32) (1 : Int32) (2 : Int32)).2.2 (1 : Int32) (-2 : Int32) (14 : Int32)).2.2 (1 : Int32) (0 : Int32) (1 : Int32)).2.2 (1 : Int32) (3 : Int32) (1 : Int32) (0 : Int32) (0 : Int32)).2.2 (2 : Int32) (0 : Int32) (9 : Int32)).2.2 (0 : Int32) (-1 : Int32)).2.2 (0 : Int32) (1 : Int32)).2.2 (10 : Int32) (1 : Int32) (0 : Int32)).2.2).2.1 = 0) → p_CB_stepPut (h_CB_addAct (h_CB_askGroups (h_CB_ask (h_CB_ask (h_CB_addNumber (h_CB_addReckoned (h_CB_addLink (h_CB_addNumber (h_CB_addLink (h_CB_addNumber (h_CB_addTable (h_CB_addTable (h_CB_addTable s).2.2).2.2).2.2 (0 : Int32) (-2 : Int32) (14 : Int32)).2.2 (0 : Int32) (1 : Int32) (2 : Int32)).2.2 (1 : Int32) (-2 : Int32) (14 : Int32)).2.2 (1 : Int32) (0 : Int32) (1 : Int32)).2.2 (1 : Int32) (3 : Int32) (1 : Int32) (0 : Int32) (0 : Int32)).2.2 (2 : Int32) (0 : Int32) (9 : Int32)).2.2 (0 : Int32) (-1 : Int32)).2.2 (0 : Int32) (1 : Int32)).2.2 (10 : Int32) (1 : Int32) (0 : Int32)).2.2).2.2 (0 : Int32) (0 : Int32) (0 : Int32) (3 : Int32) ∧ ((h_CB_stepPut (h_CB_addAct (h_CB_askGroups (h_CB_ask (h_CB_ask (h_CB_addNumber (h_CB_addReckoned (h_CB_addLink (h_CB_addNumber (h_CB_addLink (h_CB_addNumber (h_CB_addTable (h_CB_addTable (h_CB_addTable s).2.2).2.2).2.2 (0 : Int32) (-2 : Int32) (14 : Int32)).2.2 (0 : Int32) (1 : Int32) (2 : Int32)).2.2 (1 : Int32) (-2 : Int32) (14 : Int32)).2.2 (1 : Int32) (0 : Int32) (1 : Int32)).2.2 (1 : Int32) (3 : Int32) (1 : Int32) (0 : Int32) (0 : Int32)).2.2 (2 : Int32) (0 : Int32) (9 : Int32)).2.2 (0 : Int32) (-1 : Int32)).2.2 (0 : Int32) (1 : Int32)).2.2 (10 : Int32) (1 : Int32) (0 : Int32)).2.2).2.2 (0 : Int32) (0 : Int32) (0 : Int32) (3 : Int32)).1 = 0 ∧ ((((h_CB_stepPut (h_CB_addAct (h_CB_askGroups (h_CB_ask (h_CB_ask (h_CB_addNumber (h_CB_addReckoned (h_CB_addLink (h_CB_addNumber (h_CB_addLink (h_CB_addNumber (h_CB_addTable (h_CB_addTable (h_CB_addTable s).2.2).2.2).2.2 (0 : Int32) (-2 : Int32) (14 : Int32)).2.2 (0 : Int32) (1 : Int32) (2 : Int32)).2.2 (1 : Int32) (-2 : Int32) (14 : Int32)).2.2 (1 : Int32) (0 : Int32) (1 : Int32)).2.2 (1 : Int32) (3 : Int32) (1 : Int32) (0 : Int32) (0 : Int32)).2.2 (2 : Int32) (0 : Int32) (9 : Int32)).2.2 (0 : Int32) (-1 : Int32)).2.2 (0 : Int32) (1 : Int32)).2.2 (10 : Int32) (1 : Int32) (0 : Int32)).2.2).2.2 (0 : Int32) (0 : Int32) (0 : Int32) (3 : Int32)).2.1 = (1 : Int32)) → True) ∧ (¬ ((h_CB_stepPut (h_CB_addAct (h_CB_askGroups (h_CB_ask (h_CB_ask (h_CB_addNumber (h_CB_addReckoned (h_CB_addLink (h_CB_addNumber (h_CB_addLink (h_CB_addNumber (h_CB_addTable (h_CB_addTable (h_CB_addTable s).2.2).2.2).2.2 (0 : Int32) (-2 : Int32) (14 : Int32)).2.2 (0 : Int32) (1 : Int32) (2 : Int32)).2.2 (1 : Int32) (-2 : Int32) (14 : Int32)).2.2 (1 : Int32) (0 : Int32) (1 : Int32)).2.2 (1 : Int32) (3 : Int32) (1 : Int32) (0 : Int32) (0 : Int32)).2.2 (2 : Int32) (0 : Int32) (9 : Int32)).2.2 (0 : Int32) (-1 : Int32)).2.2 (0 : Int32) (1 : Int32)).2.2 (10 : Int32) (1 : Int32) (0 : Int32)).2.2).2.2 (0 : Int32) (0 : Int32) (0 : Int32) (3 : Int32)).2.1 = (1 : Int32)) → True)))) ∧ (¬ ((h_CB_addAct (h_CB_askGroups (h_CB_ask (h_CB_ask (h_CB_addNumber (h_CB_addReckoned (h_CB_addLink (h_CB_addNumber (h_CB_addLink (h_CB_addNumber (h_CB_addTable (h_CB_addTable (h_CB_addTable s).2.2).2.2).2.2 (0 : Int32) (-2 : Int32) (14 : Int32)).2.2 (0 : Int32) (1 : Int32) (2 : Int32)).2.2 (1 : Int32) (-2 : Int32) (14 : Int32)).2.2 (1 : Int32) (0 : Int32) (1 : Int32)).2.2 (1 : Int32) (3 : Int32) (1 : Int32) (0 : Int32) (0 : Int32)).2.2 (2 : Int32) (0 : Int32) (9 : Int32)).2.2 (0 : Int32) (-1 : Int32)).2.2 (0 : Int32) (1 : Int32)).2.2 (10 : Int32) (1 : Int32) (0 : Int32)).2.2).2.1 = 0) → True))) ∧ (¬ ((h_CB_askGroups (h_CB_ask (h_CB_ask (h_CB_addNumber (h_CB_addReckoned (h_CB_addLink (h_CB_addNumber (h_CB_addLink (h_CB_addNumber (h_CB_addTable (h_CB_addTable (h_CB_addTable s).2.2).2.2).2.2 (0 : Int32) (-2 : Int32) (14 : Int32)).2.2 (0 : Int32) (1 : Int32) (2 : Int32)).2.2 (1 : Int32) (-2 : Int32) (14 : Int32)).2.2 (1 : Int32) (0 : Int32) (1 : Int32)).2.2 (1 : Int32) (3 : Int32) (1 : Int32) (0 : Int32) (0 : Int32)).2.2 (2 : Int32) (0 : Int32) (9 : Int32)).2.2 (0 : Int32) (-1 : Int32)).2.2 (0 : Int32) (1 : Int32)).2.2 (10 : Int32) (1 : Int32) (0 : Int32)).2.1 = (2 : Int32)) → True)))) ∧ (¬ ((h_CB_ask (h_CB_ask (h_CB_addNumber (h_CB_addReckoned (h_CB_addLink (h_CB_addNumber (h_CB_addLink (h_CB_addNumber (h_CB_addTable (h_CB_addTable (h_CB_addTable s).2.2).2.2).2.2 (0 : Int32) (-2 : Int32) (14 : Int32)).2.2 (0 : Int32) (1 : Int32) (2 : Int32)).2.2 (1 : Int32) (-2 : Int32) (14 : Int32)).2.2 (1 : Int32) (0 : Int32) (1 : Int32)).2.2 (1 : Int32) (3 : Int32) (1 : Int32) (0 : Int32) (0 : Int32)).2.2 (2 : Int32) (0 : Int32) (9 : Int32)).2.2 (0 : Int32) (-1 : Int32)).2.2 (0 : Int32) (1 : Int32)).2.1 = (1 : Int32)) → True)))) ∧ (¬ ((h_CB_ask (h_CB_addNumber (h_CB_addReckoned (h_CB_addLink (h_CB_addNumber (h_CB_addLink (h_CB_addNumber (h_CB_addTable (h_CB_addTable (h_CB_addTable s).2.2).2.2).2.2 (0 : Int32) (-2 : Int32) (14 : Int32)).2.2 (0 : Int32) (1 : Int32) (2 : Int32)).2.2 (1 : Int32) (-2 : Int32) (14 : Int32)).2.2 (1 : Int32) (0 : Int32) (1 : Int32)).2.2 (1 : Int32) (3 : Int32) (1 : Int32) (0 : Int32) (0 : Int32)).2.2 (2 : Int32) (0 : Int32) (9 : Int32)).2.2 (0 : Int32) (-1 : Int32)).2.1 = 0) → True)))) ∧ (¬ ((h_CB_addNumber (h_CB_addReckoned (h_CB_addLink (h_CB_addNumber (h_CB_addLink (h_CB_addNumber (h_CB_addTable (h_CB_addTable (h_CB_addTable s).2.2).2.2).2.2 (0 : Int32) (-2 : Int32) (14 : Int32)).2.2 (0 : Int32) (1 : Int32) (2 : Int32)).2.2 (1 : Int32) (-2 : Int32) (14 : Int32)).2.2 (1 : Int32) (0 : Int32) (1 : Int32)).2.2 (1 : Int32) (3 : Int32) (1 : Int32) (0 : Int32) (0 : Int32)).2.2 (2 : Int32) (0 : Int32) (9 : Int32)).2.1 = 0) → True)))) ∧ (¬ ((h_CB_addReckoned (h_CB_addLink (h_CB_addNumber (h_CB_addLink (h_CB_addNumber (h_CB_addTable (h_CB_addTable (h_CB_addTable s).2.2).2.2).2.2 (0 : Int32) (-2 : Int32) (14 : Int32)).2.2 (0 : Int32) (1 : Int32) (2 : Int32)).2.2 (1 : Int32) (-2 : Int32) (14 : Int32)).2.2 (1 : Int32) (0 : Int32) (1 : Int32)).2.2 (1 : Int32) (3 : Int32) (1 : Int32) (0 : Int32) (0 : Int32)).2.1 = (2 : Int32)) → True)))) ∧ (¬ ((h_CB_addLink (h_CB_addNumber (h_CB_addLink (h_CB_addNumber (h_CB_addTable (h_CB_addTable (h_CB_addTable s).2.2).2.2).2.2 (0 : Int32) (-2 : Int32) (14 : Int32)).2.2 (0 : Int32) (1 : Int32) (2 : Int32)).2.2 (1 : Int32) (-2 : Int32) (14 : Int32)).2.2 (1 : Int32) (0 : Int32) (1 : Int32)).2.1 = (1 : Int32)) → True)))) ∧ (¬ ((h_CB_addNumber (h_CB_addLink (h_CB_addNumber (h_CB_addTable (h_CB_addTable (h_CB_addTable s).2.2).2.2).2.2 (0 : Int32) (-2 : Int32) (14 : Int32)).2.2 (0 : Int32) (1 : Int32) (2 : Int32)).2.2 (1 : Int32) (-2 : Int32) (14 : Int32)).2.1 = 0) → True)))) ∧ (¬ ((h_CB_addLink (h_CB_addNumber (h_CB_addTable (h_CB_addTable (h_CB_addTable s).2.2).2.2).2.2 (0 : Int32) (-2 : Int32) (14 : Int32)).2.2 (0 : Int32) (1 : Int32) (2 : Int32)).2.1 = (1 : Int32)) → True)))) ∧ (¬ ((h_CB_addNumber (h_CB_addTable (h_CB_addTable (h_CB_addTable s).2.2).2.2).2.2 (0 : Int32) (-2 : Int32) (14 : Int32)).2.1 = 0) → True)))) ∧ (¬ ((h_CB_addTable (h_CB_addTable (h_CB_addTable s).2.2).2.2).2.1 = (2 : Int32)) → True))) ∧ (¬ ((h_CB_addTable (h_CB_addTable s).2.2).2.1 = (1 : Int32)) → True))) ∧ (¬ ((h_CB_addTable s).2.1 = 0) → True))
set_option maxRecDepth 8000 in
theorem w_LH_isBegun {l : Launch} {g : am_Gl} (hg : g.2.2.2.1 = true) {ad0 : Nat → Nat} {s : am_M}  (h : p_LH_isBegun s ) : AW l g m_LH_isBegun 207 ad0 (am_oC (f_LH_isBegun s )) 0 0 207 s 0 [(0, .ref 0)] [] := by
  refine am_aload_n (j := 0) d_LH_isBegun_0 rfl rfl ?_
  obtain ⟨h0, h⟩ := h
  refine ak9_VX (as := []) (rest := []) d_LH_isBegun_1 cw_LH_isBegun_1 rfl (am_1E h0 (ch_CB_addTable hg)) rfl rfl rc_0 (Nat.le_of_ble_eq_true rfl) (by show 0 + 1 ≤ 63; omega) (by show 0 + 6 ≤ 378; omega) ?_
  refine ai_ne (F := am_oC) (tgt := 147) d_LH_isBegun_4 (by decide) (fun c => ?_) (fun c => ?_)
  · have h := h.2 c
    refine am_iconst (v := (0 : Int32)) d_LH_isBegun_147 (by decide) ?_
    exact am_iret d_LH_isBegun_148 rfl (am_bool (Or.inl rfl)).1 (by show 0 + 1 ≤ 63; omega) (by show 0 + 6 ≤ 378; omega) am_oC_ok
  · have h := h.1 c
    refine am_aload_n (j := 0) d_LH_isBegun_7 rfl rfl ?_
    obtain ⟨h0, h⟩ := h
    refine ak9_VX (as := []) (rest := []) d_LH_isBegun_8 cw_LH_isBegun_8 rfl (am_1E h0 (ch_CB_addTable hg)) rfl rfl rc_0 (Nat.le_of_ble_eq_true rfl) (by show 0 + 1 + 1 ≤ 63; omega) (by show 0 + 6 + 6 ≤ 378; omega) ?_
    refine am_iconst (v := (1 : Int32)) d_LH_isBegun_11 (by decide) ?_
    refine aj_ne (F := am_oC) (tgt := 147) d_LH_isBegun_12 (by decide) (fun c => ?_) (fun c => ?_)
    · have h := h.2 c
      refine am_iconst (v := (0 : Int32)) d_LH_isBegun_147 (by decide) ?_
      exact am_iret d_LH_isBegun_148 rfl (am_bool (Or.inl rfl)).1 (by show 0 + 1 + 1 ≤ 63; omega) (by show 0 + 6 + 6 ≤ 378; omega) am_oC_ok
    · have h := h.1 c
      refine am_aload_n (j := 0) d_LH_isBegun_15 rfl rfl ?_
      obtain ⟨h0, h⟩ := h
      refine ak9_VX (as := []) (rest := []) d_LH_isBegun_16 cw_LH_isBegun_16 rfl (am_1E h0 (ch_CB_addTable hg)) rfl rfl rc_0 (Nat.le_of_ble_eq_true rfl) (by show 0 + 1 + 1 + 1 ≤ 63; omega) (by show 0 + 6 + 6 + 6 ≤ 378; omega) ?_
      refine am_iconst (v := (2 : Int32)) d_LH_isBegun_19 (by decide) ?_
      refine aj_ne (F := am_oC) (tgt := 147) d_LH_isBegun_20 (by decide) (fun c => ?_) (fun c => ?_)
      · have h := h.2 c
        refine am_iconst (v := (0 : Int32)) d_LH_isBegun_147 (by decide) ?_
        exact am_iret d_LH_isBegun_148 rfl (am_bool (Or.inl rfl)).1 (by show 0 + 1 + 1 + 1 ≤ 63; omega) (by show 0 + 6 + 6 + 6 ≤ 378; omega) am_oC_ok
      · have h := h.1 c
        refine am_aload_n (j := 0) d_LH_isBegun_23 rfl rfl ?_
        refine am_iconst (v := (0 : Int32)) d_LH_isBegun_24 (by decide) ?_
        refine am_bipush (v := (-2 : Int32)) d_LH_isBegun_25 (by decide) ?_
        refine am_bipush (v := (14 : Int32)) d_LH_isBegun_27 (by decide) ?_
        obtain ⟨hc, h⟩ := h
        obtain ⟨h0, h⟩ := h
        refine ak9_VX (as := [.int (0 : Int32), .int (-2 : Int32), .int (14 : Int32)]) (rest := []) d_LH_isBegun_29 cw_LH_isBegun_29 rfl (am_1E h0 (ch_CB_addNumber hg hc)) rfl rfl rc_0 (Nat.le_of_ble_eq_true rfl) (by show 0 + 1 + 1 + 1 + 3 ≤ 63; omega) (by show 0 + 6 + 6 + 6 + 18 ≤ 378; omega) ?_
        refine ai_ne (F := am_oC) (tgt := 147) d_LH_isBegun_32 (by decide) (fun c => ?_) (fun c => ?_)
        · have h := h.2 c
          refine am_iconst (v := (0 : Int32)) d_LH_isBegun_147 (by decide) ?_
          exact am_iret d_LH_isBegun_148 rfl (am_bool (Or.inl rfl)).1 (by show 0 + 1 + 1 + 1 + 3 ≤ 63; omega) (by show 0 + 6 + 6 + 6 + 18 ≤ 378; omega) am_oC_ok
        · have h := h.1 c
          refine am_aload_n (j := 0) d_LH_isBegun_35 rfl rfl ?_
          refine am_iconst (v := (0 : Int32)) d_LH_isBegun_36 (by decide) ?_
          refine am_iconst (v := (1 : Int32)) d_LH_isBegun_37 (by decide) ?_
          refine am_iconst (v := (2 : Int32)) d_LH_isBegun_38 (by decide) ?_
          obtain ⟨hc, h⟩ := h
          obtain ⟨h0, h⟩ := h
          refine ak9_VX (as := [.int (0 : Int32), .int (1 : Int32), .int (2 : Int32)]) (rest := []) d_LH_isBegun_39 cw_LH_isBegun_39 rfl (am_1E h0 (ch_CB_addLink hg hc)) rfl rfl rc_0 (Nat.le_of_ble_eq_true rfl) (by show 0 + 1 + 1 + 1 + 3 + 4 ≤ 63; omega) (by show 0 + 6 + 6 + 6 + 18 + 24 ≤ 378; omega) ?_
          refine am_iconst (v := (1 : Int32)) d_LH_isBegun_42 (by decide) ?_
          refine aj_ne (F := am_oC) (tgt := 147) d_LH_isBegun_43 (by decide) (fun c => ?_) (fun c => ?_)
          · have h := h.2 c
            refine am_iconst (v := (0 : Int32)) d_LH_isBegun_147 (by decide) ?_
            exact am_iret d_LH_isBegun_148 rfl (am_bool (Or.inl rfl)).1 (by show 0 + 1 + 1 + 1 + 3 + 4 ≤ 63; omega) (by show 0 + 6 + 6 + 6 + 18 + 24 ≤ 378; omega) am_oC_ok
          · have h := h.1 c
            refine am_aload_n (j := 0) d_LH_isBegun_46 rfl rfl ?_
            refine am_iconst (v := (1 : Int32)) d_LH_isBegun_47 (by decide) ?_
            refine am_bipush (v := (-2 : Int32)) d_LH_isBegun_48 (by decide) ?_
            refine am_bipush (v := (14 : Int32)) d_LH_isBegun_50 (by decide) ?_
            obtain ⟨hc, h⟩ := h
            obtain ⟨h0, h⟩ := h
            refine ak9_VX (as := [.int (1 : Int32), .int (-2 : Int32), .int (14 : Int32)]) (rest := []) d_LH_isBegun_52 cw_LH_isBegun_52 rfl (am_1E h0 (ch_CB_addNumber hg hc)) rfl rfl rc_0 (Nat.le_of_ble_eq_true rfl) (by show 0 + 1 + 1 + 1 + 3 + 4 + 3 ≤ 63; omega) (by show 0 + 6 + 6 + 6 + 18 + 24 + 18 ≤ 378; omega) ?_
            refine ai_ne (F := am_oC) (tgt := 147) d_LH_isBegun_55 (by decide) (fun c => ?_) (fun c => ?_)
            · have h := h.2 c
              refine am_iconst (v := (0 : Int32)) d_LH_isBegun_147 (by decide) ?_
              exact am_iret d_LH_isBegun_148 rfl (am_bool (Or.inl rfl)).1 (by show 0 + 1 + 1 + 1 + 3 + 4 + 3 ≤ 63; omega) (by show 0 + 6 + 6 + 6 + 18 + 24 + 18 ≤ 378; omega) am_oC_ok
            · have h := h.1 c
              refine am_aload_n (j := 0) d_LH_isBegun_58 rfl rfl ?_
              refine am_iconst (v := (1 : Int32)) d_LH_isBegun_59 (by decide) ?_
              refine am_iconst (v := (0 : Int32)) d_LH_isBegun_60 (by decide) ?_
              refine am_iconst (v := (1 : Int32)) d_LH_isBegun_61 (by decide) ?_
              obtain ⟨hc, h⟩ := h
              obtain ⟨h0, h⟩ := h
              refine ak9_VX (as := [.int (1 : Int32), .int (0 : Int32), .int (1 : Int32)]) (rest := []) d_LH_isBegun_62 cw_LH_isBegun_62 rfl (am_1E h0 (ch_CB_addLink hg hc)) rfl rfl rc_0 (Nat.le_of_ble_eq_true rfl) (by show 0 + 1 + 1 + 1 + 3 + 4 + 3 + 4 ≤ 63; omega) (by show 0 + 6 + 6 + 6 + 18 + 24 + 18 + 24 ≤ 378; omega) ?_
              refine am_iconst (v := (1 : Int32)) d_LH_isBegun_65 (by decide) ?_
              refine aj_ne (F := am_oC) (tgt := 147) d_LH_isBegun_66 (by decide) (fun c => ?_) (fun c => ?_)
              · have h := h.2 c
                refine am_iconst (v := (0 : Int32)) d_LH_isBegun_147 (by decide) ?_
                exact am_iret d_LH_isBegun_148 rfl (am_bool (Or.inl rfl)).1 (by show 0 + 1 + 1 + 1 + 3 + 4 + 3 + 4 ≤ 63; omega) (by show 0 + 6 + 6 + 6 + 18 + 24 + 18 + 24 ≤ 378; omega) am_oC_ok
              · have h := h.1 c
                refine am_aload_n (j := 0) d_LH_isBegun_69 rfl rfl ?_
                refine am_iconst (v := (1 : Int32)) d_LH_isBegun_70 (by decide) ?_
                refine am_iconst (v := (3 : Int32)) d_LH_isBegun_71 (by decide) ?_
                refine am_iconst (v := (1 : Int32)) d_LH_isBegun_72 (by decide) ?_
                refine am_iconst (v := (0 : Int32)) d_LH_isBegun_73 (by decide) ?_
                refine am_iconst (v := (0 : Int32)) d_LH_isBegun_74 (by decide) ?_
                obtain ⟨hc, h⟩ := h
                obtain ⟨h0, h⟩ := h
                refine ak9_VX (as := [.int (1 : Int32), .int (3 : Int32), .int (1 : Int32), .int (0 : Int32), .int (0 : Int32)]) (rest := []) d_LH_isBegun_75 cw_LH_isBegun_75 rfl (am_1E h0 (ch_CB_addReckoned hg hc)) rfl rfl rc_0 (Nat.le_of_ble_eq_true rfl) (by show 0 + 1 + 1 + 1 + 3 + 4 + 3 + 4 + 16 ≤ 63; omega) (by show 0 + 6 + 6 + 6 + 18 + 24 + 18 + 24 + 96 ≤ 378; omega) ?_
                refine am_iconst (v := (2 : Int32)) d_LH_isBegun_78 (by decide) ?_
                refine aj_ne (F := am_oC) (tgt := 147) d_LH_isBegun_79 (by decide) (fun c => ?_) (fun c => ?_)
                · have h := h.2 c
                  refine am_iconst (v := (0 : Int32)) d_LH_isBegun_147 (by decide) ?_
                  exact am_iret d_LH_isBegun_148 rfl (am_bool (Or.inl rfl)).1 (by show 0 + 1 + 1 + 1 + 3 + 4 + 3 + 4 + 16 ≤ 63; omega) (by show 0 + 6 + 6 + 6 + 18 + 24 + 18 + 24 + 96 ≤ 378; omega) am_oC_ok
                · have h := h.1 c
                  refine am_aload_n (j := 0) d_LH_isBegun_82 rfl rfl ?_
                  refine am_iconst (v := (2 : Int32)) d_LH_isBegun_83 (by decide) ?_
                  refine am_iconst (v := (0 : Int32)) d_LH_isBegun_84 (by decide) ?_
                  refine am_bipush (v := (9 : Int32)) d_LH_isBegun_85 (by decide) ?_
                  obtain ⟨hc, h⟩ := h
                  obtain ⟨h0, h⟩ := h
                  refine ak9_VX (as := [.int (2 : Int32), .int (0 : Int32), .int (9 : Int32)]) (rest := []) d_LH_isBegun_87 cw_LH_isBegun_87 rfl (am_1E h0 (ch_CB_addNumber hg hc)) rfl rfl rc_0 (Nat.le_of_ble_eq_true rfl) (by show 0 + 1 + 1 + 1 + 3 + 4 + 3 + 4 + 16 + 3 ≤ 63; omega) (by show 0 + 6 + 6 + 6 + 18 + 24 + 18 + 24 + 96 + 18 ≤ 378; omega) ?_
                  refine ai_ne (F := am_oC) (tgt := 147) d_LH_isBegun_90 (by decide) (fun c => ?_) (fun c => ?_)
                  · have h := h.2 c
                    refine am_iconst (v := (0 : Int32)) d_LH_isBegun_147 (by decide) ?_
                    exact am_iret d_LH_isBegun_148 rfl (am_bool (Or.inl rfl)).1 (by show 0 + 1 + 1 + 1 + 3 + 4 + 3 + 4 + 16 + 3 ≤ 63; omega) (by show 0 + 6 + 6 + 6 + 18 + 24 + 18 + 24 + 96 + 18 ≤ 378; omega) am_oC_ok
                  · have h := h.1 c
                    refine am_aload_n (j := 0) d_LH_isBegun_93 rfl rfl ?_
                    refine am_iconst (v := (0 : Int32)) d_LH_isBegun_94 (by decide) ?_
                    refine am_iconst (v := (-1 : Int32)) d_LH_isBegun_95 (by decide) ?_
                    obtain ⟨hc, h⟩ := h
                    obtain ⟨h0, h⟩ := h
                    refine ak9_VX (as := [.int (0 : Int32), .int (-1 : Int32)]) (rest := []) d_LH_isBegun_96 cw_LH_isBegun_96 rfl (am_1E h0 (ch_CB_ask hg hc)) rfl rfl rc_0 (Nat.le_of_ble_eq_true rfl) (by show 0 + 1 + 1 + 1 + 3 + 4 + 3 + 4 + 16 + 3 + 7 ≤ 63; omega) (by show 0 + 6 + 6 + 6 + 18 + 24 + 18 + 24 + 96 + 18 + 42 ≤ 378; omega) ?_
                    refine ai_ne (F := am_oC) (tgt := 147) d_LH_isBegun_99 (by decide) (fun c => ?_) (fun c => ?_)
                    · have h := h.2 c
                      refine am_iconst (v := (0 : Int32)) d_LH_isBegun_147 (by decide) ?_
                      exact am_iret d_LH_isBegun_148 rfl (am_bool (Or.inl rfl)).1 (by show 0 + 1 + 1 + 1 + 3 + 4 + 3 + 4 + 16 + 3 + 7 ≤ 63; omega) (by show 0 + 6 + 6 + 6 + 18 + 24 + 18 + 24 + 96 + 18 + 42 ≤ 378; omega) am_oC_ok
                    · have h := h.1 c
                      refine am_aload_n (j := 0) d_LH_isBegun_102 rfl rfl ?_
                      refine am_iconst (v := (0 : Int32)) d_LH_isBegun_103 (by decide) ?_
                      refine am_iconst (v := (1 : Int32)) d_LH_isBegun_104 (by decide) ?_
                      obtain ⟨hc, h⟩ := h
                      obtain ⟨h0, h⟩ := h
                      refine ak9_VX (as := [.int (0 : Int32), .int (1 : Int32)]) (rest := []) d_LH_isBegun_105 cw_LH_isBegun_105 rfl (am_1E h0 (ch_CB_ask hg hc)) rfl rfl rc_0 (Nat.le_of_ble_eq_true rfl) (by show 0 + 1 + 1 + 1 + 3 + 4 + 3 + 4 + 16 + 3 + 7 + 7 ≤ 63; omega) (by show 0 + 6 + 6 + 6 + 18 + 24 + 18 + 24 + 96 + 18 + 42 + 42 ≤ 378; omega) ?_
                      refine am_iconst (v := (1 : Int32)) d_LH_isBegun_108 (by decide) ?_
                      refine aj_ne (F := am_oC) (tgt := 147) d_LH_isBegun_109 (by decide) (fun c => ?_) (fun c => ?_)
                      · have h := h.2 c
                        refine am_iconst (v := (0 : Int32)) d_LH_isBegun_147 (by decide) ?_
                        exact am_iret d_LH_isBegun_148 rfl (am_bool (Or.inl rfl)).1 (by show 0 + 1 + 1 + 1 + 3 + 4 + 3 + 4 + 16 + 3 + 7 + 7 ≤ 63; omega) (by show 0 + 6 + 6 + 6 + 18 + 24 + 18 + 24 + 96 + 18 + 42 + 42 ≤ 378; omega) am_oC_ok
                      · have h := h.1 c
                        refine am_aload_n (j := 0) d_LH_isBegun_112 rfl rfl ?_
                        refine am_bipush (v := (10 : Int32)) d_LH_isBegun_113 (by decide) ?_
                        refine am_iconst (v := (1 : Int32)) d_LH_isBegun_115 (by decide) ?_
                        refine am_iconst (v := (0 : Int32)) d_LH_isBegun_116 (by decide) ?_
                        obtain ⟨hc, h⟩ := h
                        obtain ⟨h0, h⟩ := h
                        refine ak9_VX (as := [.int (10 : Int32), .int (1 : Int32), .int (0 : Int32)]) (rest := []) d_LH_isBegun_117 cw_LH_isBegun_117 rfl (am_1E h0 (ch_CB_askGroups hg hc)) rfl rfl rc_0 (Nat.le_of_ble_eq_true rfl) (by show 0 + 1 + 1 + 1 + 3 + 4 + 3 + 4 + 16 + 3 + 7 + 7 + 6 ≤ 63; omega) (by show 0 + 6 + 6 + 6 + 18 + 24 + 18 + 24 + 96 + 18 + 42 + 42 + 36 ≤ 378; omega) ?_
                        refine am_iconst (v := (2 : Int32)) d_LH_isBegun_120 (by decide) ?_
                        refine aj_ne (F := am_oC) (tgt := 147) d_LH_isBegun_121 (by decide) (fun c => ?_) (fun c => ?_)
                        · have h := h.2 c
                          refine am_iconst (v := (0 : Int32)) d_LH_isBegun_147 (by decide) ?_
                          exact am_iret d_LH_isBegun_148 rfl (am_bool (Or.inl rfl)).1 (by show 0 + 1 + 1 + 1 + 3 + 4 + 3 + 4 + 16 + 3 + 7 + 7 + 6 ≤ 63; omega) (by show 0 + 6 + 6 + 6 + 18 + 24 + 18 + 24 + 96 + 18 + 42 + 42 + 36 ≤ 378; omega) am_oC_ok
                        · have h := h.1 c
                          refine am_aload_n (j := 0) d_LH_isBegun_124 rfl rfl ?_
                          obtain ⟨h0, h⟩ := h
                          refine ak9_VX (as := []) (rest := []) d_LH_isBegun_125 cw_LH_isBegun_125 rfl (am_1E h0 (ch_CB_addAct hg)) rfl rfl rc_0 (Nat.le_of_ble_eq_true rfl) (by show 0 + 1 + 1 + 1 + 3 + 4 + 3 + 4 + 16 + 3 + 7 + 7 + 6 + 1 ≤ 63; omega) (by show 0 + 6 + 6 + 6 + 18 + 24 + 18 + 24 + 96 + 18 + 42 + 42 + 36 + 6 ≤ 378; omega) ?_
                          refine ai_ne (F := am_oC) (tgt := 147) d_LH_isBegun_128 (by decide) (fun c => ?_) (fun c => ?_)
                          · have h := h.2 c
                            refine am_iconst (v := (0 : Int32)) d_LH_isBegun_147 (by decide) ?_
                            exact am_iret d_LH_isBegun_148 rfl (am_bool (Or.inl rfl)).1 (by show 0 + 1 + 1 + 1 + 3 + 4 + 3 + 4 + 16 + 3 + 7 + 7 + 6 + 1 ≤ 63; omega) (by show 0 + 6 + 6 + 6 + 18 + 24 + 18 + 24 + 96 + 18 + 42 + 42 + 36 + 6 ≤ 378; omega) am_oC_ok
                          · have h := h.1 c
                            refine am_aload_n (j := 0) d_LH_isBegun_131 rfl rfl ?_
                            refine am_iconst (v := (0 : Int32)) d_LH_isBegun_132 (by decide) ?_
                            refine am_iconst (v := (0 : Int32)) d_LH_isBegun_133 (by decide) ?_
                            refine am_iconst (v := (0 : Int32)) d_LH_isBegun_134 (by decide) ?_
                            refine am_iconst (v := (3 : Int32)) d_LH_isBegun_135 (by decide) ?_
                            obtain ⟨hc, h⟩ := h
                            obtain ⟨h0, h⟩ := h
                            refine ak9_VX (as := [.int (0 : Int32), .int (0 : Int32), .int (0 : Int32), .int (3 : Int32)]) (rest := []) d_LH_isBegun_136 cw_LH_isBegun_136 rfl (am_1E h0 (ch_CB_stepPut hg hc)) rfl rfl rc_0 (Nat.le_of_ble_eq_true rfl) (by show 0 + 1 + 1 + 1 + 3 + 4 + 3 + 4 + 16 + 3 + 7 + 7 + 6 + 1 + 6 ≤ 63; omega) (by show 0 + 6 + 6 + 6 + 18 + 24 + 18 + 24 + 96 + 18 + 42 + 42 + 36 + 6 + 36 ≤ 378; omega) ?_
                            refine am_iconst (v := (1 : Int32)) d_LH_isBegun_139 (by decide) ?_
                            refine aj_ne (F := am_oC) (tgt := 147) d_LH_isBegun_140 (by decide) (fun c => ?_) (fun c => ?_)
                            · have h := h.2 c
                              refine am_iconst (v := (0 : Int32)) d_LH_isBegun_147 (by decide) ?_
                              exact am_iret d_LH_isBegun_148 rfl (am_bool (Or.inl rfl)).1 (by show 0 + 1 + 1 + 1 + 3 + 4 + 3 + 4 + 16 + 3 + 7 + 7 + 6 + 1 + 6 ≤ 63; omega) (by show 0 + 6 + 6 + 6 + 18 + 24 + 18 + 24 + 96 + 18 + 42 + 42 + 36 + 6 + 36 ≤ 378; omega) am_oC_ok
                            · have h := h.1 c
                              refine am_iconst (v := (1 : Int32)) d_LH_isBegun_143 (by decide) ?_
                              refine am_goto (tgt := 148) d_LH_isBegun_144 (by decide) ?_
                              exact am_iret d_LH_isBegun_148 rfl (am_bool (Or.inr rfl)).1 (by show 0 + 1 + 1 + 1 + 3 + 4 + 3 + 4 + 16 + 3 + 7 + 7 + 6 + 1 + 6 ≤ 63; omega) (by show 0 + 6 + 6 + 6 + 18 + 24 + 18 + 24 + 96 + 18 + 42 + 42 + 36 + 6 + 36 ≤ 378; omega) am_oC_ok
theorem ct_LH_isBegun {l : Launch} {g : am_Gl} (hg : g.2.2.2.1 = true) {s : am_M}  (h : p_LH_isBegun s ) : AC l g m_LH_isBegun 207 s [.ref 0] (am_oC (f_LH_isBegun s )) := am_enter ok_LH_isBegun rfl (Nat.le_of_ble_eq_true rfl) rfl (fun ad0 => w_LH_isBegun hg h)
theorem cw_LH_areAlike_1 : am_cv m_LH_areAlike m_CB_broken 175 0 := ⟨⟨ok_CB_broken, rfl, by decide +kernel, by decide, by decide⟩, aw_5_74, aw_5_75, aw_5_76⟩
theorem cw_LH_areAlike_8 : am_cv m_LH_areAlike m_CB_broken 175 0 := ⟨⟨ok_CB_broken, rfl, by decide +kernel, by decide, by decide⟩, aw_5_74, aw_5_75, aw_5_76⟩
theorem cw_LH_areAlike_15 : am_cv m_LH_areAlike m_CB_undoable 178 0 := ⟨⟨ok_CB_undoable, rfl, by decide +kernel, by decide, by decide⟩, aw_5_79, aw_5_80, aw_5_81⟩
theorem cw_LH_areAlike_19 : am_cv m_LH_areAlike m_CB_undoable 178 0 := ⟨⟨ok_CB_undoable, rfl, by decide +kernel, by decide, by decide⟩, aw_5_79, aw_5_80, aw_5_81⟩
theorem cw_LH_areAlike_26 : am_cv m_LH_areAlike m_CB_reason 181 0 := ⟨⟨ok_CB_reason, rfl, by decide +kernel, by decide, by decide⟩, aw_5_83, aw_5_84, aw_5_85⟩
theorem cw_LH_areAlike_30 : am_cv m_LH_areAlike m_CB_reason 181 0 := ⟨⟨ok_CB_reason, rfl, by decide +kernel, by decide, by decide⟩, aw_5_83, aw_5_84, aw_5_85⟩
theorem cw_LH_areAlike_37 : am_cv m_LH_areAlike m_CB_whereTable 184 0 := ⟨⟨ok_CB_whereTable, rfl, by decide +kernel, by decide, by decide⟩, aw_5_87, aw_5_88, aw_5_89⟩
theorem cw_LH_areAlike_41 : am_cv m_LH_areAlike m_CB_whereTable 184 0 := ⟨⟨ok_CB_whereTable, rfl, by decide +kernel, by decide, by decide⟩, aw_5_87, aw_5_88, aw_5_89⟩
theorem cw_LH_areAlike_48 : am_cv m_LH_areAlike m_CB_whereRow 187 0 := ⟨⟨ok_CB_whereRow, rfl, by decide +kernel, by decide, by decide⟩, aw_5_91, aw_5_92, aw_5_93⟩
theorem cw_LH_areAlike_52 : am_cv m_LH_areAlike m_CB_whereRow 187 0 := ⟨⟨ok_CB_whereRow, rfl, by decide +kernel, by decide, by decide⟩, aw_5_91, aw_5_92, aw_5_93⟩
theorem cw_LH_areAlike_59 : am_cv m_LH_areAlike m_CB_whereColumn 190 0 := ⟨⟨ok_CB_whereColumn, rfl, by decide +kernel, by decide, by decide⟩, aw_5_95, aw_5_96, aw_5_97⟩
theorem cw_LH_areAlike_63 : am_cv m_LH_areAlike m_CB_whereColumn 190 0 := ⟨⟨ok_CB_whereColumn, rfl, by decide +kernel, by decide, by decide⟩, aw_5_95, aw_5_96, aw_5_97⟩
theorem cw_LH_areAlike_88 : am_sh9 m_LH_areAlike m_LH_rows 193 2 := ⟨ok_LH_rows, ⟨_, rfl⟩, by decide +kernel, by decide, by decide, aw_5_99, aw_5_100⟩
theorem cw_LH_areAlike_93 : am_sh9 m_LH_areAlike m_LH_rows 193 2 := ⟨ok_LH_rows, ⟨_, rfl⟩, by decide +kernel, by decide, by decide, aw_5_99, aw_5_100⟩
theorem cw_LH_areAlike_112 : am_sh9 m_LH_areAlike m_LH_rows 193 2 := ⟨ok_LH_rows, ⟨_, rfl⟩, by decide +kernel, by decide, by decide, aw_5_99, aw_5_100⟩
theorem cw_LH_areAlike_126 : am_cv m_LH_areAlike m_CB_isThere 196 2 := ⟨⟨ok_CB_isThere, rfl, by decide +kernel, by decide, by decide⟩, aw_5_107, aw_5_108, aw_5_109⟩
theorem cw_LH_areAlike_133 : am_cv m_LH_areAlike m_CB_isThere 196 2 := ⟨⟨ok_CB_isThere, rfl, by decide +kernel, by decide, by decide⟩, aw_5_107, aw_5_108, aw_5_109⟩
theorem cw_LH_areAlike_170 : am_sh9 m_LH_areAlike m_LH_sets10 163 8 := ⟨ok_LH_sets10, ⟨_, rfl⟩, by decide +kernel, by decide, by decide, aw_3_221, aw_3_222⟩
theorem cw_LH_areAlike_184 : am_sh9 m_LH_areAlike m_LH_sets10 163 8 := ⟨ok_LH_sets10, ⟨_, rfl⟩, by decide +kernel, by decide, by decide, aw_3_221, aw_3_222⟩
theorem cw_LH_areAlike_229 : am_sh9 m_LH_areAlike m_LH_many 199 3 := ⟨ok_LH_many, ⟨_, rfl⟩, by decide +kernel, by decide, by decide, aw_5_111, aw_5_112⟩
theorem cw_LH_areAlike_235 : am_sh9 m_LH_areAlike m_LH_many 199 3 := ⟨ok_LH_many, ⟨_, rfl⟩, by decide +kernel, by decide, by decide, aw_5_111, aw_5_112⟩
theorem cw_LH_areAlike_244 : am_sh9 m_LH_areAlike m_LH_many 199 3 := ⟨ok_LH_many, ⟨_, rfl⟩, by decide +kernel, by decide, by decide, aw_5_111, aw_5_112⟩
theorem cw_LH_areAlike_250 : am_sh9 m_LH_areAlike m_LH_many 199 3 := ⟨ok_LH_many, ⟨_, rfl⟩, by decide +kernel, by decide, by decide, aw_5_111, aw_5_112⟩
theorem cw_LH_areAlike_261 : am_sh9 m_LH_areAlike m_LH_does 159 5 := ⟨ok_LH_does, ⟨_, rfl⟩, by decide +kernel, by decide, by decide, aw_1_193, aw_1_194⟩
theorem cw_LH_areAlike_269 : am_sh9 m_LH_areAlike m_LH_does 159 5 := ⟨ok_LH_does, ⟨_, rfl⟩, by decide +kernel, by decide, by decide, aw_1_193, aw_1_194⟩
def f_LH_areAlike_195 (K77 : am_M → am_M → Int32 → Int32 → Int32 × am_M × am_M) (K108 : am_M → am_M → Int32 → Int32 → Int32 → Int32 × am_M × am_M) (K148 : am_M → am_M → Int32 → Int32 → Int32 → Int32 → Int32 × am_M × am_M) (s : am_M) (t : am_M) (x2 : Int32) (x3 : Int32) (x4 : Int32) (x5 : Int32) (y0 : Int32) : Int32 × am_M × am_M := (K148 s t y0 x3 x4 (x5 + (1 : Int32)))
def p_LH_areAlike_195 (KP77 : am_M → am_M → Int32 → Int32 → Prop) (KP108 : am_M → am_M → Int32 → Int32 → Int32 → Prop) (KP148 : am_M → am_M → Int32 → Int32 → Int32 → Int32 → Prop) (s : am_M) (t : am_M) (x2 : Int32) (x3 : Int32) (x4 : Int32) (x5 : Int32) (y0 : Int32) : Prop := (KP148 s t y0 x3 x4 (x5 + (1 : Int32)))
set_option maxRecDepth 8000 in
theorem w_LH_areAlike_195 {l : Launch} {g : am_Gl} (hg : g.2.2.2.1 = true) {ad0 : Nat → Nat} {K77 : am_M → am_M → Int32 → Int32 → Int32 × am_M × am_M} {KP77 : am_M → am_M → Int32 → Int32 → Prop} {β77 : Nat} {K108 : am_M → am_M → Int32 → Int32 → Int32 → Int32 × am_M × am_M} {KP108 : am_M → am_M → Int32 → Int32 → Int32 → Prop} {β108 : Nat} {K148 : am_M → am_M → Int32 → Int32 → Int32 → Int32 → Int32 × am_M × am_M} {KP148 : am_M → am_M → Int32 → Int32 → Int32 → Int32 → Prop} {β148 : Nat} (hβ77 : β77 ≤ 4815) (hK77 : ∀ (s : am_M) (t : am_M) (x2 : Int32) (x3 : Int32) (k z : Nat), k ≤ β77 → z ≤ 6 * β77 → KP77 s t x2 x3 → AW l g m_LH_areAlike 414 ad0 (am_oC2 (K77 s t x2 x3)) k z 414 (jn s t) 77 [(0, .ref 0), (1, .ref 207), (2, .int x2), (3, .int x3)] []) (hβ108 : β108 + 0 ≤ β77) (hK108 : ∀ (s : am_M) (t : am_M) (x2 : Int32) (x3 : Int32) (x4 : Int32) (k z : Nat), k ≤ β108 → z ≤ 6 * β108 → KP108 s t x2 x3 x4 → AW l g m_LH_areAlike 414 ad0 (am_oC2 (K108 s t x2 x3 x4)) k z 414 (jn s t) 108 [(0, .ref 0), (1, .ref 207), (2, .int x2), (3, .int x3), (4, .int x4)] []) (hβ148 : β148 + 0 ≤ β108) (hK148 : ∀ (s : am_M) (t : am_M) (x2 : Int32) (x3 : Int32) (x4 : Int32) (x5 : Int32) (k z : Nat), k ≤ β148 → z ≤ 6 * β148 → KP148 s t x2 x3 x4 x5 → AW l g m_LH_areAlike 414 ad0 (am_oC2 (K148 s t x2 x3 x4 x5)) k z 414 (jn s t) 148 [(0, .ref 0), (1, .ref 207), (2, .int x2), (3, .int x3), (4, .int x4), (5, .int x5)] []) {s : am_M} {t : am_M} {x2 : Int32} {x3 : Int32} {x4 : Int32} {x5 : Int32} {y0 : Int32} {k z : Nat} (hk : k + 0 ≤ β148) (hz : z + 0 ≤ 6 * β148) (h : p_LH_areAlike_195 KP77 KP108 KP148 s t x2 x3 x4 x5 y0) : AW l g m_LH_areAlike 414 ad0 (am_oC2 (f_LH_areAlike_195 K77 K108 K148 s t x2 x3 x4 x5 y0)) k z 414 (jn s t) 195 [(0, .ref 0), (1, .ref 207), (2, .int x2), (3, .int x3), (4, .int x4), (5, .int x5)] [.int y0] := by
  refine am_istore_n (lv2 := [(2, .int y0), (0, .ref 0), (1, .ref 207), (3, .int x3), (4, .int x4), (5, .int x5)]) d_LH_areAlike_195 rfl (by decide) rfl ?_
  refine am_iinc (j := 5) (v := (x5 + (1 : Int32))) (lv2 := [(5, .int (x5 + (1 : Int32))), (2, .int y0), (0, .ref 0), (1, .ref 207), (3, .int x3), (4, .int x4)]) d_LH_areAlike_196 rfl rfl (by decide) rfl ?_
  refine am_goto (tgt := 148) d_LH_areAlike_199 (by decide) ?_
  refine am_sub [2, 3, 1, 4, 5, 0] (lv2 := [(0, .ref 0), (1, .ref 207), (2, .int y0), (3, .int x3), (4, .int x4), (5, .int (x5 + (1 : Int32)))]) rfl ?_
  exact hK148 _ _ _ _ _ _ _ _ (by show k ≤ β148; omega) (by show z ≤ 6 * β148; omega) h
def f_LH_areAlike_202 (K77 : am_M → am_M → Int32 → Int32 → Int32 × am_M × am_M) (K108 : am_M → am_M → Int32 → Int32 → Int32 → Int32 × am_M × am_M) (s : am_M) (t : am_M) (x2 : Int32) (x3 : Int32) (x4 : Int32) (x5 : Int32) : Int32 × am_M × am_M := (K108 s t x2 x3 (x4 + (1 : Int32)))
def p_LH_areAlike_202 (KP77 : am_M → am_M → Int32 → Int32 → Prop) (KP108 : am_M → am_M → Int32 → Int32 → Int32 → Prop) (s : am_M) (t : am_M) (x2 : Int32) (x3 : Int32) (x4 : Int32) (x5 : Int32) : Prop := (KP108 s t x2 x3 (x4 + (1 : Int32)))
set_option maxRecDepth 8000 in
theorem w_LH_areAlike_202 {l : Launch} {g : am_Gl} (hg : g.2.2.2.1 = true) {ad0 : Nat → Nat} {K77 : am_M → am_M → Int32 → Int32 → Int32 × am_M × am_M} {KP77 : am_M → am_M → Int32 → Int32 → Prop} {β77 : Nat} {K108 : am_M → am_M → Int32 → Int32 → Int32 → Int32 × am_M × am_M} {KP108 : am_M → am_M → Int32 → Int32 → Int32 → Prop} {β108 : Nat} (hβ77 : β77 ≤ 4815) (hK77 : ∀ (s : am_M) (t : am_M) (x2 : Int32) (x3 : Int32) (k z : Nat), k ≤ β77 → z ≤ 6 * β77 → KP77 s t x2 x3 → AW l g m_LH_areAlike 414 ad0 (am_oC2 (K77 s t x2 x3)) k z 414 (jn s t) 77 [(0, .ref 0), (1, .ref 207), (2, .int x2), (3, .int x3)] []) (hβ108 : β108 + 0 ≤ β77) (hK108 : ∀ (s : am_M) (t : am_M) (x2 : Int32) (x3 : Int32) (x4 : Int32) (k z : Nat), k ≤ β108 → z ≤ 6 * β108 → KP108 s t x2 x3 x4 → AW l g m_LH_areAlike 414 ad0 (am_oC2 (K108 s t x2 x3 x4)) k z 414 (jn s t) 108 [(0, .ref 0), (1, .ref 207), (2, .int x2), (3, .int x3), (4, .int x4)] []) {s : am_M} {t : am_M} {x2 : Int32} {x3 : Int32} {x4 : Int32} {x5 : Int32} {k z : Nat} (hk : k + 0 ≤ β108) (hz : z + 0 ≤ 6 * β108) (h : p_LH_areAlike_202 KP77 KP108 s t x2 x3 x4 x5) : AW l g m_LH_areAlike 414 ad0 (am_oC2 (f_LH_areAlike_202 K77 K108 s t x2 x3 x4 x5)) k z 414 (jn s t) 202 [(0, .ref 0), (1, .ref 207), (2, .int x2), (3, .int x3), (4, .int x4), (5, .int x5)] [] := by
  refine am_iinc (j := 4) (v := (x4 + (1 : Int32))) (lv2 := [(4, .int (x4 + (1 : Int32))), (0, .ref 0), (1, .ref 207), (2, .int x2), (3, .int x3), (5, .int x5)]) d_LH_areAlike_202 rfl rfl (by decide) rfl ?_
  refine am_goto (tgt := 108) d_LH_areAlike_205 (by decide) ?_
  refine am_sub [1, 2, 3, 4, 0] (lv2 := [(0, .ref 0), (1, .ref 207), (2, .int x2), (3, .int x3), (4, .int (x4 + (1 : Int32)))]) rfl ?_
  exact hK108 _ _ _ _ _ _ _ (by show k ≤ β108; omega) (by show z ≤ 6 * β108; omega) h
def f_LH_areAlike_148 (K77 : am_M → am_M → Int32 → Int32 → Int32 × am_M × am_M) (K108 : am_M → am_M → Int32 → Int32 → Int32 → Int32 × am_M × am_M) : Nat → am_M → am_M → Int32 → Int32 → Int32 → Int32 → Int32 × am_M × am_M
  | 0, s, t, x2, x3, x4, x5 => (0, s, t)
  | n + 1, s, t, x2, x3, x4, x5 => (if (6 : Int32) ≤ x5 then (f_LH_areAlike_202 K77 K108 s t x2 x3 x4 x5) else (if x2 = 0 then (f_LH_areAlike_202 K77 K108 s t x2 x3 x4 x5) else (if (f_LH_sets10 s x3 x4 x5 (0 : Int32) (0 : Int32) (0 : Int32)).1 = (f_LH_sets10 t x3 x4 x5 (0 : Int32) (0 : Int32) (0 : Int32)).1 then (f_LH_areAlike_195 K77 K108 (f_LH_areAlike_148 K77 K108 n) (f_LH_sets10 s x3 x4 x5 (0 : Int32) (0 : Int32) (0 : Int32)).2 (f_LH_sets10 t x3 x4 x5 (0 : Int32) (0 : Int32) (0 : Int32)).2 x2 x3 x4 x5 (1 : Int32)) else (f_LH_areAlike_195 K77 K108 (f_LH_areAlike_148 K77 K108 n) (f_LH_sets10 s x3 x4 x5 (0 : Int32) (0 : Int32) (0 : Int32)).2 (f_LH_sets10 t x3 x4 x5 (0 : Int32) (0 : Int32) (0 : Int32)).2 x2 x3 x4 x5 (0 : Int32)))))
def p_LH_areAlike_148 (KP77 : am_M → am_M → Int32 → Int32 → Prop) (KP108 : am_M → am_M → Int32 → Int32 → Int32 → Prop) : Nat → am_M → am_M → Int32 → Int32 → Int32 → Int32 → Prop
  | 0, s, t, x2, x3, x4, x5 => False
  | n + 1, s, t, x2, x3, x4, x5 => (((6 : Int32) ≤ x5) → (p_LH_areAlike_202 KP77 KP108 s t x2 x3 x4 x5)) ∧ (¬ ((6 : Int32) ≤ x5) → ((x2 = 0) → (p_LH_areAlike_202 KP77 KP108 s t x2 x3 x4 x5)) ∧ (¬ (x2 = 0) → p_LH_sets10 s x3 x4 x5 (0 : Int32) (0 : Int32) (0 : Int32) ∧ (p_LH_sets10 t x3 x4 x5 (0 : Int32) (0 : Int32) (0 : Int32) ∧ ((((f_LH_sets10 s x3 x4 x5 (0 : Int32) (0 : Int32) (0 : Int32)).1 = (f_LH_sets10 t x3 x4 x5 (0 : Int32) (0 : Int32) (0 : Int32)).1) → (p_LH_areAlike_195 KP77 KP108 (p_LH_areAlike_148 KP77 KP108 n) (f_LH_sets10 s x3 x4 x5 (0 : Int32) (0 : Int32) (0 : Int32)).2 (f_LH_sets10 t x3 x4 x5 (0 : Int32) (0 : Int32) (0 : Int32)).2 x2 x3 x4 x5 (1 : Int32))) ∧ (¬ ((f_LH_sets10 s x3 x4 x5 (0 : Int32) (0 : Int32) (0 : Int32)).1 = (f_LH_sets10 t x3 x4 x5 (0 : Int32) (0 : Int32) (0 : Int32)).1) → (p_LH_areAlike_195 KP77 KP108 (p_LH_areAlike_148 KP77 KP108 n) (f_LH_sets10 s x3 x4 x5 (0 : Int32) (0 : Int32) (0 : Int32)).2 (f_LH_sets10 t x3 x4 x5 (0 : Int32) (0 : Int32) (0 : Int32)).2 x2 x3 x4 x5 (0 : Int32)))))))
set_option maxRecDepth 8000 in
theorem w_LH_areAlike_148 {l : Launch} {g : am_Gl} (hg : g.2.2.2.1 = true) {ad0 : Nat → Nat} {K77 : am_M → am_M → Int32 → Int32 → Int32 × am_M × am_M} {KP77 : am_M → am_M → Int32 → Int32 → Prop} {β77 : Nat} {K108 : am_M → am_M → Int32 → Int32 → Int32 → Int32 × am_M × am_M} {KP108 : am_M → am_M → Int32 → Int32 → Int32 → Prop} {β108 : Nat} (hβ77 : β77 ≤ 4815) (hK77 : ∀ (s : am_M) (t : am_M) (x2 : Int32) (x3 : Int32) (k z : Nat), k ≤ β77 → z ≤ 6 * β77 → KP77 s t x2 x3 → AW l g m_LH_areAlike 414 ad0 (am_oC2 (K77 s t x2 x3)) k z 414 (jn s t) 77 [(0, .ref 0), (1, .ref 207), (2, .int x2), (3, .int x3)] []) (hβ108 : β108 + 0 ≤ β77) (hK108 : ∀ (s : am_M) (t : am_M) (x2 : Int32) (x3 : Int32) (x4 : Int32) (k z : Nat), k ≤ β108 → z ≤ 6 * β108 → KP108 s t x2 x3 x4 → AW l g m_LH_areAlike 414 ad0 (am_oC2 (K108 s t x2 x3 x4)) k z 414 (jn s t) 108 [(0, .ref 0), (1, .ref 207), (2, .int x2), (3, .int x3), (4, .int x4)] []) : ∀ (n : Nat) (s : am_M) (t : am_M) (x2 : Int32) (x3 : Int32) (x4 : Int32) (x5 : Int32) (k z : Nat), k + 4 * n + 0 ≤ β108 → z + 24 * n + 0 ≤ 6 * β108 → p_LH_areAlike_148 KP77 KP108 n s t x2 x3 x4 x5 → AW l g m_LH_areAlike 414 ad0 (am_oC2 (f_LH_areAlike_148 K77 K108 n s t x2 x3 x4 x5)) k z 414 (jn s t) 148 [(0, .ref 0), (1, .ref 207), (2, .int x2), (3, .int x3), (4, .int x4), (5, .int x5)] [] := by
  intro n
  induction n with
  | zero => intro s t x2 x3 x4 x5 k z _ _ h; exact h.elim
  | succ n ih =>
    intro s t x2 x3 x4 x5 k z hk hz h
    obtain ⟨β148, hb148⟩ : ∃ b, b + 4 * n + 0 = β108 := ⟨β108 - (4 * n + 0), by omega⟩
    have hβ148 : β148 + 0 ≤ β108 := by omega
    have hK148 : ∀ (s : am_M) (t : am_M) (x2 : Int32) (x3 : Int32) (x4 : Int32) (x5 : Int32) (k z : Nat), k ≤ β148 → z ≤ 6 * β148 → (p_LH_areAlike_148 KP77 KP108 n) s t x2 x3 x4 x5 → AW l g m_LH_areAlike 414 ad0 (am_oC2 ((f_LH_areAlike_148 K77 K108 n) s t x2 x3 x4 x5)) k z 414 (jn s t) 148 [(0, .ref 0), (1, .ref 207), (2, .int x2), (3, .int x3), (4, .int x4), (5, .int x5)] [] := fun s t x2 x3 x4 x5 k z h1 h2 h3 => ih s t x2 x3 x4 x5 k z (by omega) (by omega) h3
    refine am_iload (j := 5) d_LH_areAlike_148 rfl ?_
    refine am_bipush (v := (6 : Int32)) d_LH_areAlike_150 (by decide) ?_
    refine aj_ge (F := am_oC2) (tgt := 202) d_LH_areAlike_152 (by decide) (fun c => ?_) (fun c => ?_)
    · have h := h.1 c
      exact w_LH_areAlike_202 hg hβ77 hK77 hβ108 hK108 (by show k + 0 ≤ β108; omega) (by show z + 0 ≤ 6 * β108; omega) h
    · have h := h.2 c
      refine am_iload_n (j := 2) d_LH_areAlike_155 rfl rfl ?_
      refine ai_eq (F := am_oC2) (tgt := 202) d_LH_areAlike_156 (by decide) (fun c => ?_) (fun c => ?_)
      · have h := h.1 c
        exact w_LH_areAlike_202 hg hβ77 hK77 hβ108 hK108 (by show k + 0 ≤ β108; omega) (by show z + 0 ≤ 6 * β108; omega) h
      · have h := h.2 c
        refine am_aload_n (j := 0) d_LH_areAlike_159 rfl rfl ?_
        refine am_bipush (v := (10 : Int32)) d_LH_areAlike_160 (by decide) ?_
        refine am_iload_n (j := 3) d_LH_areAlike_162 rfl rfl ?_
        refine am_iload (j := 4) d_LH_areAlike_163 rfl ?_
        refine am_iload (j := 5) d_LH_areAlike_165 rfl ?_
        refine am_iconst (v := (0 : Int32)) d_LH_areAlike_167 (by decide) ?_
        refine am_iconst (v := (0 : Int32)) d_LH_areAlike_168 (by decide) ?_
        refine am_iconst (v := (0 : Int32)) d_LH_areAlike_169 (by decide) ?_
        obtain ⟨hc, h⟩ := h
        refine ak9_SX (as := [.ref 0, .int (10 : Int32), .int x3, .int x4, .int x5, .int (0 : Int32), .int (0 : Int32), .int (0 : Int32)]) (rest := []) d_LH_areAlike_170 cw_LH_areAlike_170 rfl (am_2O hg rfl (fun _ => am_1C (ct_LH_sets10 hg hc))) rfl rfl (Nat.le_of_ble_eq_true rfl) (by show k + 2 ≤ 4923; omega) (by show z + 12 ≤ 29538; omega) ?_
        refine am_aload_n (j := 1) d_LH_areAlike_173 rfl rfl ?_
        refine am_bipush (v := (10 : Int32)) d_LH_areAlike_174 (by decide) ?_
        refine am_iload_n (j := 3) d_LH_areAlike_176 rfl rfl ?_
        refine am_iload (j := 4) d_LH_areAlike_177 rfl ?_
        refine am_iload (j := 5) d_LH_areAlike_179 rfl ?_
        refine am_iconst (v := (0 : Int32)) d_LH_areAlike_181 (by decide) ?_
        refine am_iconst (v := (0 : Int32)) d_LH_areAlike_182 (by decide) ?_
        refine am_iconst (v := (0 : Int32)) d_LH_areAlike_183 (by decide) ?_
        obtain ⟨hc, h⟩ := h
        refine ak9_SX (as := [.ref 207, .int (10 : Int32), .int x3, .int x4, .int x5, .int (0 : Int32), .int (0 : Int32), .int (0 : Int32)]) (rest := [.int (f_LH_sets10 s x3 x4 x5 (0 : Int32) (0 : Int32) (0 : Int32)).1]) d_LH_areAlike_184 cw_LH_areAlike_184 rfl (am_2P (av1 := [.ref 0, .int (10 : Int32), .int x3, .int x4, .int x5, .int (0 : Int32), .int (0 : Int32), .int (0 : Int32)]) hg rfl (fun _ => rfl) (fun _ => am_1C (ct_LH_sets10 hg hc))) rfl rfl (Nat.le_of_ble_eq_true rfl) (by show k + 2 + 2 ≤ 4923; omega) (by show z + 12 + 12 ≤ 29538; omega) ?_
        refine aj_ne (F := am_oC2) (tgt := 194) d_LH_areAlike_187 (by decide) (fun c => ?_) (fun c => ?_)
        · have h := h.2 c
          refine am_iconst (v := (0 : Int32)) d_LH_areAlike_194 (by decide) ?_
          exact w_LH_areAlike_195 hg hβ77 hK77 hβ108 hK108 hβ148 hK148 (by show k + 2 + 2 + 0 ≤ β148; omega) (by show z + 12 + 12 + 0 ≤ 6 * β148; omega) h
        · have h := h.1 c
          refine am_iconst (v := (1 : Int32)) d_LH_areAlike_190 (by decide) ?_
          refine am_goto (tgt := 195) d_LH_areAlike_191 (by decide) ?_
          exact w_LH_areAlike_195 hg hβ77 hK77 hβ108 hK108 hβ148 hK148 (by show k + 2 + 2 + 0 ≤ β148; omega) (by show z + 12 + 12 + 0 ≤ 6 * β148; omega) h
def f_LH_areAlike_144 (K77 : am_M → am_M → Int32 → Int32 → Int32 × am_M × am_M) (K108 : am_M → am_M → Int32 → Int32 → Int32 → Int32 × am_M × am_M) (s : am_M) (t : am_M) (x2 : Int32) (x3 : Int32) (x4 : Int32) (y0 : Int32) : Int32 × am_M × am_M := (f_LH_areAlike_148 K77 K108 7 s t y0 x3 x4 (0 : Int32))
def p_LH_areAlike_144 (KP77 : am_M → am_M → Int32 → Int32 → Prop) (KP108 : am_M → am_M → Int32 → Int32 → Int32 → Prop) (s : am_M) (t : am_M) (x2 : Int32) (x3 : Int32) (x4 : Int32) (y0 : Int32) : Prop := (p_LH_areAlike_148 KP77 KP108 7 s t y0 x3 x4 (0 : Int32))
set_option maxRecDepth 8000 in
theorem w_LH_areAlike_144 {l : Launch} {g : am_Gl} (hg : g.2.2.2.1 = true) {ad0 : Nat → Nat} {K77 : am_M → am_M → Int32 → Int32 → Int32 × am_M × am_M} {KP77 : am_M → am_M → Int32 → Int32 → Prop} {β77 : Nat} {K108 : am_M → am_M → Int32 → Int32 → Int32 → Int32 × am_M × am_M} {KP108 : am_M → am_M → Int32 → Int32 → Int32 → Prop} {β108 : Nat} (hβ77 : β77 ≤ 4815) (hK77 : ∀ (s : am_M) (t : am_M) (x2 : Int32) (x3 : Int32) (k z : Nat), k ≤ β77 → z ≤ 6 * β77 → KP77 s t x2 x3 → AW l g m_LH_areAlike 414 ad0 (am_oC2 (K77 s t x2 x3)) k z 414 (jn s t) 77 [(0, .ref 0), (1, .ref 207), (2, .int x2), (3, .int x3)] []) (hβ108 : β108 + 0 ≤ β77) (hK108 : ∀ (s : am_M) (t : am_M) (x2 : Int32) (x3 : Int32) (x4 : Int32) (k z : Nat), k ≤ β108 → z ≤ 6 * β108 → KP108 s t x2 x3 x4 → AW l g m_LH_areAlike 414 ad0 (am_oC2 (K108 s t x2 x3 x4)) k z 414 (jn s t) 108 [(0, .ref 0), (1, .ref 207), (2, .int x2), (3, .int x3), (4, .int x4)] []) {s : am_M} {t : am_M} {x2 : Int32} {x3 : Int32} {x4 : Int32} {y0 : Int32} {k z : Nat} (hk : k + 28 ≤ β108) (hz : z + 168 ≤ 6 * β108) (h : p_LH_areAlike_144 KP77 KP108 s t x2 x3 x4 y0) : AW l g m_LH_areAlike 414 ad0 (am_oC2 (f_LH_areAlike_144 K77 K108 s t x2 x3 x4 y0)) k z 414 (jn s t) 144 [(0, .ref 0), (1, .ref 207), (2, .int x2), (3, .int x3), (4, .int x4)] [.int y0] := by
  refine am_istore_n (lv2 := [(2, .int y0), (0, .ref 0), (1, .ref 207), (3, .int x3), (4, .int x4)]) d_LH_areAlike_144 rfl (by decide) rfl ?_
  refine am_iconst (v := (0 : Int32)) d_LH_areAlike_145 (by decide) ?_
  refine am_istore (lv2 := [(5, .int (0 : Int32)), (2, .int y0), (0, .ref 0), (1, .ref 207), (3, .int x3), (4, .int x4)]) d_LH_areAlike_146 (by decide) rfl ?_
  refine am_sub [2, 3, 1, 4, 5, 0] (lv2 := [(0, .ref 0), (1, .ref 207), (2, .int y0), (3, .int x3), (4, .int x4), (5, .int (0 : Int32))]) rfl ?_
  exact w_LH_areAlike_148 hg hβ77 hK77 hβ108 hK108 7 _ _ _ _ _ _ _ _ (by show k + 4 * 7 + 0 ≤ β108; omega) (by show z + 24 * 7 + 0 ≤ 6 * β108; omega) h
def f_LH_areAlike_208 (K77 : am_M → am_M → Int32 → Int32 → Int32 × am_M × am_M) (s : am_M) (t : am_M) (x2 : Int32) (x3 : Int32) (x4 : Int32) : Int32 × am_M × am_M := (K77 s t x2 (x3 + (1 : Int32)))
def p_LH_areAlike_208 (KP77 : am_M → am_M → Int32 → Int32 → Prop) (s : am_M) (t : am_M) (x2 : Int32) (x3 : Int32) (x4 : Int32) : Prop := (KP77 s t x2 (x3 + (1 : Int32)))
set_option maxRecDepth 8000 in
theorem w_LH_areAlike_208 {l : Launch} {g : am_Gl} (hg : g.2.2.2.1 = true) {ad0 : Nat → Nat} {K77 : am_M → am_M → Int32 → Int32 → Int32 × am_M × am_M} {KP77 : am_M → am_M → Int32 → Int32 → Prop} {β77 : Nat} (hβ77 : β77 ≤ 4815) (hK77 : ∀ (s : am_M) (t : am_M) (x2 : Int32) (x3 : Int32) (k z : Nat), k ≤ β77 → z ≤ 6 * β77 → KP77 s t x2 x3 → AW l g m_LH_areAlike 414 ad0 (am_oC2 (K77 s t x2 x3)) k z 414 (jn s t) 77 [(0, .ref 0), (1, .ref 207), (2, .int x2), (3, .int x3)] []) {s : am_M} {t : am_M} {x2 : Int32} {x3 : Int32} {x4 : Int32} {k z : Nat} (hk : k + 0 ≤ β77) (hz : z + 0 ≤ 6 * β77) (h : p_LH_areAlike_208 KP77 s t x2 x3 x4) : AW l g m_LH_areAlike 414 ad0 (am_oC2 (f_LH_areAlike_208 K77 s t x2 x3 x4)) k z 414 (jn s t) 208 [(0, .ref 0), (1, .ref 207), (2, .int x2), (3, .int x3), (4, .int x4)] [] := by
  refine am_iinc (j := 3) (v := (x3 + (1 : Int32))) (lv2 := [(3, .int (x3 + (1 : Int32))), (0, .ref 0), (1, .ref 207), (2, .int x2), (4, .int x4)]) d_LH_areAlike_208 rfl rfl (by decide) rfl ?_
  refine am_goto (tgt := 77) d_LH_areAlike_211 (by decide) ?_
  refine am_sub [1, 2, 3, 0] (lv2 := [(0, .ref 0), (1, .ref 207), (2, .int x2), (3, .int (x3 + (1 : Int32)))]) rfl ?_
  exact hK77 _ _ _ _ _ _ (by show k ≤ β77; omega) (by show z ≤ 6 * β77; omega) h
def f_LH_areAlike_108 (K77 : am_M → am_M → Int32 → Int32 → Int32 × am_M × am_M) : Nat → am_M → am_M → Int32 → Int32 → Int32 → Int32 × am_M × am_M
  | 0, s, t, x2, x3, x4 => (0, s, t)
  | n + 1, s, t, x2, x3, x4 => (if (f_LH_rows s x3) ≤ x4 then (f_LH_areAlike_208 K77 s t x2 x3 x4) else (if x2 = 0 then (f_LH_areAlike_208 K77 s t x2 x3 x4) else (if (f_CB_isThere s x3 x4).2.1 = (f_CB_isThere t x3 x4).2.1 then (f_LH_areAlike_144 K77 (f_LH_areAlike_108 K77 n) (f_CB_isThere s x3 x4).2.2 (f_CB_isThere t x3 x4).2.2 x2 x3 x4 (1 : Int32)) else (f_LH_areAlike_144 K77 (f_LH_areAlike_108 K77 n) (f_CB_isThere s x3 x4).2.2 (f_CB_isThere t x3 x4).2.2 x2 x3 x4 (0 : Int32)))))
def p_LH_areAlike_108 (KP77 : am_M → am_M → Int32 → Int32 → Prop) : Nat → am_M → am_M → Int32 → Int32 → Int32 → Prop
  | 0, s, t, x2, x3, x4 => False
  | n + 1, s, t, x2, x3, x4 => p_LH_rows s x3 ∧ ((((f_LH_rows s x3) ≤ x4) → (p_LH_areAlike_208 KP77 s t x2 x3 x4)) ∧ (¬ ((f_LH_rows s x3) ≤ x4) → ((x2 = 0) → (p_LH_areAlike_208 KP77 s t x2 x3 x4)) ∧ (¬ (x2 = 0) → p_CB_isThere s x3 x4 ∧ ((f_CB_isThere s x3 x4).1 = 0 ∧ (p_CB_isThere t x3 x4 ∧ ((f_CB_isThere t x3 x4).1 = 0 ∧ ((((f_CB_isThere s x3 x4).2.1 = (f_CB_isThere t x3 x4).2.1) → (p_LH_areAlike_144 KP77 (p_LH_areAlike_108 KP77 n) (f_CB_isThere s x3 x4).2.2 (f_CB_isThere t x3 x4).2.2 x2 x3 x4 (1 : Int32))) ∧ (¬ ((f_CB_isThere s x3 x4).2.1 = (f_CB_isThere t x3 x4).2.1) → (p_LH_areAlike_144 KP77 (p_LH_areAlike_108 KP77 n) (f_CB_isThere s x3 x4).2.2 (f_CB_isThere t x3 x4).2.2 x2 x3 x4 (0 : Int32))))))))))
set_option maxRecDepth 8000 in
theorem w_LH_areAlike_108 {l : Launch} {g : am_Gl} (hg : g.2.2.2.1 = true) {ad0 : Nat → Nat} {K77 : am_M → am_M → Int32 → Int32 → Int32 × am_M × am_M} {KP77 : am_M → am_M → Int32 → Int32 → Prop} {β77 : Nat} (hβ77 : β77 ≤ 4815) (hK77 : ∀ (s : am_M) (t : am_M) (x2 : Int32) (x3 : Int32) (k z : Nat), k ≤ β77 → z ≤ 6 * β77 → KP77 s t x2 x3 → AW l g m_LH_areAlike 414 ad0 (am_oC2 (K77 s t x2 x3)) k z 414 (jn s t) 77 [(0, .ref 0), (1, .ref 207), (2, .int x2), (3, .int x3)] []) : ∀ (n : Nat) (s : am_M) (t : am_M) (x2 : Int32) (x3 : Int32) (x4 : Int32) (k z : Nat), k + 31 * n + 0 ≤ β77 → z + 186 * n + 0 ≤ 6 * β77 → p_LH_areAlike_108 KP77 n s t x2 x3 x4 → AW l g m_LH_areAlike 414 ad0 (am_oC2 (f_LH_areAlike_108 K77 n s t x2 x3 x4)) k z 414 (jn s t) 108 [(0, .ref 0), (1, .ref 207), (2, .int x2), (3, .int x3), (4, .int x4)] [] := by
  intro n
  induction n with
  | zero => intro s t x2 x3 x4 k z _ _ h; exact h.elim
  | succ n ih =>
    intro s t x2 x3 x4 k z hk hz h
    obtain ⟨β108, hb108⟩ : ∃ b, b + 31 * n + 0 = β77 := ⟨β77 - (31 * n + 0), by omega⟩
    have hβ108 : β108 + 0 ≤ β77 := by omega
    have hK108 : ∀ (s : am_M) (t : am_M) (x2 : Int32) (x3 : Int32) (x4 : Int32) (k z : Nat), k ≤ β108 → z ≤ 6 * β108 → (p_LH_areAlike_108 KP77 n) s t x2 x3 x4 → AW l g m_LH_areAlike 414 ad0 (am_oC2 ((f_LH_areAlike_108 K77 n) s t x2 x3 x4)) k z 414 (jn s t) 108 [(0, .ref 0), (1, .ref 207), (2, .int x2), (3, .int x3), (4, .int x4)] [] := fun s t x2 x3 x4 k z h1 h2 h3 => ih s t x2 x3 x4 k z (by omega) (by omega) h3
    refine am_iload (j := 4) d_LH_areAlike_108 rfl ?_
    refine am_aload_n (j := 0) d_LH_areAlike_110 rfl rfl ?_
    refine am_iload_n (j := 3) d_LH_areAlike_111 rfl rfl ?_
    obtain ⟨hc, h⟩ := h
    refine ak9_SX (as := [.ref 0, .int x3]) (rest := [.int x4]) d_LH_areAlike_112 cw_LH_areAlike_112 rfl (am_2O hg rfl (fun _ => am_1I (ct_LH_rows hg hc))) rfl rfl (Nat.le_of_ble_eq_true rfl) (by show k + 1 ≤ 4923; omega) (by show z + 6 ≤ 29538; omega) ?_
    refine aj_ge (F := am_oC2) (tgt := 208) d_LH_areAlike_115 (by decide) (fun c => ?_) (fun c => ?_)
    · have h := h.1 c
      exact w_LH_areAlike_208 hg hβ77 hK77 (by show k + 1 + 0 ≤ β77; omega) (by show z + 6 + 0 ≤ 6 * β77; omega) h
    · have h := h.2 c
      refine am_iload_n (j := 2) d_LH_areAlike_118 rfl rfl ?_
      refine ai_eq (F := am_oC2) (tgt := 208) d_LH_areAlike_119 (by decide) (fun c => ?_) (fun c => ?_)
      · have h := h.1 c
        exact w_LH_areAlike_208 hg hβ77 hK77 (by show k + 1 + 0 ≤ β77; omega) (by show z + 6 + 0 ≤ 6 * β77; omega) h
      · have h := h.2 c
        refine am_aload_n (j := 0) d_LH_areAlike_122 rfl rfl ?_
        refine am_iload_n (j := 3) d_LH_areAlike_123 rfl rfl ?_
        refine am_iload (j := 4) d_LH_areAlike_124 rfl ?_
        obtain ⟨hc, h⟩ := h
        obtain ⟨h0, h⟩ := h
        refine ak9_VX (as := [.int x3, .int x4]) (rest := []) d_LH_areAlike_126 cw_LH_areAlike_126 rfl (am_2O hg rfl (fun _ => am_1E h0 (ct_CB_isThere hg hc))) rfl rfl rc_1 (Nat.le_of_ble_eq_true rfl) (by show k + 1 + 1 ≤ 4923; omega) (by show z + 6 + 6 ≤ 29538; omega) ?_
        refine am_aload_n (j := 1) d_LH_areAlike_129 rfl rfl ?_
        refine am_iload_n (j := 3) d_LH_areAlike_130 rfl rfl ?_
        refine am_iload (j := 4) d_LH_areAlike_131 rfl ?_
        obtain ⟨hc, h⟩ := h
        obtain ⟨h0, h⟩ := h
        refine ak9_VX (as := [.int x3, .int x4]) (rest := [.int (f_CB_isThere s x3 x4).2.1]) d_LH_areAlike_133 cw_LH_areAlike_133 rfl (am_2P (av1 := [.ref 0, .int x3, .int x4]) hg rfl (fun _ => rfl) (fun _ => am_1E h0 (ct_CB_isThere hg hc))) rfl rfl rc_2 (Nat.le_of_ble_eq_true rfl) (by show k + 1 + 1 + 1 ≤ 4923; omega) (by show z + 6 + 6 + 6 ≤ 29538; omega) ?_
        refine aj_ne (F := am_oC2) (tgt := 143) d_LH_areAlike_136 (by decide) (fun c => ?_) (fun c => ?_)
        · have h := h.2 c
          refine am_iconst (v := (0 : Int32)) d_LH_areAlike_143 (by decide) ?_
          exact w_LH_areAlike_144 hg hβ77 hK77 hβ108 hK108 (by show k + 1 + 1 + 1 + 28 ≤ β108; omega) (by show z + 6 + 6 + 6 + 168 ≤ 6 * β108; omega) h
        · have h := h.1 c
          refine am_iconst (v := (1 : Int32)) d_LH_areAlike_139 (by decide) ?_
          refine am_goto (tgt := 144) d_LH_areAlike_140 (by decide) ?_
          exact w_LH_areAlike_144 hg hβ77 hK77 hβ108 hK108 (by show k + 1 + 1 + 1 + 28 ≤ β108; omega) (by show z + 6 + 6 + 6 + 168 ≤ 6 * β108; omega) h
def f_LH_areAlike_104 (K77 : am_M → am_M → Int32 → Int32 → Int32 × am_M × am_M) (s : am_M) (t : am_M) (x2 : Int32) (x3 : Int32) (y0 : Int32) : Int32 × am_M × am_M := (f_LH_areAlike_108 K77 31 s t y0 x3 (0 : Int32))
def p_LH_areAlike_104 (KP77 : am_M → am_M → Int32 → Int32 → Prop) (s : am_M) (t : am_M) (x2 : Int32) (x3 : Int32) (y0 : Int32) : Prop := (p_LH_areAlike_108 KP77 31 s t y0 x3 (0 : Int32))
set_option maxRecDepth 8000 in
theorem w_LH_areAlike_104 {l : Launch} {g : am_Gl} (hg : g.2.2.2.1 = true) {ad0 : Nat → Nat} {K77 : am_M → am_M → Int32 → Int32 → Int32 × am_M × am_M} {KP77 : am_M → am_M → Int32 → Int32 → Prop} {β77 : Nat} (hβ77 : β77 ≤ 4815) (hK77 : ∀ (s : am_M) (t : am_M) (x2 : Int32) (x3 : Int32) (k z : Nat), k ≤ β77 → z ≤ 6 * β77 → KP77 s t x2 x3 → AW l g m_LH_areAlike 414 ad0 (am_oC2 (K77 s t x2 x3)) k z 414 (jn s t) 77 [(0, .ref 0), (1, .ref 207), (2, .int x2), (3, .int x3)] []) {s : am_M} {t : am_M} {x2 : Int32} {x3 : Int32} {y0 : Int32} {k z : Nat} (hk : k + 961 ≤ β77) (hz : z + 5766 ≤ 6 * β77) (h : p_LH_areAlike_104 KP77 s t x2 x3 y0) : AW l g m_LH_areAlike 414 ad0 (am_oC2 (f_LH_areAlike_104 K77 s t x2 x3 y0)) k z 414 (jn s t) 104 [(0, .ref 0), (1, .ref 207), (2, .int x2), (3, .int x3)] [.int y0] := by
  refine am_istore_n (lv2 := [(2, .int y0), (0, .ref 0), (1, .ref 207), (3, .int x3)]) d_LH_areAlike_104 rfl (by decide) rfl ?_
  refine am_iconst (v := (0 : Int32)) d_LH_areAlike_105 (by decide) ?_
  refine am_istore (lv2 := [(4, .int (0 : Int32)), (2, .int y0), (0, .ref 0), (1, .ref 207), (3, .int x3)]) d_LH_areAlike_106 (by decide) rfl ?_
  refine am_sub [2, 3, 1, 4, 0] (lv2 := [(0, .ref 0), (1, .ref 207), (2, .int y0), (3, .int x3), (4, .int (0 : Int32))]) rfl ?_
  exact w_LH_areAlike_108 hg hβ77 hK77 31 _ _ _ _ _ _ _ (by show k + 31 * 31 + 0 ≤ β77; omega) (by show z + 186 * 31 + 0 ≤ 6 * β77; omega) h
def f_LH_areAlike_280 (K216 : am_M → am_M → Int32 → Int32 → Int32 × am_M × am_M) (s : am_M) (t : am_M) (x2 : Int32) (x3 : Int32) (y0 : Int32) : Int32 × am_M × am_M := (K216 s t y0 (x3 + (1 : Int32)))
def p_LH_areAlike_280 (KP216 : am_M → am_M → Int32 → Int32 → Prop) (s : am_M) (t : am_M) (x2 : Int32) (x3 : Int32) (y0 : Int32) : Prop := (KP216 s t y0 (x3 + (1 : Int32)))
set_option maxRecDepth 8000 in
theorem w_LH_areAlike_280 {l : Launch} {g : am_Gl} (hg : g.2.2.2.1 = true) {ad0 : Nat → Nat} {K216 : am_M → am_M → Int32 → Int32 → Int32 × am_M × am_M} {KP216 : am_M → am_M → Int32 → Int32 → Prop} {β216 : Nat} (hβ216 : β216 ≤ 4923) (hK216 : ∀ (s : am_M) (t : am_M) (x2 : Int32) (x3 : Int32) (k z : Nat), k ≤ β216 → z ≤ 6 * β216 → KP216 s t x2 x3 → AW l g m_LH_areAlike 414 ad0 (am_oC2 (K216 s t x2 x3)) k z 414 (jn s t) 216 [(0, .ref 0), (1, .ref 207), (2, .int x2), (3, .int x3)] []) {s : am_M} {t : am_M} {x2 : Int32} {x3 : Int32} {y0 : Int32} {k z : Nat} (hk : k + 0 ≤ β216) (hz : z + 0 ≤ 6 * β216) (h : p_LH_areAlike_280 KP216 s t x2 x3 y0) : AW l g m_LH_areAlike 414 ad0 (am_oC2 (f_LH_areAlike_280 K216 s t x2 x3 y0)) k z 414 (jn s t) 280 [(0, .ref 0), (1, .ref 207), (2, .int x2), (3, .int x3)] [.int y0] := by
  refine am_istore_n (lv2 := [(2, .int y0), (0, .ref 0), (1, .ref 207), (3, .int x3)]) d_LH_areAlike_280 rfl (by decide) rfl ?_
  refine am_iinc (j := 3) (v := (x3 + (1 : Int32))) (lv2 := [(3, .int (x3 + (1 : Int32))), (2, .int y0), (0, .ref 0), (1, .ref 207)]) d_LH_areAlike_281 rfl rfl (by decide) rfl ?_
  refine am_goto (tgt := 216) d_LH_areAlike_284 (by decide) ?_
  refine am_sub [2, 3, 1, 0] (lv2 := [(0, .ref 0), (1, .ref 207), (2, .int y0), (3, .int (x3 + (1 : Int32)))]) rfl ?_
  exact hK216 _ _ _ _ _ _ (by show k ≤ β216; omega) (by show z ≤ 6 * β216; omega) h
def f_LH_areAlike_279 (K216 : am_M → am_M → Int32 → Int32 → Int32 × am_M × am_M) (s : am_M) (t : am_M) (x2 : Int32) (x3 : Int32) : Int32 × am_M × am_M := (f_LH_areAlike_280 K216 s t x2 x3 (0 : Int32))
def p_LH_areAlike_279 (KP216 : am_M → am_M → Int32 → Int32 → Prop) (s : am_M) (t : am_M) (x2 : Int32) (x3 : Int32) : Prop := (p_LH_areAlike_280 KP216 s t x2 x3 (0 : Int32))
set_option maxRecDepth 8000 in
theorem w_LH_areAlike_279 {l : Launch} {g : am_Gl} (hg : g.2.2.2.1 = true) {ad0 : Nat → Nat} {K216 : am_M → am_M → Int32 → Int32 → Int32 × am_M × am_M} {KP216 : am_M → am_M → Int32 → Int32 → Prop} {β216 : Nat} (hβ216 : β216 ≤ 4923) (hK216 : ∀ (s : am_M) (t : am_M) (x2 : Int32) (x3 : Int32) (k z : Nat), k ≤ β216 → z ≤ 6 * β216 → KP216 s t x2 x3 → AW l g m_LH_areAlike 414 ad0 (am_oC2 (K216 s t x2 x3)) k z 414 (jn s t) 216 [(0, .ref 0), (1, .ref 207), (2, .int x2), (3, .int x3)] []) {s : am_M} {t : am_M} {x2 : Int32} {x3 : Int32} {k z : Nat} (hk : k + 0 ≤ β216) (hz : z + 0 ≤ 6 * β216) (h : p_LH_areAlike_279 KP216 s t x2 x3) : AW l g m_LH_areAlike 414 ad0 (am_oC2 (f_LH_areAlike_279 K216 s t x2 x3)) k z 414 (jn s t) 279 [(0, .ref 0), (1, .ref 207), (2, .int x2), (3, .int x3)] [] := by
  refine am_iconst (v := (0 : Int32)) d_LH_areAlike_279 (by decide) ?_
  exact w_LH_areAlike_280 hg hβ216 hK216 (by show k + 0 ≤ β216; omega) (by show z + 0 ≤ 6 * β216; omega) h
def f_LH_areAlike_216  : Nat → am_M → am_M → Int32 → Int32 → Int32 × am_M × am_M
  | 0, s, t, x2, x3 => (0, s, t)
  | n + 1, s, t, x2, x3 => (if (8 : Int32) ≤ x3 then (x2, s, t) else (if x2 = 0 then (x2, s, t) else (if (f_LH_many s (0 : Int32) x3).1 = (f_LH_many t (0 : Int32) x3).1 then (if (f_LH_many (f_LH_many s (0 : Int32) x3).2 (1 : Int32) x3).1 = (f_LH_many (f_LH_many t (0 : Int32) x3).2 (1 : Int32) x3).1 then (if (f_LH_does (f_LH_many (f_LH_many s (0 : Int32) x3).2 (1 : Int32) x3).2 (4 : Int32) x3 (0 : Int32) (0 : Int32)).1 = (f_LH_does (f_LH_many (f_LH_many t (0 : Int32) x3).2 (1 : Int32) x3).2 (4 : Int32) x3 (0 : Int32) (0 : Int32)).1 then (f_LH_areAlike_280 (f_LH_areAlike_216  n) (f_LH_does (f_LH_many (f_LH_many s (0 : Int32) x3).2 (1 : Int32) x3).2 (4 : Int32) x3 (0 : Int32) (0 : Int32)).2 (f_LH_does (f_LH_many (f_LH_many t (0 : Int32) x3).2 (1 : Int32) x3).2 (4 : Int32) x3 (0 : Int32) (0 : Int32)).2 x2 x3 (1 : Int32)) else (f_LH_areAlike_279 (f_LH_areAlike_216  n) (f_LH_does (f_LH_many (f_LH_many s (0 : Int32) x3).2 (1 : Int32) x3).2 (4 : Int32) x3 (0 : Int32) (0 : Int32)).2 (f_LH_does (f_LH_many (f_LH_many t (0 : Int32) x3).2 (1 : Int32) x3).2 (4 : Int32) x3 (0 : Int32) (0 : Int32)).2 x2 x3)) else (f_LH_areAlike_279 (f_LH_areAlike_216  n) (f_LH_many (f_LH_many s (0 : Int32) x3).2 (1 : Int32) x3).2 (f_LH_many (f_LH_many t (0 : Int32) x3).2 (1 : Int32) x3).2 x2 x3)) else (f_LH_areAlike_279 (f_LH_areAlike_216  n) (f_LH_many s (0 : Int32) x3).2 (f_LH_many t (0 : Int32) x3).2 x2 x3))))
def p_LH_areAlike_216  : Nat → am_M → am_M → Int32 → Int32 → Prop
  | 0, s, t, x2, x3 => False
  | n + 1, s, t, x2, x3 => (((8 : Int32) ≤ x3) → (x2 = 0 ∨ x2 = 1) ∧ (True)) ∧ (¬ ((8 : Int32) ≤ x3) → ((x2 = 0) → (x2 = 0 ∨ x2 = 1) ∧ (True)) ∧ (¬ (x2 = 0) → p_LH_many s (0 : Int32) x3 ∧ (p_LH_many t (0 : Int32) x3 ∧ ((((f_LH_many s (0 : Int32) x3).1 = (f_LH_many t (0 : Int32) x3).1) → p_LH_many (f_LH_many s (0 : Int32) x3).2 (1 : Int32) x3 ∧ (p_LH_many (f_LH_many t (0 : Int32) x3).2 (1 : Int32) x3 ∧ ((((f_LH_many (f_LH_many s (0 : Int32) x3).2 (1 : Int32) x3).1 = (f_LH_many (f_LH_many t (0 : Int32) x3).2 (1 : Int32) x3).1) → p_LH_does (f_LH_many (f_LH_many s (0 : Int32) x3).2 (1 : Int32) x3).2 (4 : Int32) x3 (0 : Int32) (0 : Int32) ∧ (p_LH_does (f_LH_many (f_LH_many t (0 : Int32) x3).2 (1 : Int32) x3).2 (4 : Int32) x3 (0 : Int32) (0 : Int32) ∧ ((((f_LH_does (f_LH_many (f_LH_many s (0 : Int32) x3).2 (1 : Int32) x3).2 (4 : Int32) x3 (0 : Int32) (0 : Int32)).1 = (f_LH_does (f_LH_many (f_LH_many t (0 : Int32) x3).2 (1 : Int32) x3).2 (4 : Int32) x3 (0 : Int32) (0 : Int32)).1) → (p_LH_areAlike_280 (p_LH_areAlike_216  n) (f_LH_does (f_LH_many (f_LH_many s (0 : Int32) x3).2 (1 : Int32) x3).2 (4 : Int32) x3 (0 : Int32) (0 : Int32)).2 (f_LH_does (f_LH_many (f_LH_many t (0 : Int32) x3).2 (1 : Int32) x3).2 (4 : Int32) x3 (0 : Int32) (0 : Int32)).2 x2 x3 (1 : Int32))) ∧ (¬ ((f_LH_does (f_LH_many (f_LH_many s (0 : Int32) x3).2 (1 : Int32) x3).2 (4 : Int32) x3 (0 : Int32) (0 : Int32)).1 = (f_LH_does (f_LH_many (f_LH_many t (0 : Int32) x3).2 (1 : Int32) x3).2 (4 : Int32) x3 (0 : Int32) (0 : Int32)).1) → (p_LH_areAlike_279 (p_LH_areAlike_216  n) (f_LH_does (f_LH_many (f_LH_many s (0 : Int32) x3).2 (1 : Int32) x3).2 (4 : Int32) x3 (0 : Int32) (0 : Int32)).2 (f_LH_does (f_LH_many (f_LH_many t (0 : Int32) x3).2 (1 : Int32) x3).2 (4 : Int32) x3 (0 : Int32) (0 : Int32)).2 x2 x3))))) ∧ (¬ ((f_LH_many (f_LH_many s (0 : Int32) x3).2 (1 : Int32) x3).1 = (f_LH_many (f_LH_many t (0 : Int32) x3).2 (1 : Int32) x3).1) → (p_LH_areAlike_279 (p_LH_areAlike_216  n) (f_LH_many (f_LH_many s (0 : Int32) x3).2 (1 : Int32) x3).2 (f_LH_many (f_LH_many t (0 : Int32) x3).2 (1 : Int32) x3).2 x2 x3))))) ∧ (¬ ((f_LH_many s (0 : Int32) x3).1 = (f_LH_many t (0 : Int32) x3).1) → (p_LH_areAlike_279 (p_LH_areAlike_216  n) (f_LH_many s (0 : Int32) x3).2 (f_LH_many t (0 : Int32) x3).2 x2 x3))))))
set_option maxRecDepth 8000 in
theorem w_LH_areAlike_216 {l : Launch} {g : am_Gl} (hg : g.2.2.2.1 = true) {ad0 : Nat → Nat}  : ∀ (n : Nat) (s : am_M) (t : am_M) (x2 : Int32) (x3 : Int32) (k z : Nat), k + 12 * n ≤ 4923 → z + 72 * n ≤ 6 * 4923 → p_LH_areAlike_216  n s t x2 x3 → AW l g m_LH_areAlike 414 ad0 (am_oC2 (f_LH_areAlike_216  n s t x2 x3)) k z 414 (jn s t) 216 [(0, .ref 0), (1, .ref 207), (2, .int x2), (3, .int x3)] [] := by
  intro n
  induction n with
  | zero => intro s t x2 x3 k z _ _ h; exact h.elim
  | succ n ih =>
    intro s t x2 x3 k z hk hz h
    obtain ⟨β216, hb216⟩ : ∃ b, b + 12 * n + 0 = 4923 := ⟨4923 - (12 * n + 0), by omega⟩
    have hβ216 : β216 ≤ 4923 := by omega
    have hK216 : ∀ (s : am_M) (t : am_M) (x2 : Int32) (x3 : Int32) (k z : Nat), k ≤ β216 → z ≤ 6 * β216 → (p_LH_areAlike_216  n) s t x2 x3 → AW l g m_LH_areAlike 414 ad0 (am_oC2 ((f_LH_areAlike_216  n) s t x2 x3)) k z 414 (jn s t) 216 [(0, .ref 0), (1, .ref 207), (2, .int x2), (3, .int x3)] [] := fun s t x2 x3 k z h1 h2 h3 => ih s t x2 x3 k z (by omega) (by omega) h3
    refine am_iload_n (j := 3) d_LH_areAlike_216 rfl rfl ?_
    refine am_bipush (v := (8 : Int32)) d_LH_areAlike_217 (by decide) ?_
    refine aj_ge (F := am_oC2) (tgt := 287) d_LH_areAlike_219 (by decide) (fun c => ?_) (fun c => ?_)
    · have h := h.1 c
      refine am_iload_n (j := 2) d_LH_areAlike_287 rfl rfl ?_
      obtain ⟨hz, h⟩ := h
      exact am_iret d_LH_areAlike_288 rfl (am_bool hz).1 (by show k ≤ 4923; omega) (by show z ≤ 29538; omega) am_oC2_ok
    · have h := h.2 c
      refine am_iload_n (j := 2) d_LH_areAlike_222 rfl rfl ?_
      refine ai_eq (F := am_oC2) (tgt := 287) d_LH_areAlike_223 (by decide) (fun c => ?_) (fun c => ?_)
      · have h := h.1 c
        refine am_iload_n (j := 2) d_LH_areAlike_287 rfl rfl ?_
        obtain ⟨hz, h⟩ := h
        exact am_iret d_LH_areAlike_288 rfl (am_bool hz).1 (by show k ≤ 4923; omega) (by show z ≤ 29538; omega) am_oC2_ok
      · have h := h.2 c
        refine am_aload_n (j := 0) d_LH_areAlike_226 rfl rfl ?_
        refine am_iconst (v := (0 : Int32)) d_LH_areAlike_227 (by decide) ?_
        refine am_iload_n (j := 3) d_LH_areAlike_228 rfl rfl ?_
        obtain ⟨hc, h⟩ := h
        refine ak9_SX (as := [.ref 0, .int (0 : Int32), .int x3]) (rest := []) d_LH_areAlike_229 cw_LH_areAlike_229 rfl (am_2O hg rfl (fun _ => am_1C (ct_LH_many hg hc))) rfl rfl (Nat.le_of_ble_eq_true rfl) (by show k + 1 ≤ 4923; omega) (by show z + 6 ≤ 29538; omega) ?_
        refine am_aload_n (j := 1) d_LH_areAlike_232 rfl rfl ?_
        refine am_iconst (v := (0 : Int32)) d_LH_areAlike_233 (by decide) ?_
        refine am_iload_n (j := 3) d_LH_areAlike_234 rfl rfl ?_
        obtain ⟨hc, h⟩ := h
        refine ak9_SX (as := [.ref 207, .int (0 : Int32), .int x3]) (rest := [.int (f_LH_many s (0 : Int32) x3).1]) d_LH_areAlike_235 cw_LH_areAlike_235 rfl (am_2P (av1 := [.ref 0, .int (0 : Int32), .int x3]) hg rfl (fun _ => rfl) (fun _ => am_1C (ct_LH_many hg hc))) rfl rfl (Nat.le_of_ble_eq_true rfl) (by show k + 1 + 1 ≤ 4923; omega) (by show z + 6 + 6 ≤ 29538; omega) ?_
        refine aj_ne (F := am_oC2) (tgt := 279) d_LH_areAlike_238 (by decide) (fun c => ?_) (fun c => ?_)
        · have h := h.2 c
          exact w_LH_areAlike_279 hg hβ216 hK216 (by show k + 1 + 1 + 0 ≤ β216; omega) (by show z + 6 + 6 + 0 ≤ 6 * β216; omega) h
        · have h := h.1 c
          refine am_aload_n (j := 0) d_LH_areAlike_241 rfl rfl ?_
          refine am_iconst (v := (1 : Int32)) d_LH_areAlike_242 (by decide) ?_
          refine am_iload_n (j := 3) d_LH_areAlike_243 rfl rfl ?_
          obtain ⟨hc, h⟩ := h
          refine ak9_SX (as := [.ref 0, .int (1 : Int32), .int x3]) (rest := []) d_LH_areAlike_244 cw_LH_areAlike_244 rfl (am_2O hg rfl (fun _ => am_1C (ct_LH_many hg hc))) rfl rfl (Nat.le_of_ble_eq_true rfl) (by show k + 1 + 1 + 1 ≤ 4923; omega) (by show z + 6 + 6 + 6 ≤ 29538; omega) ?_
          refine am_aload_n (j := 1) d_LH_areAlike_247 rfl rfl ?_
          refine am_iconst (v := (1 : Int32)) d_LH_areAlike_248 (by decide) ?_
          refine am_iload_n (j := 3) d_LH_areAlike_249 rfl rfl ?_
          obtain ⟨hc, h⟩ := h
          refine ak9_SX (as := [.ref 207, .int (1 : Int32), .int x3]) (rest := [.int (f_LH_many (f_LH_many s (0 : Int32) x3).2 (1 : Int32) x3).1]) d_LH_areAlike_250 cw_LH_areAlike_250 rfl (am_2P (av1 := [.ref 0, .int (1 : Int32), .int x3]) hg rfl (fun _ => rfl) (fun _ => am_1C (ct_LH_many hg hc))) rfl rfl (Nat.le_of_ble_eq_true rfl) (by show k + 1 + 1 + 1 + 1 ≤ 4923; omega) (by show z + 6 + 6 + 6 + 6 ≤ 29538; omega) ?_
          refine aj_ne (F := am_oC2) (tgt := 279) d_LH_areAlike_253 (by decide) (fun c => ?_) (fun c => ?_)
          · have h := h.2 c
            exact w_LH_areAlike_279 hg hβ216 hK216 (by show k + 1 + 1 + 1 + 1 + 0 ≤ β216; omega) (by show z + 6 + 6 + 6 + 6 + 0 ≤ 6 * β216; omega) h
          · have h := h.1 c
            refine am_aload_n (j := 0) d_LH_areAlike_256 rfl rfl ?_
            refine am_iconst (v := (4 : Int32)) d_LH_areAlike_257 (by decide) ?_
            refine am_iload_n (j := 3) d_LH_areAlike_258 rfl rfl ?_
            refine am_iconst (v := (0 : Int32)) d_LH_areAlike_259 (by decide) ?_
            refine am_iconst (v := (0 : Int32)) d_LH_areAlike_260 (by decide) ?_
            obtain ⟨hc, h⟩ := h
            refine ak9_SX (as := [.ref 0, .int (4 : Int32), .int x3, .int (0 : Int32), .int (0 : Int32)]) (rest := []) d_LH_areAlike_261 cw_LH_areAlike_261 rfl (am_2O hg rfl (fun _ => am_1C (ct_LH_does hg hc))) rfl rfl (Nat.le_of_ble_eq_true rfl) (by show k + 1 + 1 + 1 + 1 + 4 ≤ 4923; omega) (by show z + 6 + 6 + 6 + 6 + 24 ≤ 29538; omega) ?_
            refine am_aload_n (j := 1) d_LH_areAlike_264 rfl rfl ?_
            refine am_iconst (v := (4 : Int32)) d_LH_areAlike_265 (by decide) ?_
            refine am_iload_n (j := 3) d_LH_areAlike_266 rfl rfl ?_
            refine am_iconst (v := (0 : Int32)) d_LH_areAlike_267 (by decide) ?_
            refine am_iconst (v := (0 : Int32)) d_LH_areAlike_268 (by decide) ?_
            obtain ⟨hc, h⟩ := h
            refine ak9_SX (as := [.ref 207, .int (4 : Int32), .int x3, .int (0 : Int32), .int (0 : Int32)]) (rest := [.int (f_LH_does (f_LH_many (f_LH_many s (0 : Int32) x3).2 (1 : Int32) x3).2 (4 : Int32) x3 (0 : Int32) (0 : Int32)).1]) d_LH_areAlike_269 cw_LH_areAlike_269 rfl (am_2P (av1 := [.ref 0, .int (4 : Int32), .int x3, .int (0 : Int32), .int (0 : Int32)]) hg rfl (fun _ => rfl) (fun _ => am_1C (ct_LH_does hg hc))) rfl rfl (Nat.le_of_ble_eq_true rfl) (by show k + 1 + 1 + 1 + 1 + 4 + 4 ≤ 4923; omega) (by show z + 6 + 6 + 6 + 6 + 24 + 24 ≤ 29538; omega) ?_
            refine aj_ne (F := am_oC2) (tgt := 279) d_LH_areAlike_272 (by decide) (fun c => ?_) (fun c => ?_)
            · have h := h.2 c
              exact w_LH_areAlike_279 hg hβ216 hK216 (by show k + 1 + 1 + 1 + 1 + 4 + 4 + 0 ≤ β216; omega) (by show z + 6 + 6 + 6 + 6 + 24 + 24 + 0 ≤ 6 * β216; omega) h
            · have h := h.1 c
              refine am_iconst (v := (1 : Int32)) d_LH_areAlike_275 (by decide) ?_
              refine am_goto (tgt := 280) d_LH_areAlike_276 (by decide) ?_
              exact w_LH_areAlike_280 hg hβ216 hK216 (by show k + 1 + 1 + 1 + 1 + 4 + 4 + 0 ≤ β216; omega) (by show z + 6 + 6 + 6 + 6 + 24 + 24 + 0 ≤ 6 * β216; omega) h
def f_LH_areAlike_214  (s : am_M) (t : am_M) (x2 : Int32) (x3 : Int32) : Int32 × am_M × am_M := (f_LH_areAlike_216 9 s t x2 (0 : Int32))
def p_LH_areAlike_214  (s : am_M) (t : am_M) (x2 : Int32) (x3 : Int32) : Prop := (p_LH_areAlike_216 9 s t x2 (0 : Int32))
set_option maxRecDepth 8000 in
theorem w_LH_areAlike_214 {l : Launch} {g : am_Gl} (hg : g.2.2.2.1 = true) {ad0 : Nat → Nat}  {s : am_M} {t : am_M} {x2 : Int32} {x3 : Int32} {k z : Nat} (hk : k ≤ 4815) (hz : z ≤ 28890) (h : p_LH_areAlike_214  s t x2 x3) : AW l g m_LH_areAlike 414 ad0 (am_oC2 (f_LH_areAlike_214  s t x2 x3)) k z 414 (jn s t) 214 [(0, .ref 0), (1, .ref 207), (2, .int x2), (3, .int x3)] [] := by
  refine am_iconst (v := (0 : Int32)) d_LH_areAlike_214 (by decide) ?_
  refine am_istore_n (lv2 := [(3, .int (0 : Int32)), (0, .ref 0), (1, .ref 207), (2, .int x2)]) d_LH_areAlike_215 rfl (by decide) rfl ?_
  refine am_sub [1, 2, 3, 0] (lv2 := [(0, .ref 0), (1, .ref 207), (2, .int x2), (3, .int (0 : Int32))]) rfl ?_
  exact w_LH_areAlike_216 hg  9 _ _ _ _ _ _ (by show k + 12 * 9 ≤ 4923; omega) (by show z + 72 * 9 ≤ 6 * 4923; omega) h
def f_LH_areAlike_77  : Nat → am_M → am_M → Int32 → Int32 → Int32 × am_M × am_M
  | 0, s, t, x2, x3 => (0, s, t)
  | n + 1, s, t, x2, x3 => (if (4 : Int32) ≤ x3 then (f_LH_areAlike_214 s t x2 x3) else (if x2 = 0 then (f_LH_areAlike_214 s t x2 x3) else (if (f_LH_rows s x3) = (f_LH_rows t x3) then (f_LH_areAlike_104 (f_LH_areAlike_77  n) s t x2 x3 (1 : Int32)) else (f_LH_areAlike_104 (f_LH_areAlike_77  n) s t x2 x3 (0 : Int32)))))
def p_LH_areAlike_77  : Nat → am_M → am_M → Int32 → Int32 → Prop
  | 0, s, t, x2, x3 => False
  | n + 1, s, t, x2, x3 => (((4 : Int32) ≤ x3) → (p_LH_areAlike_214 s t x2 x3)) ∧ (¬ ((4 : Int32) ≤ x3) → ((x2 = 0) → (p_LH_areAlike_214 s t x2 x3)) ∧ (¬ (x2 = 0) → p_LH_rows s x3 ∧ (p_LH_rows t x3 ∧ ((((f_LH_rows s x3) = (f_LH_rows t x3)) → (p_LH_areAlike_104 (p_LH_areAlike_77  n) s t x2 x3 (1 : Int32))) ∧ (¬ ((f_LH_rows s x3) = (f_LH_rows t x3)) → (p_LH_areAlike_104 (p_LH_areAlike_77  n) s t x2 x3 (0 : Int32)))))))
set_option maxRecDepth 8000 in
theorem w_LH_areAlike_77 {l : Launch} {g : am_Gl} (hg : g.2.2.2.1 = true) {ad0 : Nat → Nat}  : ∀ (n : Nat) (s : am_M) (t : am_M) (x2 : Int32) (x3 : Int32) (k z : Nat), k + 963 * n ≤ 4815 → z + 5778 * n ≤ 6 * 4815 → p_LH_areAlike_77  n s t x2 x3 → AW l g m_LH_areAlike 414 ad0 (am_oC2 (f_LH_areAlike_77  n s t x2 x3)) k z 414 (jn s t) 77 [(0, .ref 0), (1, .ref 207), (2, .int x2), (3, .int x3)] [] := by
  intro n
  induction n with
  | zero => intro s t x2 x3 k z _ _ h; exact h.elim
  | succ n ih =>
    intro s t x2 x3 k z hk hz h
    obtain ⟨β77, hb77⟩ : ∃ b, b + 963 * n + 0 = 4815 := ⟨4815 - (963 * n + 0), by omega⟩
    have hβ77 : β77 ≤ 4815 := by omega
    have hK77 : ∀ (s : am_M) (t : am_M) (x2 : Int32) (x3 : Int32) (k z : Nat), k ≤ β77 → z ≤ 6 * β77 → (p_LH_areAlike_77  n) s t x2 x3 → AW l g m_LH_areAlike 414 ad0 (am_oC2 ((f_LH_areAlike_77  n) s t x2 x3)) k z 414 (jn s t) 77 [(0, .ref 0), (1, .ref 207), (2, .int x2), (3, .int x3)] [] := fun s t x2 x3 k z h1 h2 h3 => ih s t x2 x3 k z (by omega) (by omega) h3
    refine am_iload_n (j := 3) d_LH_areAlike_77 rfl rfl ?_
    refine am_iconst (v := (4 : Int32)) d_LH_areAlike_78 (by decide) ?_
    refine aj_ge (F := am_oC2) (tgt := 214) d_LH_areAlike_79 (by decide) (fun c => ?_) (fun c => ?_)
    · have h := h.1 c
      exact w_LH_areAlike_214 hg  (by show k ≤ 4815; omega) (by show z ≤ 28890; omega) h
    · have h := h.2 c
      refine am_iload_n (j := 2) d_LH_areAlike_82 rfl rfl ?_
      refine ai_eq (F := am_oC2) (tgt := 214) d_LH_areAlike_83 (by decide) (fun c => ?_) (fun c => ?_)
      · have h := h.1 c
        exact w_LH_areAlike_214 hg  (by show k ≤ 4815; omega) (by show z ≤ 28890; omega) h
      · have h := h.2 c
        refine am_aload_n (j := 0) d_LH_areAlike_86 rfl rfl ?_
        refine am_iload_n (j := 3) d_LH_areAlike_87 rfl rfl ?_
        obtain ⟨hc, h⟩ := h
        refine ak9_SX (as := [.ref 0, .int x3]) (rest := []) d_LH_areAlike_88 cw_LH_areAlike_88 rfl (am_2O hg rfl (fun _ => am_1I (ct_LH_rows hg hc))) rfl rfl (Nat.le_of_ble_eq_true rfl) (by show k + 1 ≤ 4923; omega) (by show z + 6 ≤ 29538; omega) ?_
        refine am_aload_n (j := 1) d_LH_areAlike_91 rfl rfl ?_
        refine am_iload_n (j := 3) d_LH_areAlike_92 rfl rfl ?_
        obtain ⟨hc, h⟩ := h
        refine ak9_SX (as := [.ref 207, .int x3]) (rest := [.int (f_LH_rows s x3)]) d_LH_areAlike_93 cw_LH_areAlike_93 rfl (am_2P (av1 := [.ref 0, .int x3]) hg rfl (fun _ => rfl) (fun _ => am_1I (ct_LH_rows hg hc))) rfl rfl (Nat.le_of_ble_eq_true rfl) (by show k + 1 + 1 ≤ 4923; omega) (by show z + 6 + 6 ≤ 29538; omega) ?_
        refine aj_ne (F := am_oC2) (tgt := 103) d_LH_areAlike_96 (by decide) (fun c => ?_) (fun c => ?_)
        · have h := h.2 c
          refine am_iconst (v := (0 : Int32)) d_LH_areAlike_103 (by decide) ?_
          exact w_LH_areAlike_104 hg hβ77 hK77 (by show k + 1 + 1 + 961 ≤ β77; omega) (by show z + 6 + 6 + 5766 ≤ 6 * β77; omega) h
        · have h := h.1 c
          refine am_iconst (v := (1 : Int32)) d_LH_areAlike_99 (by decide) ?_
          refine am_goto (tgt := 104) d_LH_areAlike_100 (by decide) ?_
          exact w_LH_areAlike_104 hg hβ77 hK77 (by show k + 1 + 1 + 961 ≤ β77; omega) (by show z + 6 + 6 + 5766 ≤ 6 * β77; omega) h
def f_LH_areAlike_74  (s : am_M) (t : am_M) (y0 : Int32) : Int32 × am_M × am_M := (f_LH_areAlike_77 5 s t y0 (0 : Int32))
def p_LH_areAlike_74  (s : am_M) (t : am_M) (y0 : Int32) : Prop := (p_LH_areAlike_77 5 s t y0 (0 : Int32))
set_option maxRecDepth 8000 in
theorem w_LH_areAlike_74 {l : Launch} {g : am_Gl} (hg : g.2.2.2.1 = true) {ad0 : Nat → Nat}  {s : am_M} {t : am_M} {y0 : Int32} {k z : Nat} (hk : k ≤ 0) (hz : z ≤ 0) (h : p_LH_areAlike_74  s t y0) : AW l g m_LH_areAlike 414 ad0 (am_oC2 (f_LH_areAlike_74  s t y0)) k z 414 (jn s t) 74 [(0, .ref 0), (1, .ref 207)] [.int y0] := by
  refine am_istore_n (lv2 := [(2, .int y0), (0, .ref 0), (1, .ref 207)]) d_LH_areAlike_74 rfl (by decide) rfl ?_
  refine am_iconst (v := (0 : Int32)) d_LH_areAlike_75 (by decide) ?_
  refine am_istore_n (lv2 := [(3, .int (0 : Int32)), (2, .int y0), (0, .ref 0), (1, .ref 207)]) d_LH_areAlike_76 rfl (by decide) rfl ?_
  refine am_sub [2, 3, 1, 0] (lv2 := [(0, .ref 0), (1, .ref 207), (2, .int y0), (3, .int (0 : Int32))]) rfl ?_
  exact w_LH_areAlike_77 hg  5 _ _ _ _ _ _ (by show k + 963 * 5 ≤ 4815; omega) (by show z + 5778 * 5 ≤ 6 * 4815; omega) h
def f_LH_areAlike_73  (s : am_M) (t : am_M)  : Int32 × am_M × am_M := (f_LH_areAlike_74 s t (0 : Int32))
def p_LH_areAlike_73  (s : am_M) (t : am_M)  : Prop := (p_LH_areAlike_74 s t (0 : Int32))
set_option maxRecDepth 8000 in
theorem w_LH_areAlike_73 {l : Launch} {g : am_Gl} (hg : g.2.2.2.1 = true) {ad0 : Nat → Nat}  {s : am_M} {t : am_M}  {k z : Nat} (hk : k ≤ 0) (hz : z ≤ 0) (h : p_LH_areAlike_73  s t ) : AW l g m_LH_areAlike 414 ad0 (am_oC2 (f_LH_areAlike_73  s t )) k z 414 (jn s t) 73 [(0, .ref 0), (1, .ref 207)] [] := by
  refine am_iconst (v := (0 : Int32)) d_LH_areAlike_73 (by decide) ?_
  exact w_LH_areAlike_74 hg  (by show k ≤ 0; omega) (by show z ≤ 0; omega) h
def f_LH_areAlike (s : am_M) (t : am_M)  : Int32 × am_M × am_M := (if (f_CB_broken s).1 = 0 then (if (f_CB_broken t).1 = 0 then (if (f_CB_undoable (f_CB_broken s).2) = (f_CB_undoable (f_CB_broken t).2) then (if (f_CB_reason (f_CB_broken s).2) = (f_CB_reason (f_CB_broken t).2) then (if (f_CB_whereTable (f_CB_broken s).2) = (f_CB_whereTable (f_CB_broken t).2) then (if (f_CB_whereRow (f_CB_broken s).2) = (f_CB_whereRow (f_CB_broken t).2) then (if (f_CB_whereColumn (f_CB_broken s).2) = (f_CB_whereColumn (f_CB_broken t).2) then (f_LH_areAlike_74 (f_CB_broken s).2 (f_CB_broken t).2 (1 : Int32)) else (f_LH_areAlike_73 (f_CB_broken s).2 (f_CB_broken t).2)) else (f_LH_areAlike_73 (f_CB_broken s).2 (f_CB_broken t).2)) else (f_LH_areAlike_73 (f_CB_broken s).2 (f_CB_broken t).2)) else (f_LH_areAlike_73 (f_CB_broken s).2 (f_CB_broken t).2)) else (f_LH_areAlike_73 (f_CB_broken s).2 (f_CB_broken t).2)) else (f_LH_areAlike_73 (f_CB_broken s).2 (f_CB_broken t).2)) else (f_LH_areAlike_73 (f_CB_broken s).2 t))
def p_LH_areAlike (s : am_M) (t : am_M)  : Prop := p_CB_broken s ∧ ((((f_CB_broken s).1 = 0) → p_CB_broken t ∧ ((((f_CB_broken t).1 = 0) → (((f_CB_undoable (f_CB_broken s).2) = (f_CB_undoable (f_CB_broken t).2)) → (((f_CB_reason (f_CB_broken s).2) = (f_CB_reason (f_CB_broken t).2)) → (((f_CB_whereTable (f_CB_broken s).2) = (f_CB_whereTable (f_CB_broken t).2)) → (((f_CB_whereRow (f_CB_broken s).2) = (f_CB_whereRow (f_CB_broken t).2)) → (((f_CB_whereColumn (f_CB_broken s).2) = (f_CB_whereColumn (f_CB_broken t).2)) → (p_LH_areAlike_74 (f_CB_broken s).2 (f_CB_broken t).2 (1 : Int32))) ∧ (¬ ((f_CB_whereColumn (f_CB_broken s).2) = (f_CB_whereColumn (f_CB_broken t).2)) → (p_LH_areAlike_73 (f_CB_broken s).2 (f_CB_broken t).2))) ∧ (¬ ((f_CB_whereRow (f_CB_broken s).2) = (f_CB_whereRow (f_CB_broken t).2)) → (p_LH_areAlike_73 (f_CB_broken s).2 (f_CB_broken t).2))) ∧ (¬ ((f_CB_whereTable (f_CB_broken s).2) = (f_CB_whereTable (f_CB_broken t).2)) → (p_LH_areAlike_73 (f_CB_broken s).2 (f_CB_broken t).2))) ∧ (¬ ((f_CB_reason (f_CB_broken s).2) = (f_CB_reason (f_CB_broken t).2)) → (p_LH_areAlike_73 (f_CB_broken s).2 (f_CB_broken t).2))) ∧ (¬ ((f_CB_undoable (f_CB_broken s).2) = (f_CB_undoable (f_CB_broken t).2)) → (p_LH_areAlike_73 (f_CB_broken s).2 (f_CB_broken t).2))) ∧ (¬ ((f_CB_broken t).1 = 0) → (p_LH_areAlike_73 (f_CB_broken s).2 (f_CB_broken t).2)))) ∧ (¬ ((f_CB_broken s).1 = 0) → (p_LH_areAlike_73 (f_CB_broken s).2 t)))
set_option maxRecDepth 8000 in
theorem w_LH_areAlike {l : Launch} {g : am_Gl} (hg : g.2.2.2.1 = true) {ad0 : Nat → Nat} {s : am_M} {t : am_M}  (h : p_LH_areAlike s t ) : AW l g m_LH_areAlike 414 ad0 (am_oC2 (f_LH_areAlike s t )) 0 0 414 (jn s t) 0 [(0, .ref 0), (1, .ref 207)] [] := by
  refine am_aload_n (j := 0) d_LH_areAlike_0 rfl rfl ?_
  obtain ⟨hc, h⟩ := h
  refine ak9_V (as := []) (rest := []) d_LH_areAlike_1 cw_LH_areAlike_1 rfl (am_2O hg rfl (fun _ => am_1C (ct_CB_broken hg hc))) rfl rfl rc_1 (Nat.le_of_ble_eq_true rfl) (by show 0 + 0 ≤ 4923; omega) (by show 0 + 0 ≤ 29538; omega) ?_
  refine ai_ne (F := am_oC2) (tgt := 73) d_LH_areAlike_4 (by decide) (fun c => ?_) (fun c => ?_)
  · have h := h.2 c
    exact w_LH_areAlike_73 hg  (by show 0 + 0 ≤ 0; omega) (by show 0 + 0 ≤ 0; omega) h
  · have h := h.1 c
    refine am_aload_n (j := 1) d_LH_areAlike_7 rfl rfl ?_
    obtain ⟨hc, h⟩ := h
    refine ak9_V (as := []) (rest := []) d_LH_areAlike_8 cw_LH_areAlike_8 rfl (am_2P (av1 := [.ref 0]) hg rfl (fun _ => rfl) (fun _ => am_1C (ct_CB_broken hg hc))) rfl rfl rc_2 (Nat.le_of_ble_eq_true rfl) (by show 0 + 0 + 0 ≤ 4923; omega) (by show 0 + 0 + 0 ≤ 29538; omega) ?_
    refine ai_ne (F := am_oC2) (tgt := 73) d_LH_areAlike_11 (by decide) (fun c => ?_) (fun c => ?_)
    · have h := h.2 c
      exact w_LH_areAlike_73 hg  (by show 0 + 0 + 0 ≤ 0; omega) (by show 0 + 0 + 0 ≤ 0; omega) h
    · have h := h.1 c
      refine am_aload_n (j := 0) d_LH_areAlike_14 rfl rfl ?_
      refine ak9_V (as := []) (rest := []) d_LH_areAlike_15 cw_LH_areAlike_15 rfl (am_2O hg rfl (fun _ => am_1I (ct_CB_undoable hg))) rfl rfl rc_1 (Nat.le_of_ble_eq_true rfl) (by show 0 + 0 + 0 + 0 ≤ 4923; omega) (by show 0 + 0 + 0 + 0 ≤ 29538; omega) ?_
      refine am_aload_n (j := 1) d_LH_areAlike_18 rfl rfl ?_
      refine ak9_V (as := []) (rest := [.int (f_CB_undoable (f_CB_broken s).2)]) d_LH_areAlike_19 cw_LH_areAlike_19 rfl (am_2P (av1 := [.ref 0]) hg rfl (fun _ => rfl) (fun _ => am_1I (ct_CB_undoable hg))) rfl rfl rc_2 (Nat.le_of_ble_eq_true rfl) (by show 0 + 0 + 0 + 0 + 0 ≤ 4923; omega) (by show 0 + 0 + 0 + 0 + 0 ≤ 29538; omega) ?_
      refine aj_ne (F := am_oC2) (tgt := 73) d_LH_areAlike_22 (by decide) (fun c => ?_) (fun c => ?_)
      · have h := h.2 c
        exact w_LH_areAlike_73 hg  (by show 0 + 0 + 0 + 0 + 0 ≤ 0; omega) (by show 0 + 0 + 0 + 0 + 0 ≤ 0; omega) h
      · have h := h.1 c
        refine am_aload_n (j := 0) d_LH_areAlike_25 rfl rfl ?_
        refine ak9_V (as := []) (rest := []) d_LH_areAlike_26 cw_LH_areAlike_26 rfl (am_2O hg rfl (fun _ => am_1I (ct_CB_reason hg))) rfl rfl rc_1 (Nat.le_of_ble_eq_true rfl) (by show 0 + 0 + 0 + 0 + 0 + 0 ≤ 4923; omega) (by show 0 + 0 + 0 + 0 + 0 + 0 ≤ 29538; omega) ?_
        refine am_aload_n (j := 1) d_LH_areAlike_29 rfl rfl ?_
        refine ak9_V (as := []) (rest := [.int (f_CB_reason (f_CB_broken s).2)]) d_LH_areAlike_30 cw_LH_areAlike_30 rfl (am_2P (av1 := [.ref 0]) hg rfl (fun _ => rfl) (fun _ => am_1I (ct_CB_reason hg))) rfl rfl rc_2 (Nat.le_of_ble_eq_true rfl) (by show 0 + 0 + 0 + 0 + 0 + 0 + 0 ≤ 4923; omega) (by show 0 + 0 + 0 + 0 + 0 + 0 + 0 ≤ 29538; omega) ?_
        refine aj_ne (F := am_oC2) (tgt := 73) d_LH_areAlike_33 (by decide) (fun c => ?_) (fun c => ?_)
        · have h := h.2 c
          exact w_LH_areAlike_73 hg  (by show 0 + 0 + 0 + 0 + 0 + 0 + 0 ≤ 0; omega) (by show 0 + 0 + 0 + 0 + 0 + 0 + 0 ≤ 0; omega) h
        · have h := h.1 c
          refine am_aload_n (j := 0) d_LH_areAlike_36 rfl rfl ?_
          refine ak9_V (as := []) (rest := []) d_LH_areAlike_37 cw_LH_areAlike_37 rfl (am_2O hg rfl (fun _ => am_1I (ct_CB_whereTable hg))) rfl rfl rc_1 (Nat.le_of_ble_eq_true rfl) (by show 0 + 0 + 0 + 0 + 0 + 0 + 0 + 0 ≤ 4923; omega) (by show 0 + 0 + 0 + 0 + 0 + 0 + 0 + 0 ≤ 29538; omega) ?_
          refine am_aload_n (j := 1) d_LH_areAlike_40 rfl rfl ?_
          refine ak9_V (as := []) (rest := [.int (f_CB_whereTable (f_CB_broken s).2)]) d_LH_areAlike_41 cw_LH_areAlike_41 rfl (am_2P (av1 := [.ref 0]) hg rfl (fun _ => rfl) (fun _ => am_1I (ct_CB_whereTable hg))) rfl rfl rc_2 (Nat.le_of_ble_eq_true rfl) (by show 0 + 0 + 0 + 0 + 0 + 0 + 0 + 0 + 0 ≤ 4923; omega) (by show 0 + 0 + 0 + 0 + 0 + 0 + 0 + 0 + 0 ≤ 29538; omega) ?_
          refine aj_ne (F := am_oC2) (tgt := 73) d_LH_areAlike_44 (by decide) (fun c => ?_) (fun c => ?_)
          · have h := h.2 c
            exact w_LH_areAlike_73 hg  (by show 0 + 0 + 0 + 0 + 0 + 0 + 0 + 0 + 0 ≤ 0; omega) (by show 0 + 0 + 0 + 0 + 0 + 0 + 0 + 0 + 0 ≤ 0; omega) h
          · have h := h.1 c
            refine am_aload_n (j := 0) d_LH_areAlike_47 rfl rfl ?_
            refine ak9_V (as := []) (rest := []) d_LH_areAlike_48 cw_LH_areAlike_48 rfl (am_2O hg rfl (fun _ => am_1I (ct_CB_whereRow hg))) rfl rfl rc_1 (Nat.le_of_ble_eq_true rfl) (by show 0 + 0 + 0 + 0 + 0 + 0 + 0 + 0 + 0 + 0 ≤ 4923; omega) (by show 0 + 0 + 0 + 0 + 0 + 0 + 0 + 0 + 0 + 0 ≤ 29538; omega) ?_
            refine am_aload_n (j := 1) d_LH_areAlike_51 rfl rfl ?_
            refine ak9_V (as := []) (rest := [.int (f_CB_whereRow (f_CB_broken s).2)]) d_LH_areAlike_52 cw_LH_areAlike_52 rfl (am_2P (av1 := [.ref 0]) hg rfl (fun _ => rfl) (fun _ => am_1I (ct_CB_whereRow hg))) rfl rfl rc_2 (Nat.le_of_ble_eq_true rfl) (by show 0 + 0 + 0 + 0 + 0 + 0 + 0 + 0 + 0 + 0 + 0 ≤ 4923; omega) (by show 0 + 0 + 0 + 0 + 0 + 0 + 0 + 0 + 0 + 0 + 0 ≤ 29538; omega) ?_
            refine aj_ne (F := am_oC2) (tgt := 73) d_LH_areAlike_55 (by decide) (fun c => ?_) (fun c => ?_)
            · have h := h.2 c
              exact w_LH_areAlike_73 hg  (by show 0 + 0 + 0 + 0 + 0 + 0 + 0 + 0 + 0 + 0 + 0 ≤ 0; omega) (by show 0 + 0 + 0 + 0 + 0 + 0 + 0 + 0 + 0 + 0 + 0 ≤ 0; omega) h
            · have h := h.1 c
              refine am_aload_n (j := 0) d_LH_areAlike_58 rfl rfl ?_
              refine ak9_V (as := []) (rest := []) d_LH_areAlike_59 cw_LH_areAlike_59 rfl (am_2O hg rfl (fun _ => am_1I (ct_CB_whereColumn hg))) rfl rfl rc_1 (Nat.le_of_ble_eq_true rfl) (by show 0 + 0 + 0 + 0 + 0 + 0 + 0 + 0 + 0 + 0 + 0 + 0 ≤ 4923; omega) (by show 0 + 0 + 0 + 0 + 0 + 0 + 0 + 0 + 0 + 0 + 0 + 0 ≤ 29538; omega) ?_
              refine am_aload_n (j := 1) d_LH_areAlike_62 rfl rfl ?_
              refine ak9_V (as := []) (rest := [.int (f_CB_whereColumn (f_CB_broken s).2)]) d_LH_areAlike_63 cw_LH_areAlike_63 rfl (am_2P (av1 := [.ref 0]) hg rfl (fun _ => rfl) (fun _ => am_1I (ct_CB_whereColumn hg))) rfl rfl rc_2 (Nat.le_of_ble_eq_true rfl) (by show 0 + 0 + 0 + 0 + 0 + 0 + 0 + 0 + 0 + 0 + 0 + 0 + 0 ≤ 4923; omega) (by show 0 + 0 + 0 + 0 + 0 + 0 + 0 + 0 + 0 + 0 + 0 + 0 + 0 ≤ 29538; omega) ?_
              refine aj_ne (F := am_oC2) (tgt := 73) d_LH_areAlike_66 (by decide) (fun c => ?_) (fun c => ?_)
              · have h := h.2 c
                exact w_LH_areAlike_73 hg  (by show 0 + 0 + 0 + 0 + 0 + 0 + 0 + 0 + 0 + 0 + 0 + 0 + 0 ≤ 0; omega) (by show 0 + 0 + 0 + 0 + 0 + 0 + 0 + 0 + 0 + 0 + 0 + 0 + 0 ≤ 0; omega) h
              · have h := h.1 c
                refine am_iconst (v := (1 : Int32)) d_LH_areAlike_69 (by decide) ?_
                refine am_goto (tgt := 74) d_LH_areAlike_70 (by decide) ?_
                exact w_LH_areAlike_74 hg  (by show 0 + 0 + 0 + 0 + 0 + 0 + 0 + 0 + 0 + 0 + 0 + 0 + 0 ≤ 0; omega) (by show 0 + 0 + 0 + 0 + 0 + 0 + 0 + 0 + 0 + 0 + 0 + 0 + 0 ≤ 0; omega) h
theorem ct_LH_areAlike {l : Launch} {g : am_Gl} (hg : g.2.2.2.1 = true) {s : am_M} {t : am_M}  (h : p_LH_areAlike s t ) : AC l g m_LH_areAlike 414 (jn s t) [.ref 0, .ref 207] (am_oC2 (f_LH_areAlike s t )) := am_enter ok_LH_areAlike rfl (Nat.le_of_ble_eq_true rfl) rfl (fun ad0 => w_LH_areAlike hg h)
theorem cw_LH_isAnswerSo_3 : am_sh9 m_LH_isAnswerSo m_LH_many 199 3 := ⟨ok_LH_many, ⟨_, rfl⟩, by decide +kernel, by decide, by decide, aw_5_111, aw_5_112⟩
theorem cw_LH_isAnswerSo_11 : am_sh9 m_LH_isAnswerSo m_LH_many 199 3 := ⟨ok_LH_many, ⟨_, rfl⟩, by decide +kernel, by decide, by decide, aw_5_111, aw_5_112⟩
theorem cw_LH_isAnswerSo_54 : am_cs m_LH_isAnswerSo m_LH_low 156 2 := ⟨⟨ok_LH_low, rfl, by decide +kernel, by decide, by decide⟩, aw_1_186, aw_1_187⟩
theorem cw_LH_isAnswerSo_64 : am_cs m_LH_isAnswerSo m_LH_low 156 2 := ⟨⟨ok_LH_low, rfl, by decide +kernel, by decide, by decide⟩, aw_1_186, aw_1_187⟩
theorem cw_LH_isAnswerSo_75 : am_cv m_LH_isAnswerSo m_CB_answer 122 3 := ⟨⟨ok_CB_answer, rfl, by decide +kernel, by decide, by decide⟩, aw_5_16, aw_5_17, aw_5_18⟩
theorem cw_LH_isAnswerSo_86 : am_cv m_LH_isAnswerSo m_CB_target 125 3 := ⟨⟨ok_CB_target, rfl, by decide +kernel, by decide, by decide⟩, aw_5_25, aw_5_26, aw_5_27⟩
theorem cw_LH_isAnswerSo_106 : am_sh9 m_LH_isAnswerSo m_LH_asks 171 7 := ⟨ok_LH_asks, ⟨_, rfl⟩, by decide +kernel, by decide, by decide, aw_4_169, aw_4_170⟩
theorem cw_LH_isAnswerSo_122 : am_sh9 m_LH_isAnswerSo m_LH_asks 171 7 := ⟨ok_LH_asks, ⟨_, rfl⟩, by decide +kernel, by decide, by decide, aw_4_169, aw_4_170⟩
theorem cw_LH_isAnswerSo_155 : am_cv m_LH_isAnswerSo m_CB_cell 101 3 := ⟨⟨ok_CB_cell, rfl, by decide +kernel, by decide, by decide⟩, aw_4_144, aw_4_145, aw_4_146⟩
theorem cw_LH_isAnswerSo_176 : am_cs m_LH_isAnswerSo m_LH_low 156 2 := ⟨⟨ok_LH_low, rfl, by decide +kernel, by decide, by decide⟩, aw_1_186, aw_1_187⟩
theorem cw_LH_isAnswerSo_192 : am_sh9 m_LH_isAnswerSo m_LH_asks 171 7 := ⟨ok_LH_asks, ⟨_, rfl⟩, by decide +kernel, by decide, by decide, aw_4_169, aw_4_170⟩
theorem cw_LH_isAnswerSo_213 : am_sh9 m_LH_isAnswerSo m_LH_asks 171 7 := ⟨ok_LH_asks, ⟨_, rfl⟩, by decide +kernel, by decide, by decide, aw_4_169, aw_4_170⟩
theorem cw_LH_isAnswerSo_232 : am_cv m_LH_isAnswerSo m_CB_reason 181 0 := ⟨⟨ok_CB_reason, rfl, by decide +kernel, by decide, by decide⟩, aw_5_83, aw_5_84, aw_5_85⟩
theorem cw_LH_isAnswerSo_241 : am_cv m_LH_isAnswerSo m_CB_whereTable 184 0 := ⟨⟨ok_CB_whereTable, rfl, by decide +kernel, by decide, by decide⟩, aw_5_87, aw_5_88, aw_5_89⟩
theorem cw_LH_isAnswerSo_285 : am_cv m_LH_isAnswerSo m_CB_cell 101 3 := ⟨⟨ok_CB_cell, rfl, by decide +kernel, by decide, by decide⟩, aw_4_144, aw_4_145, aw_4_146⟩
theorem cw_LH_isAnswerSo_316 : am_cv m_LH_isAnswerSo m_CB_reason 181 0 := ⟨⟨ok_CB_reason, rfl, by decide +kernel, by decide, by decide⟩, aw_5_83, aw_5_84, aw_5_85⟩
theorem cw_LH_isAnswerSo_331 : am_cv m_LH_isAnswerSo m_CB_broken 175 0 := ⟨⟨ok_CB_broken, rfl, by decide +kernel, by decide, by decide⟩, aw_5_74, aw_5_75, aw_5_76⟩
def f_LH_isAnswerSo_28  (s : am_M) (t : am_M) (x2 : Int32) (x3 : Int32) (x4 : Int32) (x5 : Int32) : Int32 × am_M × am_M := (if x4 = (-9999999 : Int32) then ((1 : Int32), s, t) else (if x4 = 0 then ((1 : Int32), s, t) else (if x5 = 0 then ((1 : Int32), s, t) else ((0 : Int32), s, t))))
def p_LH_isAnswerSo_28  (s : am_M) (t : am_M) (x2 : Int32) (x3 : Int32) (x4 : Int32) (x5 : Int32) : Prop := ((x4 = (-9999999 : Int32)) → True) ∧ (¬ (x4 = (-9999999 : Int32)) → ((x4 = 0) → True) ∧ (¬ (x4 = 0) → ((x5 = 0) → True) ∧ (¬ (x5 = 0) → True)))
set_option maxRecDepth 8000 in
theorem w_LH_isAnswerSo_28 {l : Launch} {g : am_Gl} (hg : g.2.2.2.1 = true) {ad0 : Nat → Nat}  {s : am_M} {t : am_M} {x2 : Int32} {x3 : Int32} {x4 : Int32} {x5 : Int32} {k z : Nat} (hk : k ≤ 38) (hz : z ≤ 228) (h : p_LH_isAnswerSo_28  s t x2 x3 x4 x5) : AW l g m_LH_isAnswerSo 414 ad0 (am_oC2 (f_LH_isAnswerSo_28  s t x2 x3 x4 x5)) k z 414 (jn s t) 28 [(0, .ref 0), (1, .ref 207), (2, .int x2), (3, .int x3), (4, .int x4), (5, .int x5)] [] := by
  refine am_iload (j := 4) d_LH_isAnswerSo_28 rfl ?_
  refine am_ldc (v := (-9999999 : Int32)) d_LH_isAnswerSo_30 aw_3_220 ?_
  refine aj_eq (F := am_oC2) (tgt := 45) d_LH_isAnswerSo_32 (by decide) (fun c => ?_) (fun c => ?_)
  · have h := h.1 c
    refine am_iconst (v := (1 : Int32)) d_LH_isAnswerSo_45 (by decide) ?_
    refine am_goto (tgt := 50) d_LH_isAnswerSo_46 (by decide) ?_
    exact am_iret d_LH_isAnswerSo_50 rfl (am_bool (Or.inr rfl)).1 (by show k ≤ 38; omega) (by show z ≤ 228; omega) am_oC2_ok
  · have h := h.2 c
    refine am_iload (j := 4) d_LH_isAnswerSo_35 rfl ?_
    refine ai_eq (F := am_oC2) (tgt := 45) d_LH_isAnswerSo_37 (by decide) (fun c => ?_) (fun c => ?_)
    · have h := h.1 c
      refine am_iconst (v := (1 : Int32)) d_LH_isAnswerSo_45 (by decide) ?_
      refine am_goto (tgt := 50) d_LH_isAnswerSo_46 (by decide) ?_
      exact am_iret d_LH_isAnswerSo_50 rfl (am_bool (Or.inr rfl)).1 (by show k ≤ 38; omega) (by show z ≤ 228; omega) am_oC2_ok
    · have h := h.2 c
      refine am_iload (j := 5) d_LH_isAnswerSo_40 rfl ?_
      refine ai_ne (F := am_oC2) (tgt := 49) d_LH_isAnswerSo_42 (by decide) (fun c => ?_) (fun c => ?_)
      · have h := h.2 c
        refine am_iconst (v := (0 : Int32)) d_LH_isAnswerSo_49 (by decide) ?_
        exact am_iret d_LH_isAnswerSo_50 rfl (am_bool (Or.inl rfl)).1 (by show k ≤ 38; omega) (by show z ≤ 228; omega) am_oC2_ok
      · have h := h.1 c
        refine am_iconst (v := (1 : Int32)) d_LH_isAnswerSo_45 (by decide) ?_
        refine am_goto (tgt := 50) d_LH_isAnswerSo_46 (by decide) ?_
        exact am_iret d_LH_isAnswerSo_50 rfl (am_bool (Or.inr rfl)).1 (by show k ≤ 38; omega) (by show z ≤ 228; omega) am_oC2_ok
def f_LH_isAnswerSo_315  (s : am_M) (t : am_M) (x2 : Int32) (x3 : Int32) (x4 : Int32) (x5 : Int32) (x6 : Int32) (x7 : Int32) (x8 : Int32) (x9 : Int32) (x10 : Int32) (x11 : Int32) (x12 : Int32) (y0 : Int32) : Int32 × am_M × am_M := (if (f_CB_reason s) = 0 then (if y0 = (1 : Int32) then (if (f_CB_broken s).1 = 0 then ((1 : Int32), (f_CB_broken s).2, t) else ((0 : Int32), (f_CB_broken s).2, t)) else ((0 : Int32), s, t)) else (if y0 = (0 : Int32) then (if (f_CB_broken s).1 = 0 then ((1 : Int32), (f_CB_broken s).2, t) else ((0 : Int32), (f_CB_broken s).2, t)) else ((0 : Int32), s, t)))
def p_LH_isAnswerSo_315  (s : am_M) (t : am_M) (x2 : Int32) (x3 : Int32) (x4 : Int32) (x5 : Int32) (x6 : Int32) (x7 : Int32) (x8 : Int32) (x9 : Int32) (x10 : Int32) (x11 : Int32) (x12 : Int32) (y0 : Int32) : Prop := (((f_CB_reason s) = 0) → ((y0 = (1 : Int32)) → p_CB_broken s ∧ ((((f_CB_broken s).1 = 0) → True) ∧ (¬ ((f_CB_broken s).1 = 0) → True))) ∧ (¬ (y0 = (1 : Int32)) → True)) ∧ (¬ ((f_CB_reason s) = 0) → ((y0 = (0 : Int32)) → p_CB_broken s ∧ ((((f_CB_broken s).1 = 0) → True) ∧ (¬ ((f_CB_broken s).1 = 0) → True))) ∧ (¬ (y0 = (0 : Int32)) → True))
set_option maxRecDepth 8000 in
theorem w_LH_isAnswerSo_315 {l : Launch} {g : am_Gl} (hg : g.2.2.2.1 = true) {ad0 : Nat → Nat}  {s : am_M} {t : am_M} {x2 : Int32} {x3 : Int32} {x4 : Int32} {x5 : Int32} {x6 : Int32} {x7 : Int32} {x8 : Int32} {x9 : Int32} {x10 : Int32} {x11 : Int32} {x12 : Int32} {y0 : Int32} {k z : Nat} (hk : k ≤ 38) (hz : z ≤ 228) (h : p_LH_isAnswerSo_315  s t x2 x3 x4 x5 x6 x7 x8 x9 x10 x11 x12 y0) : AW l g m_LH_isAnswerSo 414 ad0 (am_oC2 (f_LH_isAnswerSo_315  s t x2 x3 x4 x5 x6 x7 x8 x9 x10 x11 x12 y0)) k z 414 (jn s t) 315 [(0, .ref 0), (1, .ref 207), (2, .int x2), (3, .int x3), (4, .int x4), (5, .int x5), (6, .int x6), (7, .int x7), (8, .int x8), (9, .int x9), (10, .int x10), (11, .int x11), (12, .int x12)] [.int y0] := by
  refine am_aload_n (j := 0) d_LH_isAnswerSo_315 rfl rfl ?_
  refine ak9_V (as := []) (rest := [.int y0]) d_LH_isAnswerSo_316 cw_LH_isAnswerSo_316 rfl (am_2O hg rfl (fun _ => am_1I (ct_CB_reason hg))) rfl rfl rc_1 (Nat.le_of_ble_eq_true rfl) (by show k + 0 ≤ 38; omega) (by show z + 0 ≤ 228; omega) ?_
  refine ai_ne (F := am_oC2) (tgt := 326) d_LH_isAnswerSo_319 (by decide) (fun c => ?_) (fun c => ?_)
  · have h := h.2 c
    refine am_iconst (v := (0 : Int32)) d_LH_isAnswerSo_326 (by decide) ?_
    refine aj_ne (F := am_oC2) (tgt := 341) d_LH_isAnswerSo_327 (by decide) (fun c => ?_) (fun c => ?_)
    · have h := h.2 c
      refine am_iconst (v := (0 : Int32)) d_LH_isAnswerSo_341 (by decide) ?_
      exact am_iret d_LH_isAnswerSo_342 rfl (am_bool (Or.inl rfl)).1 (by show k + 0 ≤ 38; omega) (by show z + 0 ≤ 228; omega) am_oC2_ok
    · have h := h.1 c
      refine am_aload_n (j := 0) d_LH_isAnswerSo_330 rfl rfl ?_
      obtain ⟨hc, h⟩ := h
      refine ak9_V (as := []) (rest := []) d_LH_isAnswerSo_331 cw_LH_isAnswerSo_331 rfl (am_2O hg rfl (fun _ => am_1C (ct_CB_broken hg hc))) rfl rfl rc_1 (Nat.le_of_ble_eq_true rfl) (by show k + 0 + 0 ≤ 38; omega) (by show z + 0 + 0 ≤ 228; omega) ?_
      refine ai_ne (F := am_oC2) (tgt := 341) d_LH_isAnswerSo_334 (by decide) (fun c => ?_) (fun c => ?_)
      · have h := h.2 c
        refine am_iconst (v := (0 : Int32)) d_LH_isAnswerSo_341 (by decide) ?_
        exact am_iret d_LH_isAnswerSo_342 rfl (am_bool (Or.inl rfl)).1 (by show k + 0 + 0 ≤ 38; omega) (by show z + 0 + 0 ≤ 228; omega) am_oC2_ok
      · have h := h.1 c
        refine am_iconst (v := (1 : Int32)) d_LH_isAnswerSo_337 (by decide) ?_
        refine am_goto (tgt := 342) d_LH_isAnswerSo_338 (by decide) ?_
        exact am_iret d_LH_isAnswerSo_342 rfl (am_bool (Or.inr rfl)).1 (by show k + 0 + 0 ≤ 38; omega) (by show z + 0 + 0 ≤ 228; omega) am_oC2_ok
  · have h := h.1 c
    refine am_iconst (v := (1 : Int32)) d_LH_isAnswerSo_322 (by decide) ?_
    refine am_goto (tgt := 327) d_LH_isAnswerSo_323 (by decide) ?_
    refine aj_ne (F := am_oC2) (tgt := 341) d_LH_isAnswerSo_327 (by decide) (fun c => ?_) (fun c => ?_)
    · have h := h.2 c
      refine am_iconst (v := (0 : Int32)) d_LH_isAnswerSo_341 (by decide) ?_
      exact am_iret d_LH_isAnswerSo_342 rfl (am_bool (Or.inl rfl)).1 (by show k + 0 ≤ 38; omega) (by show z + 0 ≤ 228; omega) am_oC2_ok
    · have h := h.1 c
      refine am_aload_n (j := 0) d_LH_isAnswerSo_330 rfl rfl ?_
      obtain ⟨hc, h⟩ := h
      refine ak9_V (as := []) (rest := []) d_LH_isAnswerSo_331 cw_LH_isAnswerSo_331 rfl (am_2O hg rfl (fun _ => am_1C (ct_CB_broken hg hc))) rfl rfl rc_1 (Nat.le_of_ble_eq_true rfl) (by show k + 0 + 0 ≤ 38; omega) (by show z + 0 + 0 ≤ 228; omega) ?_
      refine ai_ne (F := am_oC2) (tgt := 341) d_LH_isAnswerSo_334 (by decide) (fun c => ?_) (fun c => ?_)
      · have h := h.2 c
        refine am_iconst (v := (0 : Int32)) d_LH_isAnswerSo_341 (by decide) ?_
        exact am_iret d_LH_isAnswerSo_342 rfl (am_bool (Or.inl rfl)).1 (by show k + 0 + 0 ≤ 38; omega) (by show z + 0 + 0 ≤ 228; omega) am_oC2_ok
      · have h := h.1 c
        refine am_iconst (v := (1 : Int32)) d_LH_isAnswerSo_337 (by decide) ?_
        refine am_goto (tgt := 342) d_LH_isAnswerSo_338 (by decide) ?_
        exact am_iret d_LH_isAnswerSo_342 rfl (am_bool (Or.inr rfl)).1 (by show k + 0 + 0 ≤ 38; omega) (by show z + 0 + 0 ≤ 228; omega) am_oC2_ok
def f_LH_isAnswerSo_304  (s : am_M) (t : am_M) (x2 : Int32) (x3 : Int32) (x4 : Int32) (x5 : Int32) (x6 : Int32) (x7 : Int32) (x8 : Int32) (x9 : Int32) (x10 : Int32) (x11 : Int32) (x12 : Int32) : Int32 × am_M × am_M := (if x12 = (1 : Int32) then (f_LH_isAnswerSo_315 s t x2 x3 x4 x5 x6 x7 x8 x9 x10 x11 x12 (1 : Int32)) else (f_LH_isAnswerSo_315 s t x2 x3 x4 x5 x6 x7 x8 x9 x10 x11 x12 (0 : Int32)))
def p_LH_isAnswerSo_304  (s : am_M) (t : am_M) (x2 : Int32) (x3 : Int32) (x4 : Int32) (x5 : Int32) (x6 : Int32) (x7 : Int32) (x8 : Int32) (x9 : Int32) (x10 : Int32) (x11 : Int32) (x12 : Int32) : Prop := ((x12 = (1 : Int32)) → (p_LH_isAnswerSo_315 s t x2 x3 x4 x5 x6 x7 x8 x9 x10 x11 x12 (1 : Int32))) ∧ (¬ (x12 = (1 : Int32)) → (p_LH_isAnswerSo_315 s t x2 x3 x4 x5 x6 x7 x8 x9 x10 x11 x12 (0 : Int32)))
set_option maxRecDepth 8000 in
theorem w_LH_isAnswerSo_304 {l : Launch} {g : am_Gl} (hg : g.2.2.2.1 = true) {ad0 : Nat → Nat}  {s : am_M} {t : am_M} {x2 : Int32} {x3 : Int32} {x4 : Int32} {x5 : Int32} {x6 : Int32} {x7 : Int32} {x8 : Int32} {x9 : Int32} {x10 : Int32} {x11 : Int32} {x12 : Int32} {k z : Nat} (hk : k ≤ 38) (hz : z ≤ 228) (h : p_LH_isAnswerSo_304  s t x2 x3 x4 x5 x6 x7 x8 x9 x10 x11 x12) : AW l g m_LH_isAnswerSo 414 ad0 (am_oC2 (f_LH_isAnswerSo_304  s t x2 x3 x4 x5 x6 x7 x8 x9 x10 x11 x12)) k z 414 (jn s t) 304 [(0, .ref 0), (1, .ref 207), (2, .int x2), (3, .int x3), (4, .int x4), (5, .int x5), (6, .int x6), (7, .int x7), (8, .int x8), (9, .int x9), (10, .int x10), (11, .int x11), (12, .int x12)] [] := by
  refine am_iload (j := 12) d_LH_isAnswerSo_304 rfl ?_
  refine am_iconst (v := (1 : Int32)) d_LH_isAnswerSo_306 (by decide) ?_
  refine aj_ne (F := am_oC2) (tgt := 314) d_LH_isAnswerSo_307 (by decide) (fun c => ?_) (fun c => ?_)
  · have h := h.2 c
    refine am_iconst (v := (0 : Int32)) d_LH_isAnswerSo_314 (by decide) ?_
    exact w_LH_isAnswerSo_315 hg  (by show k ≤ 38; omega) (by show z ≤ 228; omega) h
  · have h := h.1 c
    refine am_iconst (v := (1 : Int32)) d_LH_isAnswerSo_310 (by decide) ?_
    refine am_goto (tgt := 315) d_LH_isAnswerSo_311 (by decide) ?_
    exact w_LH_isAnswerSo_315 hg  (by show k ≤ 38; omega) (by show z ≤ 228; omega) h
def f_LH_isAnswerSo_301  (s : am_M) (t : am_M) (x2 : Int32) (x3 : Int32) (x4 : Int32) (x5 : Int32) (x6 : Int32) (x7 : Int32) (x8 : Int32) (x9 : Int32) (x10 : Int32) (x11 : Int32) (x12 : Int32) (y0 : Int32) (y1 : Int32) : Int32 × am_M × am_M := (if y0 = y1 then (f_LH_isAnswerSo_304 s t x2 x3 x4 x5 x6 x7 x8 x9 x10 x11 x12) else ((0 : Int32), s, t))
def p_LH_isAnswerSo_301  (s : am_M) (t : am_M) (x2 : Int32) (x3 : Int32) (x4 : Int32) (x5 : Int32) (x6 : Int32) (x7 : Int32) (x8 : Int32) (x9 : Int32) (x10 : Int32) (x11 : Int32) (x12 : Int32) (y0 : Int32) (y1 : Int32) : Prop := ((y0 = y1) → (p_LH_isAnswerSo_304 s t x2 x3 x4 x5 x6 x7 x8 x9 x10 x11 x12)) ∧ (¬ (y0 = y1) → True)
set_option maxRecDepth 8000 in
theorem w_LH_isAnswerSo_301 {l : Launch} {g : am_Gl} (hg : g.2.2.2.1 = true) {ad0 : Nat → Nat}  {s : am_M} {t : am_M} {x2 : Int32} {x3 : Int32} {x4 : Int32} {x5 : Int32} {x6 : Int32} {x7 : Int32} {x8 : Int32} {x9 : Int32} {x10 : Int32} {x11 : Int32} {x12 : Int32} {y0 : Int32} {y1 : Int32} {k z : Nat} (hk : k ≤ 38) (hz : z ≤ 228) (h : p_LH_isAnswerSo_301  s t x2 x3 x4 x5 x6 x7 x8 x9 x10 x11 x12 y0 y1) : AW l g m_LH_isAnswerSo 414 ad0 (am_oC2 (f_LH_isAnswerSo_301  s t x2 x3 x4 x5 x6 x7 x8 x9 x10 x11 x12 y0 y1)) k z 414 (jn s t) 301 [(0, .ref 0), (1, .ref 207), (2, .int x2), (3, .int x3), (4, .int x4), (5, .int x5), (6, .int x6), (7, .int x7), (8, .int x8), (9, .int x9), (10, .int x10), (11, .int x11), (12, .int x12)] [.int y1, .int y0] := by
  refine aj_ne (F := am_oC2) (tgt := 341) d_LH_isAnswerSo_301 (by decide) (fun c => ?_) (fun c => ?_)
  · have h := h.2 c
    refine am_iconst (v := (0 : Int32)) d_LH_isAnswerSo_341 (by decide) ?_
    exact am_iret d_LH_isAnswerSo_342 rfl (am_bool (Or.inl rfl)).1 (by show k ≤ 38; omega) (by show z ≤ 228; omega) am_oC2_ok
  · have h := h.1 c
    exact w_LH_isAnswerSo_304 hg  (by show k ≤ 38; omega) (by show z ≤ 228; omega) h
def f_LH_isAnswerSo_253  (s : am_M) (t : am_M) (x2 : Int32) (x3 : Int32) (x4 : Int32) (x5 : Int32) (x6 : Int32) (x7 : Int32) (x8 : Int32) (x9 : Int32) (x10 : Int32) (x11 : Int32) (x12 : Int32) (y0 : Int32) : Int32 × am_M × am_M := (if y0 = 0 then ((0 : Int32), s, t) else (if x9 < 0 then (f_LH_isAnswerSo_304 s t x2 x3 x4 x5 x6 x7 x8 x9 y0 x11 x12) else (if x12 = (1 : Int32) then (f_LH_isAnswerSo_301 (f_CB_cell s (x9 / (1000 : Int32)) ((x9 / (10 : Int32)) - (x9 / (10 : Int32)) / (100 : Int32) * (100 : Int32)) (x9 - x9 / (10 : Int32) * (10 : Int32))).2.2 t x2 x3 x4 x5 x6 x7 x8 x9 y0 x11 x12 (f_CB_cell s (x9 / (1000 : Int32)) ((x9 / (10 : Int32)) - (x9 / (10 : Int32)) / (100 : Int32) * (100 : Int32)) (x9 - x9 / (10 : Int32) * (10 : Int32))).2.1 x11) else (f_LH_isAnswerSo_301 (f_CB_cell s (x9 / (1000 : Int32)) ((x9 / (10 : Int32)) - (x9 / (10 : Int32)) / (100 : Int32) * (100 : Int32)) (x9 - x9 / (10 : Int32) * (10 : Int32))).2.2 t x2 x3 x4 x5 x6 x7 x8 x9 y0 x11 x12 (f_CB_cell s (x9 / (1000 : Int32)) ((x9 / (10 : Int32)) - (x9 / (10 : Int32)) / (100 : Int32) * (100 : Int32)) (x9 - x9 / (10 : Int32) * (10 : Int32))).2.1 x8))))
def p_LH_isAnswerSo_253  (s : am_M) (t : am_M) (x2 : Int32) (x3 : Int32) (x4 : Int32) (x5 : Int32) (x6 : Int32) (x7 : Int32) (x8 : Int32) (x9 : Int32) (x10 : Int32) (x11 : Int32) (x12 : Int32) (y0 : Int32) : Prop := ((y0 = 0) → True) ∧ (¬ (y0 = 0) → ((x9 < 0) → (p_LH_isAnswerSo_304 s t x2 x3 x4 x5 x6 x7 x8 x9 y0 x11 x12)) ∧ (¬ (x9 < 0) → p_CB_cell s (x9 / (1000 : Int32)) ((x9 / (10 : Int32)) - (x9 / (10 : Int32)) / (100 : Int32) * (100 : Int32)) (x9 - x9 / (10 : Int32) * (10 : Int32)) ∧ ((f_CB_cell s (x9 / (1000 : Int32)) ((x9 / (10 : Int32)) - (x9 / (10 : Int32)) / (100 : Int32) * (100 : Int32)) (x9 - x9 / (10 : Int32) * (10 : Int32))).1 = 0 ∧ (((x12 = (1 : Int32)) → (p_LH_isAnswerSo_301 (f_CB_cell s (x9 / (1000 : Int32)) ((x9 / (10 : Int32)) - (x9 / (10 : Int32)) / (100 : Int32) * (100 : Int32)) (x9 - x9 / (10 : Int32) * (10 : Int32))).2.2 t x2 x3 x4 x5 x6 x7 x8 x9 y0 x11 x12 (f_CB_cell s (x9 / (1000 : Int32)) ((x9 / (10 : Int32)) - (x9 / (10 : Int32)) / (100 : Int32) * (100 : Int32)) (x9 - x9 / (10 : Int32) * (10 : Int32))).2.1 x11)) ∧ (¬ (x12 = (1 : Int32)) → (p_LH_isAnswerSo_301 (f_CB_cell s (x9 / (1000 : Int32)) ((x9 / (10 : Int32)) - (x9 / (10 : Int32)) / (100 : Int32) * (100 : Int32)) (x9 - x9 / (10 : Int32) * (10 : Int32))).2.2 t x2 x3 x4 x5 x6 x7 x8 x9 y0 x11 x12 (f_CB_cell s (x9 / (1000 : Int32)) ((x9 / (10 : Int32)) - (x9 / (10 : Int32)) / (100 : Int32) * (100 : Int32)) (x9 - x9 / (10 : Int32) * (10 : Int32))).2.1 x8))))))
set_option maxRecDepth 8000 in
theorem w_LH_isAnswerSo_253 {l : Launch} {g : am_Gl} (hg : g.2.2.2.1 = true) {ad0 : Nat → Nat}  {s : am_M} {t : am_M} {x2 : Int32} {x3 : Int32} {x4 : Int32} {x5 : Int32} {x6 : Int32} {x7 : Int32} {x8 : Int32} {x9 : Int32} {x10 : Int32} {x11 : Int32} {x12 : Int32} {y0 : Int32} {k z : Nat} (hk : k ≤ 36) (hz : z ≤ 216) (h : p_LH_isAnswerSo_253  s t x2 x3 x4 x5 x6 x7 x8 x9 x10 x11 x12 y0) : AW l g m_LH_isAnswerSo 414 ad0 (am_oC2 (f_LH_isAnswerSo_253  s t x2 x3 x4 x5 x6 x7 x8 x9 x10 x11 x12 y0)) k z 414 (jn s t) 253 [(0, .ref 0), (1, .ref 207), (2, .int x2), (3, .int x3), (4, .int x4), (5, .int x5), (6, .int x6), (7, .int x7), (8, .int x8), (9, .int x9), (10, .int x10), (11, .int x11), (12, .int x12)] [.int y0] := by
  refine am_istore (lv2 := [(10, .int y0), (0, .ref 0), (1, .ref 207), (2, .int x2), (3, .int x3), (4, .int x4), (5, .int x5), (6, .int x6), (7, .int x7), (8, .int x8), (9, .int x9), (11, .int x11), (12, .int x12)]) d_LH_isAnswerSo_253 (by decide) rfl ?_
  refine am_iload (j := 0) d_LH_isAnswerSo_255 rfl ?_
  refine ai_eq (F := am_oC2) (tgt := 341) d_LH_isAnswerSo_257 (by decide) (fun c => ?_) (fun c => ?_)
  · have h := h.1 c
    refine am_iconst (v := (0 : Int32)) d_LH_isAnswerSo_341 (by decide) ?_
    exact am_iret d_LH_isAnswerSo_342 rfl (am_bool (Or.inl rfl)).1 (by show k ≤ 38; omega) (by show z ≤ 228; omega) am_oC2_ok
  · have h := h.2 c
    refine am_iload (j := 10) d_LH_isAnswerSo_260 rfl ?_
    refine ai_lt (F := am_oC2) (tgt := 304) d_LH_isAnswerSo_262 (by decide) (fun c => ?_) (fun c => ?_)
    · have h := h.1 c
      refine am_sub [1, 2, 3, 4, 5, 6, 7, 8, 9, 10, 0, 11, 12] (lv2 := [(0, .ref 0), (1, .ref 207), (2, .int x2), (3, .int x3), (4, .int x4), (5, .int x5), (6, .int x6), (7, .int x7), (8, .int x8), (9, .int x9), (10, .int y0), (11, .int x11), (12, .int x12)]) rfl ?_
      exact w_LH_isAnswerSo_304 hg  (by show k ≤ 38; omega) (by show z ≤ 228; omega) h
    · have h := h.2 c
      refine am_aload_n (j := 1) d_LH_isAnswerSo_265 rfl rfl ?_
      refine am_iload (j := 10) d_LH_isAnswerSo_266 rfl ?_
      refine am_sipush (v := (1000 : Int32)) d_LH_isAnswerSo_268 (by decide) ?_
      refine am_idiv d_LH_isAnswerSo_271 (by decide) ?_
      refine am_iload (j := 10) d_LH_isAnswerSo_272 rfl ?_
      refine am_bipush (v := (10 : Int32)) d_LH_isAnswerSo_274 (by decide) ?_
      refine am_idiv d_LH_isAnswerSo_276 (by decide) ?_
      refine am_bipush (v := (100 : Int32)) d_LH_isAnswerSo_277 (by decide) ?_
      refine am_irem d_LH_isAnswerSo_279 (by decide) ?_
      refine am_iload (j := 10) d_LH_isAnswerSo_280 rfl ?_
      refine am_bipush (v := (10 : Int32)) d_LH_isAnswerSo_282 (by decide) ?_
      refine am_irem d_LH_isAnswerSo_284 (by decide) ?_
      obtain ⟨hc, h⟩ := h
      obtain ⟨h0, h⟩ := h
      refine ak9_VX (as := [.int (x9 / (1000 : Int32)), .int ((x9 / (10 : Int32)) - (x9 / (10 : Int32)) / (100 : Int32) * (100 : Int32)), .int (x9 - x9 / (10 : Int32) * (10 : Int32))]) (rest := []) d_LH_isAnswerSo_285 cw_LH_isAnswerSo_285 rfl (am_2O hg rfl (fun _ => am_1E h0 (ct_CB_cell hg hc))) rfl rfl rc_1 (Nat.le_of_ble_eq_true rfl) (by show k + 2 ≤ 38; omega) (by show z + 12 ≤ 228; omega) ?_
      refine am_iload (j := 12) d_LH_isAnswerSo_288 rfl ?_
      refine am_iconst (v := (1 : Int32)) d_LH_isAnswerSo_290 (by decide) ?_
      refine aj_ne (F := am_oC2) (tgt := 299) d_LH_isAnswerSo_291 (by decide) (fun c => ?_) (fun c => ?_)
      · have h := h.2 c
        refine am_iload (j := 9) d_LH_isAnswerSo_299 rfl ?_
        refine am_sub [1, 2, 3, 4, 5, 6, 7, 8, 9, 10, 0, 11, 12] (lv2 := [(0, .ref 0), (1, .ref 207), (2, .int x2), (3, .int x3), (4, .int x4), (5, .int x5), (6, .int x6), (7, .int x7), (8, .int x8), (9, .int x9), (10, .int y0), (11, .int x11), (12, .int x12)]) rfl ?_
        exact w_LH_isAnswerSo_301 hg  (by show k + 2 ≤ 38; omega) (by show z + 12 ≤ 228; omega) h
      · have h := h.1 c
        refine am_iload (j := 11) d_LH_isAnswerSo_294 rfl ?_
        refine am_goto (tgt := 301) d_LH_isAnswerSo_296 (by decide) ?_
        refine am_sub [1, 2, 3, 4, 5, 6, 7, 8, 9, 10, 0, 11, 12] (lv2 := [(0, .ref 0), (1, .ref 207), (2, .int x2), (3, .int x3), (4, .int x4), (5, .int x5), (6, .int x6), (7, .int x7), (8, .int x8), (9, .int x9), (10, .int y0), (11, .int x11), (12, .int x12)]) rfl ?_
        exact w_LH_isAnswerSo_301 hg  (by show k + 2 ≤ 38; omega) (by show z + 12 ≤ 228; omega) h
def f_LH_isAnswerSo_248  (s : am_M) (t : am_M) (x2 : Int32) (x3 : Int32) (x4 : Int32) (x5 : Int32) (x6 : Int32) (x7 : Int32) (x8 : Int32) (x9 : Int32) (x10 : Int32) (x11 : Int32) (x12 : Int32) : Int32 × am_M × am_M := (f_LH_isAnswerSo_253 s t x2 x3 x4 x5 x6 x7 x8 x9 x10 x11 x12 (1 : Int32))
def p_LH_isAnswerSo_248  (s : am_M) (t : am_M) (x2 : Int32) (x3 : Int32) (x4 : Int32) (x5 : Int32) (x6 : Int32) (x7 : Int32) (x8 : Int32) (x9 : Int32) (x10 : Int32) (x11 : Int32) (x12 : Int32) : Prop := (p_LH_isAnswerSo_253 s t x2 x3 x4 x5 x6 x7 x8 x9 x10 x11 x12 (1 : Int32))
set_option maxRecDepth 8000 in
theorem w_LH_isAnswerSo_248 {l : Launch} {g : am_Gl} (hg : g.2.2.2.1 = true) {ad0 : Nat → Nat}  {s : am_M} {t : am_M} {x2 : Int32} {x3 : Int32} {x4 : Int32} {x5 : Int32} {x6 : Int32} {x7 : Int32} {x8 : Int32} {x9 : Int32} {x10 : Int32} {x11 : Int32} {x12 : Int32} {k z : Nat} (hk : k ≤ 36) (hz : z ≤ 216) (h : p_LH_isAnswerSo_248  s t x2 x3 x4 x5 x6 x7 x8 x9 x10 x11 x12) : AW l g m_LH_isAnswerSo 414 ad0 (am_oC2 (f_LH_isAnswerSo_248  s t x2 x3 x4 x5 x6 x7 x8 x9 x10 x11 x12)) k z 414 (jn s t) 248 [(0, .ref 0), (1, .ref 207), (2, .int x2), (3, .int x3), (4, .int x4), (5, .int x5), (6, .int x6), (7, .int x7), (8, .int x8), (9, .int x9), (10, .int x10), (11, .int x11), (12, .int x12)] [] := by
  refine am_iconst (v := (1 : Int32)) d_LH_isAnswerSo_248 (by decide) ?_
  refine am_goto (tgt := 253) d_LH_isAnswerSo_249 (by decide) ?_
  exact w_LH_isAnswerSo_253 hg  (by show k ≤ 36; omega) (by show z ≤ 216; omega) h
def f_LH_isAnswerSo_252  (s : am_M) (t : am_M) (x2 : Int32) (x3 : Int32) (x4 : Int32) (x5 : Int32) (x6 : Int32) (x7 : Int32) (x8 : Int32) (x9 : Int32) (x10 : Int32) (x11 : Int32) (x12 : Int32) : Int32 × am_M × am_M := (f_LH_isAnswerSo_253 s t x2 x3 x4 x5 x6 x7 x8 x9 x10 x11 x12 (0 : Int32))
def p_LH_isAnswerSo_252  (s : am_M) (t : am_M) (x2 : Int32) (x3 : Int32) (x4 : Int32) (x5 : Int32) (x6 : Int32) (x7 : Int32) (x8 : Int32) (x9 : Int32) (x10 : Int32) (x11 : Int32) (x12 : Int32) : Prop := (p_LH_isAnswerSo_253 s t x2 x3 x4 x5 x6 x7 x8 x9 x10 x11 x12 (0 : Int32))
set_option maxRecDepth 8000 in
theorem w_LH_isAnswerSo_252 {l : Launch} {g : am_Gl} (hg : g.2.2.2.1 = true) {ad0 : Nat → Nat}  {s : am_M} {t : am_M} {x2 : Int32} {x3 : Int32} {x4 : Int32} {x5 : Int32} {x6 : Int32} {x7 : Int32} {x8 : Int32} {x9 : Int32} {x10 : Int32} {x11 : Int32} {x12 : Int32} {k z : Nat} (hk : k ≤ 36) (hz : z ≤ 216) (h : p_LH_isAnswerSo_252  s t x2 x3 x4 x5 x6 x7 x8 x9 x10 x11 x12) : AW l g m_LH_isAnswerSo 414 ad0 (am_oC2 (f_LH_isAnswerSo_252  s t x2 x3 x4 x5 x6 x7 x8 x9 x10 x11 x12)) k z 414 (jn s t) 252 [(0, .ref 0), (1, .ref 207), (2, .int x2), (3, .int x3), (4, .int x4), (5, .int x5), (6, .int x6), (7, .int x7), (8, .int x8), (9, .int x9), (10, .int x10), (11, .int x11), (12, .int x12)] [] := by
  refine am_iconst (v := (0 : Int32)) d_LH_isAnswerSo_252 (by decide) ?_
  exact w_LH_isAnswerSo_253 hg  (by show k ≤ 36; omega) (by show z ≤ 216; omega) h
def f_LH_isAnswerSo_168  (s : am_M) (t : am_M) (x2 : Int32) (x3 : Int32) (x4 : Int32) (x5 : Int32) (x6 : Int32) (x7 : Int32) (x8 : Int32) (x9 : Int32) (y0 : Int32) : Int32 × am_M × am_M := (if y0 = 0 then (f_LH_isAnswerSo_252 (f_LH_asks s (6 : Int32) x2 x6 x7 (f_LH_low s (x3 >>> ((7 : Int32) &&& 31)) (12 : Int32)) (0 : Int32)).2 t x2 x3 x4 x5 x6 x7 x8 x9 y0 (f_LH_low s (x3 >>> ((7 : Int32) &&& 31)) (12 : Int32)) (f_LH_asks s (6 : Int32) x2 x6 x7 (f_LH_low s (x3 >>> ((7 : Int32) &&& 31)) (12 : Int32)) (0 : Int32)).1) else (if (f_LH_asks t (6 : Int32) x2 x6 x7 (f_LH_low s (x3 >>> ((7 : Int32) &&& 31)) (12 : Int32)) (0 : Int32)).1 = (f_LH_asks s (6 : Int32) x2 x6 x7 (f_LH_low s (x3 >>> ((7 : Int32) &&& 31)) (12 : Int32)) (0 : Int32)).1 then (if 0 ≤ x9 then (f_LH_isAnswerSo_248 (f_LH_asks s (6 : Int32) x2 x6 x7 (f_LH_low s (x3 >>> ((7 : Int32) &&& 31)) (12 : Int32)) (0 : Int32)).2 (f_LH_asks t (6 : Int32) x2 x6 x7 (f_LH_low s (x3 >>> ((7 : Int32) &&& 31)) (12 : Int32)) (0 : Int32)).2 x2 x3 x4 x5 x6 x7 x8 x9 y0 (f_LH_low s (x3 >>> ((7 : Int32) &&& 31)) (12 : Int32)) (f_LH_asks s (6 : Int32) x2 x6 x7 (f_LH_low s (x3 >>> ((7 : Int32) &&& 31)) (12 : Int32)) (0 : Int32)).1) else (if (f_LH_asks s (6 : Int32) x2 x6 x7 (f_LH_low s (x3 >>> ((7 : Int32) &&& 31)) (12 : Int32)) (0 : Int32)).1 = 0 then (if (f_CB_reason (f_LH_asks s (6 : Int32) x2 x6 x7 (f_LH_low s (x3 >>> ((7 : Int32) &&& 31)) (12 : Int32)) (0 : Int32)).2) = (7 : Int32) then (if (f_CB_whereTable (f_LH_asks s (6 : Int32) x2 x6 x7 (f_LH_low s (x3 >>> ((7 : Int32) &&& 31)) (12 : Int32)) (0 : Int32)).2) = (-1 : Int32) then (f_LH_isAnswerSo_248 (f_LH_asks s (6 : Int32) x2 x6 x7 (f_LH_low s (x3 >>> ((7 : Int32) &&& 31)) (12 : Int32)) (0 : Int32)).2 (f_LH_asks t (6 : Int32) x2 x6 x7 (f_LH_low s (x3 >>> ((7 : Int32) &&& 31)) (12 : Int32)) (0 : Int32)).2 x2 x3 x4 x5 x6 x7 x8 x9 y0 (f_LH_low s (x3 >>> ((7 : Int32) &&& 31)) (12 : Int32)) (f_LH_asks s (6 : Int32) x2 x6 x7 (f_LH_low s (x3 >>> ((7 : Int32) &&& 31)) (12 : Int32)) (0 : Int32)).1) else (f_LH_isAnswerSo_252 (f_LH_asks s (6 : Int32) x2 x6 x7 (f_LH_low s (x3 >>> ((7 : Int32) &&& 31)) (12 : Int32)) (0 : Int32)).2 (f_LH_asks t (6 : Int32) x2 x6 x7 (f_LH_low s (x3 >>> ((7 : Int32) &&& 31)) (12 : Int32)) (0 : Int32)).2 x2 x3 x4 x5 x6 x7 x8 x9 y0 (f_LH_low s (x3 >>> ((7 : Int32) &&& 31)) (12 : Int32)) (f_LH_asks s (6 : Int32) x2 x6 x7 (f_LH_low s (x3 >>> ((7 : Int32) &&& 31)) (12 : Int32)) (0 : Int32)).1)) else (f_LH_isAnswerSo_252 (f_LH_asks s (6 : Int32) x2 x6 x7 (f_LH_low s (x3 >>> ((7 : Int32) &&& 31)) (12 : Int32)) (0 : Int32)).2 (f_LH_asks t (6 : Int32) x2 x6 x7 (f_LH_low s (x3 >>> ((7 : Int32) &&& 31)) (12 : Int32)) (0 : Int32)).2 x2 x3 x4 x5 x6 x7 x8 x9 y0 (f_LH_low s (x3 >>> ((7 : Int32) &&& 31)) (12 : Int32)) (f_LH_asks s (6 : Int32) x2 x6 x7 (f_LH_low s (x3 >>> ((7 : Int32) &&& 31)) (12 : Int32)) (0 : Int32)).1)) else (f_LH_isAnswerSo_252 (f_LH_asks s (6 : Int32) x2 x6 x7 (f_LH_low s (x3 >>> ((7 : Int32) &&& 31)) (12 : Int32)) (0 : Int32)).2 (f_LH_asks t (6 : Int32) x2 x6 x7 (f_LH_low s (x3 >>> ((7 : Int32) &&& 31)) (12 : Int32)) (0 : Int32)).2 x2 x3 x4 x5 x6 x7 x8 x9 y0 (f_LH_low s (x3 >>> ((7 : Int32) &&& 31)) (12 : Int32)) (f_LH_asks s (6 : Int32) x2 x6 x7 (f_LH_low s (x3 >>> ((7 : Int32) &&& 31)) (12 : Int32)) (0 : Int32)).1))) else (f_LH_isAnswerSo_252 (f_LH_asks s (6 : Int32) x2 x6 x7 (f_LH_low s (x3 >>> ((7 : Int32) &&& 31)) (12 : Int32)) (0 : Int32)).2 (f_LH_asks t (6 : Int32) x2 x6 x7 (f_LH_low s (x3 >>> ((7 : Int32) &&& 31)) (12 : Int32)) (0 : Int32)).2 x2 x3 x4 x5 x6 x7 x8 x9 y0 (f_LH_low s (x3 >>> ((7 : Int32) &&& 31)) (12 : Int32)) (f_LH_asks s (6 : Int32) x2 x6 x7 (f_LH_low s (x3 >>> ((7 : Int32) &&& 31)) (12 : Int32)) (0 : Int32)).1)))
def p_LH_isAnswerSo_168  (s : am_M) (t : am_M) (x2 : Int32) (x3 : Int32) (x4 : Int32) (x5 : Int32) (x6 : Int32) (x7 : Int32) (x8 : Int32) (x9 : Int32) (y0 : Int32) : Prop := p_LH_low s (x3 >>> ((7 : Int32) &&& 31)) (12 : Int32) ∧ (p_LH_asks s (6 : Int32) x2 x6 x7 (f_LH_low s (x3 >>> ((7 : Int32) &&& 31)) (12 : Int32)) (0 : Int32) ∧ (((y0 = 0) → (p_LH_isAnswerSo_252 (f_LH_asks s (6 : Int32) x2 x6 x7 (f_LH_low s (x3 >>> ((7 : Int32) &&& 31)) (12 : Int32)) (0 : Int32)).2 t x2 x3 x4 x5 x6 x7 x8 x9 y0 (f_LH_low s (x3 >>> ((7 : Int32) &&& 31)) (12 : Int32)) (f_LH_asks s (6 : Int32) x2 x6 x7 (f_LH_low s (x3 >>> ((7 : Int32) &&& 31)) (12 : Int32)) (0 : Int32)).1)) ∧ (¬ (y0 = 0) → p_LH_asks t (6 : Int32) x2 x6 x7 (f_LH_low s (x3 >>> ((7 : Int32) &&& 31)) (12 : Int32)) (0 : Int32) ∧ ((((f_LH_asks t (6 : Int32) x2 x6 x7 (f_LH_low s (x3 >>> ((7 : Int32) &&& 31)) (12 : Int32)) (0 : Int32)).1 = (f_LH_asks s (6 : Int32) x2 x6 x7 (f_LH_low s (x3 >>> ((7 : Int32) &&& 31)) (12 : Int32)) (0 : Int32)).1) → ((0 ≤ x9) → (p_LH_isAnswerSo_248 (f_LH_asks s (6 : Int32) x2 x6 x7 (f_LH_low s (x3 >>> ((7 : Int32) &&& 31)) (12 : Int32)) (0 : Int32)).2 (f_LH_asks t (6 : Int32) x2 x6 x7 (f_LH_low s (x3 >>> ((7 : Int32) &&& 31)) (12 : Int32)) (0 : Int32)).2 x2 x3 x4 x5 x6 x7 x8 x9 y0 (f_LH_low s (x3 >>> ((7 : Int32) &&& 31)) (12 : Int32)) (f_LH_asks s (6 : Int32) x2 x6 x7 (f_LH_low s (x3 >>> ((7 : Int32) &&& 31)) (12 : Int32)) (0 : Int32)).1)) ∧ (¬ (0 ≤ x9) → (((f_LH_asks s (6 : Int32) x2 x6 x7 (f_LH_low s (x3 >>> ((7 : Int32) &&& 31)) (12 : Int32)) (0 : Int32)).1 = 0) → (((f_CB_reason (f_LH_asks s (6 : Int32) x2 x6 x7 (f_LH_low s (x3 >>> ((7 : Int32) &&& 31)) (12 : Int32)) (0 : Int32)).2) = (7 : Int32)) → (((f_CB_whereTable (f_LH_asks s (6 : Int32) x2 x6 x7 (f_LH_low s (x3 >>> ((7 : Int32) &&& 31)) (12 : Int32)) (0 : Int32)).2) = (-1 : Int32)) → (p_LH_isAnswerSo_248 (f_LH_asks s (6 : Int32) x2 x6 x7 (f_LH_low s (x3 >>> ((7 : Int32) &&& 31)) (12 : Int32)) (0 : Int32)).2 (f_LH_asks t (6 : Int32) x2 x6 x7 (f_LH_low s (x3 >>> ((7 : Int32) &&& 31)) (12 : Int32)) (0 : Int32)).2 x2 x3 x4 x5 x6 x7 x8 x9 y0 (f_LH_low s (x3 >>> ((7 : Int32) &&& 31)) (12 : Int32)) (f_LH_asks s (6 : Int32) x2 x6 x7 (f_LH_low s (x3 >>> ((7 : Int32) &&& 31)) (12 : Int32)) (0 : Int32)).1)) ∧ (¬ ((f_CB_whereTable (f_LH_asks s (6 : Int32) x2 x6 x7 (f_LH_low s (x3 >>> ((7 : Int32) &&& 31)) (12 : Int32)) (0 : Int32)).2) = (-1 : Int32)) → (p_LH_isAnswerSo_252 (f_LH_asks s (6 : Int32) x2 x6 x7 (f_LH_low s (x3 >>> ((7 : Int32) &&& 31)) (12 : Int32)) (0 : Int32)).2 (f_LH_asks t (6 : Int32) x2 x6 x7 (f_LH_low s (x3 >>> ((7 : Int32) &&& 31)) (12 : Int32)) (0 : Int32)).2 x2 x3 x4 x5 x6 x7 x8 x9 y0 (f_LH_low s (x3 >>> ((7 : Int32) &&& 31)) (12 : Int32)) (f_LH_asks s (6 : Int32) x2 x6 x7 (f_LH_low s (x3 >>> ((7 : Int32) &&& 31)) (12 : Int32)) (0 : Int32)).1))) ∧ (¬ ((f_CB_reason (f_LH_asks s (6 : Int32) x2 x6 x7 (f_LH_low s (x3 >>> ((7 : Int32) &&& 31)) (12 : Int32)) (0 : Int32)).2) = (7 : Int32)) → (p_LH_isAnswerSo_252 (f_LH_asks s (6 : Int32) x2 x6 x7 (f_LH_low s (x3 >>> ((7 : Int32) &&& 31)) (12 : Int32)) (0 : Int32)).2 (f_LH_asks t (6 : Int32) x2 x6 x7 (f_LH_low s (x3 >>> ((7 : Int32) &&& 31)) (12 : Int32)) (0 : Int32)).2 x2 x3 x4 x5 x6 x7 x8 x9 y0 (f_LH_low s (x3 >>> ((7 : Int32) &&& 31)) (12 : Int32)) (f_LH_asks s (6 : Int32) x2 x6 x7 (f_LH_low s (x3 >>> ((7 : Int32) &&& 31)) (12 : Int32)) (0 : Int32)).1))) ∧ (¬ ((f_LH_asks s (6 : Int32) x2 x6 x7 (f_LH_low s (x3 >>> ((7 : Int32) &&& 31)) (12 : Int32)) (0 : Int32)).1 = 0) → (p_LH_isAnswerSo_252 (f_LH_asks s (6 : Int32) x2 x6 x7 (f_LH_low s (x3 >>> ((7 : Int32) &&& 31)) (12 : Int32)) (0 : Int32)).2 (f_LH_asks t (6 : Int32) x2 x6 x7 (f_LH_low s (x3 >>> ((7 : Int32) &&& 31)) (12 : Int32)) (0 : Int32)).2 x2 x3 x4 x5 x6 x7 x8 x9 y0 (f_LH_low s (x3 >>> ((7 : Int32) &&& 31)) (12 : Int32)) (f_LH_asks s (6 : Int32) x2 x6 x7 (f_LH_low s (x3 >>> ((7 : Int32) &&& 31)) (12 : Int32)) (0 : Int32)).1)))) ∧ (¬ ((f_LH_asks t (6 : Int32) x2 x6 x7 (f_LH_low s (x3 >>> ((7 : Int32) &&& 31)) (12 : Int32)) (0 : Int32)).1 = (f_LH_asks s (6 : Int32) x2 x6 x7 (f_LH_low s (x3 >>> ((7 : Int32) &&& 31)) (12 : Int32)) (0 : Int32)).1) → (p_LH_isAnswerSo_252 (f_LH_asks s (6 : Int32) x2 x6 x7 (f_LH_low s (x3 >>> ((7 : Int32) &&& 31)) (12 : Int32)) (0 : Int32)).2 (f_LH_asks t (6 : Int32) x2 x6 x7 (f_LH_low s (x3 >>> ((7 : Int32) &&& 31)) (12 : Int32)) (0 : Int32)).2 x2 x3 x4 x5 x6 x7 x8 x9 y0 (f_LH_low s (x3 >>> ((7 : Int32) &&& 31)) (12 : Int32)) (f_LH_asks s (6 : Int32) x2 x6 x7 (f_LH_low s (x3 >>> ((7 : Int32) &&& 31)) (12 : Int32)) (0 : Int32)).1))))))
set_option maxRecDepth 8000 in
theorem w_LH_isAnswerSo_168 {l : Launch} {g : am_Gl} (hg : g.2.2.2.1 = true) {ad0 : Nat → Nat}  {s : am_M} {t : am_M} {x2 : Int32} {x3 : Int32} {x4 : Int32} {x5 : Int32} {x6 : Int32} {x7 : Int32} {x8 : Int32} {x9 : Int32} {y0 : Int32} {k z : Nat} (hk : k ≤ 22) (hz : z ≤ 132) (h : p_LH_isAnswerSo_168  s t x2 x3 x4 x5 x6 x7 x8 x9 y0) : AW l g m_LH_isAnswerSo 414 ad0 (am_oC2 (f_LH_isAnswerSo_168  s t x2 x3 x4 x5 x6 x7 x8 x9 y0)) k z 414 (jn s t) 168 [(0, .ref 0), (1, .ref 207), (2, .int x2), (3, .int x3), (4, .int x4), (5, .int x5), (6, .int x6), (7, .int x7), (8, .int x8), (9, .int x9)] [.int y0] := by
  refine am_istore (lv2 := [(10, .int y0), (0, .ref 0), (1, .ref 207), (2, .int x2), (3, .int x3), (4, .int x4), (5, .int x5), (6, .int x6), (7, .int x7), (8, .int x8), (9, .int x9)]) d_LH_isAnswerSo_168 (by decide) rfl ?_
  refine am_iload_n (j := 4) d_LH_isAnswerSo_170 rfl rfl ?_
  refine am_bipush (v := (7 : Int32)) d_LH_isAnswerSo_171 (by decide) ?_
  refine am_ishr d_LH_isAnswerSo_173 ?_
  refine am_bipush (v := (12 : Int32)) d_LH_isAnswerSo_174 (by decide) ?_
  obtain ⟨hc, h⟩ := h
  refine ak9_S (as := [.int (x3 >>> ((7 : Int32) &&& 31)), .int (12 : Int32)]) (rest := []) d_LH_isAnswerSo_176 cw_LH_isAnswerSo_176 rfl (am_2O hg rfl (fun _ => am_1I (ct_LH_low hg hc))) rfl rfl (Nat.le_of_ble_eq_true rfl) (by show k + 0 ≤ 38; omega) (by show z + 0 ≤ 228; omega) ?_
  refine am_istore (lv2 := [(11, .int (f_LH_low s (x3 >>> ((7 : Int32) &&& 31)) (12 : Int32))), (10, .int y0), (0, .ref 0), (1, .ref 207), (2, .int x2), (3, .int x3), (4, .int x4), (5, .int x5), (6, .int x6), (7, .int x7), (8, .int x8), (9, .int x9)]) d_LH_isAnswerSo_179 (by decide) rfl ?_
  refine am_aload_n (j := 2) d_LH_isAnswerSo_181 rfl rfl ?_
  refine am_bipush (v := (6 : Int32)) d_LH_isAnswerSo_182 (by decide) ?_
  refine am_iload_n (j := 4) d_LH_isAnswerSo_184 rfl rfl ?_
  refine am_iload (j := 8) d_LH_isAnswerSo_185 rfl ?_
  refine am_iload (j := 9) d_LH_isAnswerSo_187 rfl ?_
  refine am_iload (j := 0) d_LH_isAnswerSo_189 rfl ?_
  refine am_iconst (v := (0 : Int32)) d_LH_isAnswerSo_191 (by decide) ?_
  obtain ⟨hc, h⟩ := h
  refine ak9_SX (as := [.ref 0, .int (6 : Int32), .int x2, .int x6, .int x7, .int (f_LH_low s (x3 >>> ((7 : Int32) &&& 31)) (12 : Int32)), .int (0 : Int32)]) (rest := []) d_LH_isAnswerSo_192 cw_LH_isAnswerSo_192 rfl (am_2O hg rfl (fun _ => am_1C (ct_LH_asks hg hc))) rfl rfl (Nat.le_of_ble_eq_true rfl) (by show k + 0 + 7 ≤ 38; omega) (by show z + 0 + 42 ≤ 228; omega) ?_
  refine am_istore (lv2 := [(12, .int (f_LH_asks s (6 : Int32) x2 x6 x7 (f_LH_low s (x3 >>> ((7 : Int32) &&& 31)) (12 : Int32)) (0 : Int32)).1), (11, .int (f_LH_low s (x3 >>> ((7 : Int32) &&& 31)) (12 : Int32))), (10, .int y0), (0, .ref 0), (1, .ref 207), (2, .int x2), (3, .int x3), (4, .int x4), (5, .int x5), (6, .int x6), (7, .int x7), (8, .int x8), (9, .int x9)]) d_LH_isAnswerSo_195 (by decide) rfl ?_
  refine am_iload (j := 2) d_LH_isAnswerSo_197 rfl ?_
  refine ai_eq (F := am_oC2) (tgt := 252) d_LH_isAnswerSo_199 (by decide) (fun c => ?_) (fun c => ?_)
  · have h := h.1 c
    refine am_sub [3, 4, 5, 6, 7, 8, 9, 10, 11, 12, 2, 1, 0] (lv2 := [(0, .ref 0), (1, .ref 207), (2, .int x2), (3, .int x3), (4, .int x4), (5, .int x5), (6, .int x6), (7, .int x7), (8, .int x8), (9, .int x9), (10, .int y0), (11, .int (f_LH_low s (x3 >>> ((7 : Int32) &&& 31)) (12 : Int32))), (12, .int (f_LH_asks s (6 : Int32) x2 x6 x7 (f_LH_low s (x3 >>> ((7 : Int32) &&& 31)) (12 : Int32)) (0 : Int32)).1)]) rfl ?_
    exact w_LH_isAnswerSo_252 hg  (by show k + 0 + 7 ≤ 36; omega) (by show z + 0 + 42 ≤ 216; omega) h
  · have h := h.2 c
    refine am_aload_n (j := 4) d_LH_isAnswerSo_202 rfl rfl ?_
    refine am_bipush (v := (6 : Int32)) d_LH_isAnswerSo_203 (by decide) ?_
    refine am_iload_n (j := 5) d_LH_isAnswerSo_205 rfl rfl ?_
    refine am_iload (j := 9) d_LH_isAnswerSo_206 rfl ?_
    refine am_iload (j := 10) d_LH_isAnswerSo_208 rfl ?_
    refine am_iload (j := 1) d_LH_isAnswerSo_210 rfl ?_
    refine am_iconst (v := (0 : Int32)) d_LH_isAnswerSo_212 (by decide) ?_
    obtain ⟨hc, h⟩ := h
    refine ak9_SX (as := [.ref 207, .int (6 : Int32), .int x2, .int x6, .int x7, .int (f_LH_low s (x3 >>> ((7 : Int32) &&& 31)) (12 : Int32)), .int (0 : Int32)]) (rest := []) d_LH_isAnswerSo_213 cw_LH_isAnswerSo_213 rfl (am_2P (av1 := [.ref 0, .int (6 : Int32), .int x2, .int x6, .int x7, .int (f_LH_low s (x3 >>> ((7 : Int32) &&& 31)) (12 : Int32)), .int (0 : Int32)]) hg rfl (fun _ => rfl) (fun _ => am_1C (ct_LH_asks hg hc))) rfl rfl (Nat.le_of_ble_eq_true rfl) (by show k + 0 + 7 + 7 ≤ 38; omega) (by show z + 0 + 42 + 42 ≤ 228; omega) ?_
    refine am_iload (j := 0) d_LH_isAnswerSo_216 rfl ?_
    refine aj_ne (F := am_oC2) (tgt := 252) d_LH_isAnswerSo_218 (by decide) (fun c => ?_) (fun c => ?_)
    · have h := h.2 c
      refine am_sub [3, 4, 5, 6, 7, 8, 9, 10, 11, 12, 2, 1, 0] (lv2 := [(0, .ref 0), (1, .ref 207), (2, .int x2), (3, .int x3), (4, .int x4), (5, .int x5), (6, .int x6), (7, .int x7), (8, .int x8), (9, .int x9), (10, .int y0), (11, .int (f_LH_low s (x3 >>> ((7 : Int32) &&& 31)) (12 : Int32))), (12, .int (f_LH_asks s (6 : Int32) x2 x6 x7 (f_LH_low s (x3 >>> ((7 : Int32) &&& 31)) (12 : Int32)) (0 : Int32)).1)]) rfl ?_
      exact w_LH_isAnswerSo_252 hg  (by show k + 0 + 7 + 7 ≤ 36; omega) (by show z + 0 + 42 + 42 ≤ 216; omega) h
    · have h := h.1 c
      refine am_iload (j := 12) d_LH_isAnswerSo_221 rfl ?_
      refine ai_ge (F := am_oC2) (tgt := 248) d_LH_isAnswerSo_223 (by decide) (fun c => ?_) (fun c => ?_)
      · have h := h.1 c
        refine am_sub [3, 4, 5, 6, 7, 8, 9, 10, 11, 12, 2, 1, 0] (lv2 := [(0, .ref 0), (1, .ref 207), (2, .int x2), (3, .int x3), (4, .int x4), (5, .int x5), (6, .int x6), (7, .int x7), (8, .int x8), (9, .int x9), (10, .int y0), (11, .int (f_LH_low s (x3 >>> ((7 : Int32) &&& 31)) (12 : Int32))), (12, .int (f_LH_asks s (6 : Int32) x2 x6 x7 (f_LH_low s (x3 >>> ((7 : Int32) &&& 31)) (12 : Int32)) (0 : Int32)).1)]) rfl ?_
        exact w_LH_isAnswerSo_248 hg  (by show k + 0 + 7 + 7 ≤ 36; omega) (by show z + 0 + 42 + 42 ≤ 216; omega) h
      · have h := h.2 c
        refine am_iload (j := 0) d_LH_isAnswerSo_226 rfl ?_
        refine ai_ne (F := am_oC2) (tgt := 252) d_LH_isAnswerSo_228 (by decide) (fun c => ?_) (fun c => ?_)
        · have h := h.2 c
          refine am_sub [3, 4, 5, 6, 7, 8, 9, 10, 11, 12, 2, 1, 0] (lv2 := [(0, .ref 0), (1, .ref 207), (2, .int x2), (3, .int x3), (4, .int x4), (5, .int x5), (6, .int x6), (7, .int x7), (8, .int x8), (9, .int x9), (10, .int y0), (11, .int (f_LH_low s (x3 >>> ((7 : Int32) &&& 31)) (12 : Int32))), (12, .int (f_LH_asks s (6 : Int32) x2 x6 x7 (f_LH_low s (x3 >>> ((7 : Int32) &&& 31)) (12 : Int32)) (0 : Int32)).1)]) rfl ?_
          exact w_LH_isAnswerSo_252 hg  (by show k + 0 + 7 + 7 ≤ 36; omega) (by show z + 0 + 42 + 42 ≤ 216; omega) h
        · have h := h.1 c
          refine am_aload_n (j := 3) d_LH_isAnswerSo_231 rfl rfl ?_
          refine ak9_V (as := []) (rest := []) d_LH_isAnswerSo_232 cw_LH_isAnswerSo_232 rfl (am_2O hg rfl (fun _ => am_1I (ct_CB_reason hg))) rfl rfl rc_1 (Nat.le_of_ble_eq_true rfl) (by show k + 0 + 7 + 7 + 0 ≤ 38; omega) (by show z + 0 + 42 + 42 + 0 ≤ 228; omega) ?_
          refine am_bipush (v := (7 : Int32)) d_LH_isAnswerSo_235 (by decide) ?_
          refine aj_ne (F := am_oC2) (tgt := 252) d_LH_isAnswerSo_237 (by decide) (fun c => ?_) (fun c => ?_)
          · have h := h.2 c
            refine am_sub [3, 4, 5, 6, 7, 8, 9, 10, 11, 12, 2, 1, 0] (lv2 := [(0, .ref 0), (1, .ref 207), (2, .int x2), (3, .int x3), (4, .int x4), (5, .int x5), (6, .int x6), (7, .int x7), (8, .int x8), (9, .int x9), (10, .int y0), (11, .int (f_LH_low s (x3 >>> ((7 : Int32) &&& 31)) (12 : Int32))), (12, .int (f_LH_asks s (6 : Int32) x2 x6 x7 (f_LH_low s (x3 >>> ((7 : Int32) &&& 31)) (12 : Int32)) (0 : Int32)).1)]) rfl ?_
            exact w_LH_isAnswerSo_252 hg  (by show k + 0 + 7 + 7 + 0 ≤ 36; omega) (by show z + 0 + 42 + 42 + 0 ≤ 216; omega) h
          · have h := h.1 c
            refine am_aload_n (j := 3) d_LH_isAnswerSo_240 rfl rfl ?_
            refine ak9_V (as := []) (rest := []) d_LH_isAnswerSo_241 cw_LH_isAnswerSo_241 rfl (am_2O hg rfl (fun _ => am_1I (ct_CB_whereTable hg))) rfl rfl rc_1 (Nat.le_of_ble_eq_true rfl) (by show k + 0 + 7 + 7 + 0 + 0 ≤ 38; omega) (by show z + 0 + 42 + 42 + 0 + 0 ≤ 228; omega) ?_
            refine am_iconst (v := (-1 : Int32)) d_LH_isAnswerSo_244 (by decide) ?_
            refine aj_ne (F := am_oC2) (tgt := 252) d_LH_isAnswerSo_245 (by decide) (fun c => ?_) (fun c => ?_)
            · have h := h.2 c
              refine am_sub [3, 4, 5, 6, 7, 8, 9, 10, 11, 12, 2, 1, 0] (lv2 := [(0, .ref 0), (1, .ref 207), (2, .int x2), (3, .int x3), (4, .int x4), (5, .int x5), (6, .int x6), (7, .int x7), (8, .int x8), (9, .int x9), (10, .int y0), (11, .int (f_LH_low s (x3 >>> ((7 : Int32) &&& 31)) (12 : Int32))), (12, .int (f_LH_asks s (6 : Int32) x2 x6 x7 (f_LH_low s (x3 >>> ((7 : Int32) &&& 31)) (12 : Int32)) (0 : Int32)).1)]) rfl ?_
              exact w_LH_isAnswerSo_252 hg  (by show k + 0 + 7 + 7 + 0 + 0 ≤ 36; omega) (by show z + 0 + 42 + 42 + 0 + 0 ≤ 216; omega) h
            · have h := h.1 c
              refine am_sub [3, 4, 5, 6, 7, 8, 9, 10, 11, 12, 2, 1, 0] (lv2 := [(0, .ref 0), (1, .ref 207), (2, .int x2), (3, .int x3), (4, .int x4), (5, .int x5), (6, .int x6), (7, .int x7), (8, .int x8), (9, .int x9), (10, .int y0), (11, .int (f_LH_low s (x3 >>> ((7 : Int32) &&& 31)) (12 : Int32))), (12, .int (f_LH_asks s (6 : Int32) x2 x6 x7 (f_LH_low s (x3 >>> ((7 : Int32) &&& 31)) (12 : Int32)) (0 : Int32)).1)]) rfl ?_
              exact w_LH_isAnswerSo_248 hg  (by show k + 0 + 7 + 7 + 0 + 0 ≤ 36; omega) (by show z + 0 + 42 + 42 + 0 + 0 ≤ 216; omega) h
def f_LH_isAnswerSo_163  (s : am_M) (t : am_M) (x2 : Int32) (x3 : Int32) (x4 : Int32) (x5 : Int32) (x6 : Int32) (x7 : Int32) (x8 : Int32) (x9 : Int32) : Int32 × am_M × am_M := (f_LH_isAnswerSo_168 s t x2 x3 x4 x5 x6 x7 x8 x9 (1 : Int32))
def p_LH_isAnswerSo_163  (s : am_M) (t : am_M) (x2 : Int32) (x3 : Int32) (x4 : Int32) (x5 : Int32) (x6 : Int32) (x7 : Int32) (x8 : Int32) (x9 : Int32) : Prop := (p_LH_isAnswerSo_168 s t x2 x3 x4 x5 x6 x7 x8 x9 (1 : Int32))
set_option maxRecDepth 8000 in
theorem w_LH_isAnswerSo_163 {l : Launch} {g : am_Gl} (hg : g.2.2.2.1 = true) {ad0 : Nat → Nat}  {s : am_M} {t : am_M} {x2 : Int32} {x3 : Int32} {x4 : Int32} {x5 : Int32} {x6 : Int32} {x7 : Int32} {x8 : Int32} {x9 : Int32} {k z : Nat} (hk : k ≤ 22) (hz : z ≤ 132) (h : p_LH_isAnswerSo_163  s t x2 x3 x4 x5 x6 x7 x8 x9) : AW l g m_LH_isAnswerSo 414 ad0 (am_oC2 (f_LH_isAnswerSo_163  s t x2 x3 x4 x5 x6 x7 x8 x9)) k z 414 (jn s t) 163 [(0, .ref 0), (1, .ref 207), (2, .int x2), (3, .int x3), (4, .int x4), (5, .int x5), (6, .int x6), (7, .int x7), (8, .int x8), (9, .int x9)] [] := by
  refine am_iconst (v := (1 : Int32)) d_LH_isAnswerSo_163 (by decide) ?_
  refine am_goto (tgt := 168) d_LH_isAnswerSo_164 (by decide) ?_
  exact w_LH_isAnswerSo_168 hg  (by show k ≤ 22; omega) (by show z ≤ 132; omega) h
def f_LH_isAnswerSo_167  (s : am_M) (t : am_M) (x2 : Int32) (x3 : Int32) (x4 : Int32) (x5 : Int32) (x6 : Int32) (x7 : Int32) (x8 : Int32) (x9 : Int32) : Int32 × am_M × am_M := (f_LH_isAnswerSo_168 s t x2 x3 x4 x5 x6 x7 x8 x9 (0 : Int32))
def p_LH_isAnswerSo_167  (s : am_M) (t : am_M) (x2 : Int32) (x3 : Int32) (x4 : Int32) (x5 : Int32) (x6 : Int32) (x7 : Int32) (x8 : Int32) (x9 : Int32) : Prop := (p_LH_isAnswerSo_168 s t x2 x3 x4 x5 x6 x7 x8 x9 (0 : Int32))
set_option maxRecDepth 8000 in
theorem w_LH_isAnswerSo_167 {l : Launch} {g : am_Gl} (hg : g.2.2.2.1 = true) {ad0 : Nat → Nat}  {s : am_M} {t : am_M} {x2 : Int32} {x3 : Int32} {x4 : Int32} {x5 : Int32} {x6 : Int32} {x7 : Int32} {x8 : Int32} {x9 : Int32} {k z : Nat} (hk : k ≤ 22) (hz : z ≤ 132) (h : p_LH_isAnswerSo_167  s t x2 x3 x4 x5 x6 x7 x8 x9) : AW l g m_LH_isAnswerSo 414 ad0 (am_oC2 (f_LH_isAnswerSo_167  s t x2 x3 x4 x5 x6 x7 x8 x9)) k z 414 (jn s t) 167 [(0, .ref 0), (1, .ref 207), (2, .int x2), (3, .int x3), (4, .int x4), (5, .int x5), (6, .int x6), (7, .int x7), (8, .int x8), (9, .int x9)] [] := by
  refine am_iconst (v := (0 : Int32)) d_LH_isAnswerSo_167 (by decide) ?_
  exact w_LH_isAnswerSo_168 hg  (by show k ≤ 22; omega) (by show z ≤ 132; omega) h
def f_LH_isAnswerSo (s : am_M) (t : am_M) (x2 : Int32) (x3 : Int32) : Int32 × am_M × am_M := (if (f_LH_many s (0 : Int32) x2).1 < (1 : Int32) then (f_LH_isAnswerSo_28 (f_LH_many (f_LH_many s (0 : Int32) x2).2 (1 : Int32) x2).2 t x2 x3 (f_LH_many s (0 : Int32) x2).1 (f_LH_many (f_LH_many s (0 : Int32) x2).2 (1 : Int32) x2).1) else (if (1 : Int32) ≤ (f_LH_many (f_LH_many s (0 : Int32) x2).2 (1 : Int32) x2).1 then (if (30 : Int32) < (f_LH_many s (0 : Int32) x2).1 then (f_LH_isAnswerSo_167 (f_CB_target (f_CB_answer (f_LH_many (f_LH_many s (0 : Int32) x2).2 (1 : Int32) x2).2 x2 (f_LH_low (f_LH_many (f_LH_many s (0 : Int32) x2).2 (1 : Int32) x2).2 x3 (f_LH_many s (0 : Int32) x2).1) (f_LH_low (f_LH_many (f_LH_many s (0 : Int32) x2).2 (1 : Int32) x2).2 (x3 >>> ((4 : Int32) &&& 31)) (f_LH_many (f_LH_many s (0 : Int32) x2).2 (1 : Int32) x2).1)).2.2 x2 (f_LH_low (f_LH_many (f_LH_many s (0 : Int32) x2).2 (1 : Int32) x2).2 x3 (f_LH_many s (0 : Int32) x2).1) (f_LH_low (f_LH_many (f_LH_many s (0 : Int32) x2).2 (1 : Int32) x2).2 (x3 >>> ((4 : Int32) &&& 31)) (f_LH_many (f_LH_many s (0 : Int32) x2).2 (1 : Int32) x2).1)).2.2 t x2 x3 (f_LH_many s (0 : Int32) x2).1 (f_LH_many (f_LH_many s (0 : Int32) x2).2 (1 : Int32) x2).1 (f_LH_low (f_LH_many (f_LH_many s (0 : Int32) x2).2 (1 : Int32) x2).2 x3 (f_LH_many s (0 : Int32) x2).1) (f_LH_low (f_LH_many (f_LH_many s (0 : Int32) x2).2 (1 : Int32) x2).2 (x3 >>> ((4 : Int32) &&& 31)) (f_LH_many (f_LH_many s (0 : Int32) x2).2 (1 : Int32) x2).1) (f_CB_answer (f_LH_many (f_LH_many s (0 : Int32) x2).2 (1 : Int32) x2).2 x2 (f_LH_low (f_LH_many (f_LH_many s (0 : Int32) x2).2 (1 : Int32) x2).2 x3 (f_LH_many s (0 : Int32) x2).1) (f_LH_low (f_LH_many (f_LH_many s (0 : Int32) x2).2 (1 : Int32) x2).2 (x3 >>> ((4 : Int32) &&& 31)) (f_LH_many (f_LH_many s (0 : Int32) x2).2 (1 : Int32) x2).1)).2.1 (f_CB_target (f_CB_answer (f_LH_many (f_LH_many s (0 : Int32) x2).2 (1 : Int32) x2).2 x2 (f_LH_low (f_LH_many (f_LH_many s (0 : Int32) x2).2 (1 : Int32) x2).2 x3 (f_LH_many s (0 : Int32) x2).1) (f_LH_low (f_LH_many (f_LH_many s (0 : Int32) x2).2 (1 : Int32) x2).2 (x3 >>> ((4 : Int32) &&& 31)) (f_LH_many (f_LH_many s (0 : Int32) x2).2 (1 : Int32) x2).1)).2.2 x2 (f_LH_low (f_LH_many (f_LH_many s (0 : Int32) x2).2 (1 : Int32) x2).2 x3 (f_LH_many s (0 : Int32) x2).1) (f_LH_low (f_LH_many (f_LH_many s (0 : Int32) x2).2 (1 : Int32) x2).2 (x3 >>> ((4 : Int32) &&& 31)) (f_LH_many (f_LH_many s (0 : Int32) x2).2 (1 : Int32) x2).1)).2.1) else (if (f_LH_asks (f_CB_target (f_CB_answer (f_LH_many (f_LH_many s (0 : Int32) x2).2 (1 : Int32) x2).2 x2 (f_LH_low (f_LH_many (f_LH_many s (0 : Int32) x2).2 (1 : Int32) x2).2 x3 (f_LH_many s (0 : Int32) x2).1) (f_LH_low (f_LH_many (f_LH_many s (0 : Int32) x2).2 (1 : Int32) x2).2 (x3 >>> ((4 : Int32) &&& 31)) (f_LH_many (f_LH_many s (0 : Int32) x2).2 (1 : Int32) x2).1)).2.2 x2 (f_LH_low (f_LH_many (f_LH_many s (0 : Int32) x2).2 (1 : Int32) x2).2 x3 (f_LH_many s (0 : Int32) x2).1) (f_LH_low (f_LH_many (f_LH_many s (0 : Int32) x2).2 (1 : Int32) x2).2 (x3 >>> ((4 : Int32) &&& 31)) (f_LH_many (f_LH_many s (0 : Int32) x2).2 (1 : Int32) x2).1)).2.2 (4 : Int32) x2 (f_LH_many s (0 : Int32) x2).1 (0 : Int32) (0 : Int32) (0 : Int32)).1 = (-9999999 : Int32) then (if (f_LH_asks (f_LH_asks (f_CB_target (f_CB_answer (f_LH_many (f_LH_many s (0 : Int32) x2).2 (1 : Int32) x2).2 x2 (f_LH_low (f_LH_many (f_LH_many s (0 : Int32) x2).2 (1 : Int32) x2).2 x3 (f_LH_many s (0 : Int32) x2).1) (f_LH_low (f_LH_many (f_LH_many s (0 : Int32) x2).2 (1 : Int32) x2).2 (x3 >>> ((4 : Int32) &&& 31)) (f_LH_many (f_LH_many s (0 : Int32) x2).2 (1 : Int32) x2).1)).2.2 x2 (f_LH_low (f_LH_many (f_LH_many s (0 : Int32) x2).2 (1 : Int32) x2).2 x3 (f_LH_many s (0 : Int32) x2).1) (f_LH_low (f_LH_many (f_LH_many s (0 : Int32) x2).2 (1 : Int32) x2).2 (x3 >>> ((4 : Int32) &&& 31)) (f_LH_many (f_LH_many s (0 : Int32) x2).2 (1 : Int32) x2).1)).2.2 (4 : Int32) x2 (f_LH_many s (0 : Int32) x2).1 (0 : Int32) (0 : Int32) (0 : Int32)).2 (4 : Int32) x2 (0 : Int32) (f_LH_many (f_LH_many s (0 : Int32) x2).2 (1 : Int32) x2).1 (0 : Int32) (0 : Int32)).1 = (-9999999 : Int32) then (if (f_CB_target (f_CB_answer (f_LH_many (f_LH_many s (0 : Int32) x2).2 (1 : Int32) x2).2 x2 (f_LH_low (f_LH_many (f_LH_many s (0 : Int32) x2).2 (1 : Int32) x2).2 x3 (f_LH_many s (0 : Int32) x2).1) (f_LH_low (f_LH_many (f_LH_many s (0 : Int32) x2).2 (1 : Int32) x2).2 (x3 >>> ((4 : Int32) &&& 31)) (f_LH_many (f_LH_many s (0 : Int32) x2).2 (1 : Int32) x2).1)).2.2 x2 (f_LH_low (f_LH_many (f_LH_many s (0 : Int32) x2).2 (1 : Int32) x2).2 x3 (f_LH_many s (0 : Int32) x2).1) (f_LH_low (f_LH_many (f_LH_many s (0 : Int32) x2).2 (1 : Int32) x2).2 (x3 >>> ((4 : Int32) &&& 31)) (f_LH_many (f_LH_many s (0 : Int32) x2).2 (1 : Int32) x2).1)).2.1 < 0 then (f_LH_isAnswerSo_163 (f_LH_asks (f_LH_asks (f_CB_target (f_CB_answer (f_LH_many (f_LH_many s (0 : Int32) x2).2 (1 : Int32) x2).2 x2 (f_LH_low (f_LH_many (f_LH_many s (0 : Int32) x2).2 (1 : Int32) x2).2 x3 (f_LH_many s (0 : Int32) x2).1) (f_LH_low (f_LH_many (f_LH_many s (0 : Int32) x2).2 (1 : Int32) x2).2 (x3 >>> ((4 : Int32) &&& 31)) (f_LH_many (f_LH_many s (0 : Int32) x2).2 (1 : Int32) x2).1)).2.2 x2 (f_LH_low (f_LH_many (f_LH_many s (0 : Int32) x2).2 (1 : Int32) x2).2 x3 (f_LH_many s (0 : Int32) x2).1) (f_LH_low (f_LH_many (f_LH_many s (0 : Int32) x2).2 (1 : Int32) x2).2 (x3 >>> ((4 : Int32) &&& 31)) (f_LH_many (f_LH_many s (0 : Int32) x2).2 (1 : Int32) x2).1)).2.2 (4 : Int32) x2 (f_LH_many s (0 : Int32) x2).1 (0 : Int32) (0 : Int32) (0 : Int32)).2 (4 : Int32) x2 (0 : Int32) (f_LH_many (f_LH_many s (0 : Int32) x2).2 (1 : Int32) x2).1 (0 : Int32) (0 : Int32)).2 t x2 x3 (f_LH_many s (0 : Int32) x2).1 (f_LH_many (f_LH_many s (0 : Int32) x2).2 (1 : Int32) x2).1 (f_LH_low (f_LH_many (f_LH_many s (0 : Int32) x2).2 (1 : Int32) x2).2 x3 (f_LH_many s (0 : Int32) x2).1) (f_LH_low (f_LH_many (f_LH_many s (0 : Int32) x2).2 (1 : Int32) x2).2 (x3 >>> ((4 : Int32) &&& 31)) (f_LH_many (f_LH_many s (0 : Int32) x2).2 (1 : Int32) x2).1) (f_CB_answer (f_LH_many (f_LH_many s (0 : Int32) x2).2 (1 : Int32) x2).2 x2 (f_LH_low (f_LH_many (f_LH_many s (0 : Int32) x2).2 (1 : Int32) x2).2 x3 (f_LH_many s (0 : Int32) x2).1) (f_LH_low (f_LH_many (f_LH_many s (0 : Int32) x2).2 (1 : Int32) x2).2 (x3 >>> ((4 : Int32) &&& 31)) (f_LH_many (f_LH_many s (0 : Int32) x2).2 (1 : Int32) x2).1)).2.1 (f_CB_target (f_CB_answer (f_LH_many (f_LH_many s (0 : Int32) x2).2 (1 : Int32) x2).2 x2 (f_LH_low (f_LH_many (f_LH_many s (0 : Int32) x2).2 (1 : Int32) x2).2 x3 (f_LH_many s (0 : Int32) x2).1) (f_LH_low (f_LH_many (f_LH_many s (0 : Int32) x2).2 (1 : Int32) x2).2 (x3 >>> ((4 : Int32) &&& 31)) (f_LH_many (f_LH_many s (0 : Int32) x2).2 (1 : Int32) x2).1)).2.2 x2 (f_LH_low (f_LH_many (f_LH_many s (0 : Int32) x2).2 (1 : Int32) x2).2 x3 (f_LH_many s (0 : Int32) x2).1) (f_LH_low (f_LH_many (f_LH_many s (0 : Int32) x2).2 (1 : Int32) x2).2 (x3 >>> ((4 : Int32) &&& 31)) (f_LH_many (f_LH_many s (0 : Int32) x2).2 (1 : Int32) x2).1)).2.1) else (if (f_CB_cell (f_LH_asks (f_LH_asks (f_CB_target (f_CB_answer (f_LH_many (f_LH_many s (0 : Int32) x2).2 (1 : Int32) x2).2 x2 (f_LH_low (f_LH_many (f_LH_many s (0 : Int32) x2).2 (1 : Int32) x2).2 x3 (f_LH_many s (0 : Int32) x2).1) (f_LH_low (f_LH_many (f_LH_many s (0 : Int32) x2).2 (1 : Int32) x2).2 (x3 >>> ((4 : Int32) &&& 31)) (f_LH_many (f_LH_many s (0 : Int32) x2).2 (1 : Int32) x2).1)).2.2 x2 (f_LH_low (f_LH_many (f_LH_many s (0 : Int32) x2).2 (1 : Int32) x2).2 x3 (f_LH_many s (0 : Int32) x2).1) (f_LH_low (f_LH_many (f_LH_many s (0 : Int32) x2).2 (1 : Int32) x2).2 (x3 >>> ((4 : Int32) &&& 31)) (f_LH_many (f_LH_many s (0 : Int32) x2).2 (1 : Int32) x2).1)).2.2 (4 : Int32) x2 (f_LH_many s (0 : Int32) x2).1 (0 : Int32) (0 : Int32) (0 : Int32)).2 (4 : Int32) x2 (0 : Int32) (f_LH_many (f_LH_many s (0 : Int32) x2).2 (1 : Int32) x2).1 (0 : Int32) (0 : Int32)).2 ((f_CB_target (f_CB_answer (f_LH_many (f_LH_many s (0 : Int32) x2).2 (1 : Int32) x2).2 x2 (f_LH_low (f_LH_many (f_LH_many s (0 : Int32) x2).2 (1 : Int32) x2).2 x3 (f_LH_many s (0 : Int32) x2).1) (f_LH_low (f_LH_many (f_LH_many s (0 : Int32) x2).2 (1 : Int32) x2).2 (x3 >>> ((4 : Int32) &&& 31)) (f_LH_many (f_LH_many s (0 : Int32) x2).2 (1 : Int32) x2).1)).2.2 x2 (f_LH_low (f_LH_many (f_LH_many s (0 : Int32) x2).2 (1 : Int32) x2).2 x3 (f_LH_many s (0 : Int32) x2).1) (f_LH_low (f_LH_many (f_LH_many s (0 : Int32) x2).2 (1 : Int32) x2).2 (x3 >>> ((4 : Int32) &&& 31)) (f_LH_many (f_LH_many s (0 : Int32) x2).2 (1 : Int32) x2).1)).2.1 / (1000 : Int32)) (((f_CB_target (f_CB_answer (f_LH_many (f_LH_many s (0 : Int32) x2).2 (1 : Int32) x2).2 x2 (f_LH_low (f_LH_many (f_LH_many s (0 : Int32) x2).2 (1 : Int32) x2).2 x3 (f_LH_many s (0 : Int32) x2).1) (f_LH_low (f_LH_many (f_LH_many s (0 : Int32) x2).2 (1 : Int32) x2).2 (x3 >>> ((4 : Int32) &&& 31)) (f_LH_many (f_LH_many s (0 : Int32) x2).2 (1 : Int32) x2).1)).2.2 x2 (f_LH_low (f_LH_many (f_LH_many s (0 : Int32) x2).2 (1 : Int32) x2).2 x3 (f_LH_many s (0 : Int32) x2).1) (f_LH_low (f_LH_many (f_LH_many s (0 : Int32) x2).2 (1 : Int32) x2).2 (x3 >>> ((4 : Int32) &&& 31)) (f_LH_many (f_LH_many s (0 : Int32) x2).2 (1 : Int32) x2).1)).2.1 / (10 : Int32)) - ((f_CB_target (f_CB_answer (f_LH_many (f_LH_many s (0 : Int32) x2).2 (1 : Int32) x2).2 x2 (f_LH_low (f_LH_many (f_LH_many s (0 : Int32) x2).2 (1 : Int32) x2).2 x3 (f_LH_many s (0 : Int32) x2).1) (f_LH_low (f_LH_many (f_LH_many s (0 : Int32) x2).2 (1 : Int32) x2).2 (x3 >>> ((4 : Int32) &&& 31)) (f_LH_many (f_LH_many s (0 : Int32) x2).2 (1 : Int32) x2).1)).2.2 x2 (f_LH_low (f_LH_many (f_LH_many s (0 : Int32) x2).2 (1 : Int32) x2).2 x3 (f_LH_many s (0 : Int32) x2).1) (f_LH_low (f_LH_many (f_LH_many s (0 : Int32) x2).2 (1 : Int32) x2).2 (x3 >>> ((4 : Int32) &&& 31)) (f_LH_many (f_LH_many s (0 : Int32) x2).2 (1 : Int32) x2).1)).2.1 / (10 : Int32)) / (100 : Int32) * (100 : Int32)) ((f_CB_target (f_CB_answer (f_LH_many (f_LH_many s (0 : Int32) x2).2 (1 : Int32) x2).2 x2 (f_LH_low (f_LH_many (f_LH_many s (0 : Int32) x2).2 (1 : Int32) x2).2 x3 (f_LH_many s (0 : Int32) x2).1) (f_LH_low (f_LH_many (f_LH_many s (0 : Int32) x2).2 (1 : Int32) x2).2 (x3 >>> ((4 : Int32) &&& 31)) (f_LH_many (f_LH_many s (0 : Int32) x2).2 (1 : Int32) x2).1)).2.2 x2 (f_LH_low (f_LH_many (f_LH_many s (0 : Int32) x2).2 (1 : Int32) x2).2 x3 (f_LH_many s (0 : Int32) x2).1) (f_LH_low (f_LH_many (f_LH_many s (0 : Int32) x2).2 (1 : Int32) x2).2 (x3 >>> ((4 : Int32) &&& 31)) (f_LH_many (f_LH_many s (0 : Int32) x2).2 (1 : Int32) x2).1)).2.1 - (f_CB_target (f_CB_answer (f_LH_many (f_LH_many s (0 : Int32) x2).2 (1 : Int32) x2).2 x2 (f_LH_low (f_LH_many (f_LH_many s (0 : Int32) x2).2 (1 : Int32) x2).2 x3 (f_LH_many s (0 : Int32) x2).1) (f_LH_low (f_LH_many (f_LH_many s (0 : Int32) x2).2 (1 : Int32) x2).2 (x3 >>> ((4 : Int32) &&& 31)) (f_LH_many (f_LH_many s (0 : Int32) x2).2 (1 : Int32) x2).1)).2.2 x2 (f_LH_low (f_LH_many (f_LH_many s (0 : Int32) x2).2 (1 : Int32) x2).2 x3 (f_LH_many s (0 : Int32) x2).1) (f_LH_low (f_LH_many (f_LH_many s (0 : Int32) x2).2 (1 : Int32) x2).2 (x3 >>> ((4 : Int32) &&& 31)) (f_LH_many (f_LH_many s (0 : Int32) x2).2 (1 : Int32) x2).1)).2.1 / (10 : Int32) * (10 : Int32))).2.1 = (f_CB_answer (f_LH_many (f_LH_many s (0 : Int32) x2).2 (1 : Int32) x2).2 x2 (f_LH_low (f_LH_many (f_LH_many s (0 : Int32) x2).2 (1 : Int32) x2).2 x3 (f_LH_many s (0 : Int32) x2).1) (f_LH_low (f_LH_many (f_LH_many s (0 : Int32) x2).2 (1 : Int32) x2).2 (x3 >>> ((4 : Int32) &&& 31)) (f_LH_many (f_LH_many s (0 : Int32) x2).2 (1 : Int32) x2).1)).2.1 then (f_LH_isAnswerSo_163 (f_CB_cell (f_LH_asks (f_LH_asks (f_CB_target (f_CB_answer (f_LH_many (f_LH_many s (0 : Int32) x2).2 (1 : Int32) x2).2 x2 (f_LH_low (f_LH_many (f_LH_many s (0 : Int32) x2).2 (1 : Int32) x2).2 x3 (f_LH_many s (0 : Int32) x2).1) (f_LH_low (f_LH_many (f_LH_many s (0 : Int32) x2).2 (1 : Int32) x2).2 (x3 >>> ((4 : Int32) &&& 31)) (f_LH_many (f_LH_many s (0 : Int32) x2).2 (1 : Int32) x2).1)).2.2 x2 (f_LH_low (f_LH_many (f_LH_many s (0 : Int32) x2).2 (1 : Int32) x2).2 x3 (f_LH_many s (0 : Int32) x2).1) (f_LH_low (f_LH_many (f_LH_many s (0 : Int32) x2).2 (1 : Int32) x2).2 (x3 >>> ((4 : Int32) &&& 31)) (f_LH_many (f_LH_many s (0 : Int32) x2).2 (1 : Int32) x2).1)).2.2 (4 : Int32) x2 (f_LH_many s (0 : Int32) x2).1 (0 : Int32) (0 : Int32) (0 : Int32)).2 (4 : Int32) x2 (0 : Int32) (f_LH_many (f_LH_many s (0 : Int32) x2).2 (1 : Int32) x2).1 (0 : Int32) (0 : Int32)).2 ((f_CB_target (f_CB_answer (f_LH_many (f_LH_many s (0 : Int32) x2).2 (1 : Int32) x2).2 x2 (f_LH_low (f_LH_many (f_LH_many s (0 : Int32) x2).2 (1 : Int32) x2).2 x3 (f_LH_many s (0 : Int32) x2).1) (f_LH_low (f_LH_many (f_LH_many s (0 : Int32) x2).2 (1 : Int32) x2).2 (x3 >>> ((4 : Int32) &&& 31)) (f_LH_many (f_LH_many s (0 : Int32) x2).2 (1 : Int32) x2).1)).2.2 x2 (f_LH_low (f_LH_many (f_LH_many s (0 : Int32) x2).2 (1 : Int32) x2).2 x3 (f_LH_many s (0 : Int32) x2).1) (f_LH_low (f_LH_many (f_LH_many s (0 : Int32) x2).2 (1 : Int32) x2).2 (x3 >>> ((4 : Int32) &&& 31)) (f_LH_many (f_LH_many s (0 : Int32) x2).2 (1 : Int32) x2).1)).2.1 / (1000 : Int32)) (((f_CB_target (f_CB_answer (f_LH_many (f_LH_many s (0 : Int32) x2).2 (1 : Int32) x2).2 x2 (f_LH_low (f_LH_many (f_LH_many s (0 : Int32) x2).2 (1 : Int32) x2).2 x3 (f_LH_many s (0 : Int32) x2).1) (f_LH_low (f_LH_many (f_LH_many s (0 : Int32) x2).2 (1 : Int32) x2).2 (x3 >>> ((4 : Int32) &&& 31)) (f_LH_many (f_LH_many s (0 : Int32) x2).2 (1 : Int32) x2).1)).2.2 x2 (f_LH_low (f_LH_many (f_LH_many s (0 : Int32) x2).2 (1 : Int32) x2).2 x3 (f_LH_many s (0 : Int32) x2).1) (f_LH_low (f_LH_many (f_LH_many s (0 : Int32) x2).2 (1 : Int32) x2).2 (x3 >>> ((4 : Int32) &&& 31)) (f_LH_many (f_LH_many s (0 : Int32) x2).2 (1 : Int32) x2).1)).2.1 / (10 : Int32)) - ((f_CB_target (f_CB_answer (f_LH_many (f_LH_many s (0 : Int32) x2).2 (1 : Int32) x2).2 x2 (f_LH_low (f_LH_many (f_LH_many s (0 : Int32) x2).2 (1 : Int32) x2).2 x3 (f_LH_many s (0 : Int32) x2).1) (f_LH_low (f_LH_many (f_LH_many s (0 : Int32) x2).2 (1 : Int32) x2).2 (x3 >>> ((4 : Int32) &&& 31)) (f_LH_many (f_LH_many s (0 : Int32) x2).2 (1 : Int32) x2).1)).2.2 x2 (f_LH_low (f_LH_many (f_LH_many s (0 : Int32) x2).2 (1 : Int32) x2).2 x3 (f_LH_many s (0 : Int32) x2).1) (f_LH_low (f_LH_many (f_LH_many s (0 : Int32) x2).2 (1 : Int32) x2).2 (x3 >>> ((4 : Int32) &&& 31)) (f_LH_many (f_LH_many s (0 : Int32) x2).2 (1 : Int32) x2).1)).2.1 / (10 : Int32)) / (100 : Int32) * (100 : Int32)) ((f_CB_target (f_CB_answer (f_LH_many (f_LH_many s (0 : Int32) x2).2 (1 : Int32) x2).2 x2 (f_LH_low (f_LH_many (f_LH_many s (0 : Int32) x2).2 (1 : Int32) x2).2 x3 (f_LH_many s (0 : Int32) x2).1) (f_LH_low (f_LH_many (f_LH_many s (0 : Int32) x2).2 (1 : Int32) x2).2 (x3 >>> ((4 : Int32) &&& 31)) (f_LH_many (f_LH_many s (0 : Int32) x2).2 (1 : Int32) x2).1)).2.2 x2 (f_LH_low (f_LH_many (f_LH_many s (0 : Int32) x2).2 (1 : Int32) x2).2 x3 (f_LH_many s (0 : Int32) x2).1) (f_LH_low (f_LH_many (f_LH_many s (0 : Int32) x2).2 (1 : Int32) x2).2 (x3 >>> ((4 : Int32) &&& 31)) (f_LH_many (f_LH_many s (0 : Int32) x2).2 (1 : Int32) x2).1)).2.1 - (f_CB_target (f_CB_answer (f_LH_many (f_LH_many s (0 : Int32) x2).2 (1 : Int32) x2).2 x2 (f_LH_low (f_LH_many (f_LH_many s (0 : Int32) x2).2 (1 : Int32) x2).2 x3 (f_LH_many s (0 : Int32) x2).1) (f_LH_low (f_LH_many (f_LH_many s (0 : Int32) x2).2 (1 : Int32) x2).2 (x3 >>> ((4 : Int32) &&& 31)) (f_LH_many (f_LH_many s (0 : Int32) x2).2 (1 : Int32) x2).1)).2.2 x2 (f_LH_low (f_LH_many (f_LH_many s (0 : Int32) x2).2 (1 : Int32) x2).2 x3 (f_LH_many s (0 : Int32) x2).1) (f_LH_low (f_LH_many (f_LH_many s (0 : Int32) x2).2 (1 : Int32) x2).2 (x3 >>> ((4 : Int32) &&& 31)) (f_LH_many (f_LH_many s (0 : Int32) x2).2 (1 : Int32) x2).1)).2.1 / (10 : Int32) * (10 : Int32))).2.2 t x2 x3 (f_LH_many s (0 : Int32) x2).1 (f_LH_many (f_LH_many s (0 : Int32) x2).2 (1 : Int32) x2).1 (f_LH_low (f_LH_many (f_LH_many s (0 : Int32) x2).2 (1 : Int32) x2).2 x3 (f_LH_many s (0 : Int32) x2).1) (f_LH_low (f_LH_many (f_LH_many s (0 : Int32) x2).2 (1 : Int32) x2).2 (x3 >>> ((4 : Int32) &&& 31)) (f_LH_many (f_LH_many s (0 : Int32) x2).2 (1 : Int32) x2).1) (f_CB_answer (f_LH_many (f_LH_many s (0 : Int32) x2).2 (1 : Int32) x2).2 x2 (f_LH_low (f_LH_many (f_LH_many s (0 : Int32) x2).2 (1 : Int32) x2).2 x3 (f_LH_many s (0 : Int32) x2).1) (f_LH_low (f_LH_many (f_LH_many s (0 : Int32) x2).2 (1 : Int32) x2).2 (x3 >>> ((4 : Int32) &&& 31)) (f_LH_many (f_LH_many s (0 : Int32) x2).2 (1 : Int32) x2).1)).2.1 (f_CB_target (f_CB_answer (f_LH_many (f_LH_many s (0 : Int32) x2).2 (1 : Int32) x2).2 x2 (f_LH_low (f_LH_many (f_LH_many s (0 : Int32) x2).2 (1 : Int32) x2).2 x3 (f_LH_many s (0 : Int32) x2).1) (f_LH_low (f_LH_many (f_LH_many s (0 : Int32) x2).2 (1 : Int32) x2).2 (x3 >>> ((4 : Int32) &&& 31)) (f_LH_many (f_LH_many s (0 : Int32) x2).2 (1 : Int32) x2).1)).2.2 x2 (f_LH_low (f_LH_many (f_LH_many s (0 : Int32) x2).2 (1 : Int32) x2).2 x3 (f_LH_many s (0 : Int32) x2).1) (f_LH_low (f_LH_many (f_LH_many s (0 : Int32) x2).2 (1 : Int32) x2).2 (x3 >>> ((4 : Int32) &&& 31)) (f_LH_many (f_LH_many s (0 : Int32) x2).2 (1 : Int32) x2).1)).2.1) else (f_LH_isAnswerSo_167 (f_CB_cell (f_LH_asks (f_LH_asks (f_CB_target (f_CB_answer (f_LH_many (f_LH_many s (0 : Int32) x2).2 (1 : Int32) x2).2 x2 (f_LH_low (f_LH_many (f_LH_many s (0 : Int32) x2).2 (1 : Int32) x2).2 x3 (f_LH_many s (0 : Int32) x2).1) (f_LH_low (f_LH_many (f_LH_many s (0 : Int32) x2).2 (1 : Int32) x2).2 (x3 >>> ((4 : Int32) &&& 31)) (f_LH_many (f_LH_many s (0 : Int32) x2).2 (1 : Int32) x2).1)).2.2 x2 (f_LH_low (f_LH_many (f_LH_many s (0 : Int32) x2).2 (1 : Int32) x2).2 x3 (f_LH_many s (0 : Int32) x2).1) (f_LH_low (f_LH_many (f_LH_many s (0 : Int32) x2).2 (1 : Int32) x2).2 (x3 >>> ((4 : Int32) &&& 31)) (f_LH_many (f_LH_many s (0 : Int32) x2).2 (1 : Int32) x2).1)).2.2 (4 : Int32) x2 (f_LH_many s (0 : Int32) x2).1 (0 : Int32) (0 : Int32) (0 : Int32)).2 (4 : Int32) x2 (0 : Int32) (f_LH_many (f_LH_many s (0 : Int32) x2).2 (1 : Int32) x2).1 (0 : Int32) (0 : Int32)).2 ((f_CB_target (f_CB_answer (f_LH_many (f_LH_many s (0 : Int32) x2).2 (1 : Int32) x2).2 x2 (f_LH_low (f_LH_many (f_LH_many s (0 : Int32) x2).2 (1 : Int32) x2).2 x3 (f_LH_many s (0 : Int32) x2).1) (f_LH_low (f_LH_many (f_LH_many s (0 : Int32) x2).2 (1 : Int32) x2).2 (x3 >>> ((4 : Int32) &&& 31)) (f_LH_many (f_LH_many s (0 : Int32) x2).2 (1 : Int32) x2).1)).2.2 x2 (f_LH_low (f_LH_many (f_LH_many s (0 : Int32) x2).2 (1 : Int32) x2).2 x3 (f_LH_many s (0 : Int32) x2).1) (f_LH_low (f_LH_many (f_LH_many s (0 : Int32) x2).2 (1 : Int32) x2).2 (x3 >>> ((4 : Int32) &&& 31)) (f_LH_many (f_LH_many s (0 : Int32) x2).2 (1 : Int32) x2).1)).2.1 / (1000 : Int32)) (((f_CB_target (f_CB_answer (f_LH_many (f_LH_many s (0 : Int32) x2).2 (1 : Int32) x2).2 x2 (f_LH_low (f_LH_many (f_LH_many s (0 : Int32) x2).2 (1 : Int32) x2).2 x3 (f_LH_many s (0 : Int32) x2).1) (f_LH_low (f_LH_many (f_LH_many s (0 : Int32) x2).2 (1 : Int32) x2).2 (x3 >>> ((4 : Int32) &&& 31)) (f_LH_many (f_LH_many s (0 : Int32) x2).2 (1 : Int32) x2).1)).2.2 x2 (f_LH_low (f_LH_many (f_LH_many s (0 : Int32) x2).2 (1 : Int32) x2).2 x3 (f_LH_many s (0 : Int32) x2).1) (f_LH_low (f_LH_many (f_LH_many s (0 : Int32) x2).2 (1 : Int32) x2).2 (x3 >>> ((4 : Int32) &&& 31)) (f_LH_many (f_LH_many s (0 : Int32) x2).2 (1 : Int32) x2).1)).2.1 / (10 : Int32)) - ((f_CB_target (f_CB_answer (f_LH_many (f_LH_many s (0 : Int32) x2).2 (1 : Int32) x2).2 x2 (f_LH_low (f_LH_many (f_LH_many s (0 : Int32) x2).2 (1 : Int32) x2).2 x3 (f_LH_many s (0 : Int32) x2).1) (f_LH_low (f_LH_many (f_LH_many s (0 : Int32) x2).2 (1 : Int32) x2).2 (x3 >>> ((4 : Int32) &&& 31)) (f_LH_many (f_LH_many s (0 : Int32) x2).2 (1 : Int32) x2).1)).2.2 x2 (f_LH_low (f_LH_many (f_LH_many s (0 : Int32) x2).2 (1 : Int32) x2).2 x3 (f_LH_many s (0 : Int32) x2).1) (f_LH_low (f_LH_many (f_LH_many s (0 : Int32) x2).2 (1 : Int32) x2).2 (x3 >>> ((4 : Int32) &&& 31)) (f_LH_many (f_LH_many s (0 : Int32) x2).2 (1 : Int32) x2).1)).2.1 / (10 : Int32)) / (100 : Int32) * (100 : Int32)) ((f_CB_target (f_CB_answer (f_LH_many (f_LH_many s (0 : Int32) x2).2 (1 : Int32) x2).2 x2 (f_LH_low (f_LH_many (f_LH_many s (0 : Int32) x2).2 (1 : Int32) x2).2 x3 (f_LH_many s (0 : Int32) x2).1) (f_LH_low (f_LH_many (f_LH_many s (0 : Int32) x2).2 (1 : Int32) x2).2 (x3 >>> ((4 : Int32) &&& 31)) (f_LH_many (f_LH_many s (0 : Int32) x2).2 (1 : Int32) x2).1)).2.2 x2 (f_LH_low (f_LH_many (f_LH_many s (0 : Int32) x2).2 (1 : Int32) x2).2 x3 (f_LH_many s (0 : Int32) x2).1) (f_LH_low (f_LH_many (f_LH_many s (0 : Int32) x2).2 (1 : Int32) x2).2 (x3 >>> ((4 : Int32) &&& 31)) (f_LH_many (f_LH_many s (0 : Int32) x2).2 (1 : Int32) x2).1)).2.1 - (f_CB_target (f_CB_answer (f_LH_many (f_LH_many s (0 : Int32) x2).2 (1 : Int32) x2).2 x2 (f_LH_low (f_LH_many (f_LH_many s (0 : Int32) x2).2 (1 : Int32) x2).2 x3 (f_LH_many s (0 : Int32) x2).1) (f_LH_low (f_LH_many (f_LH_many s (0 : Int32) x2).2 (1 : Int32) x2).2 (x3 >>> ((4 : Int32) &&& 31)) (f_LH_many (f_LH_many s (0 : Int32) x2).2 (1 : Int32) x2).1)).2.2 x2 (f_LH_low (f_LH_many (f_LH_many s (0 : Int32) x2).2 (1 : Int32) x2).2 x3 (f_LH_many s (0 : Int32) x2).1) (f_LH_low (f_LH_many (f_LH_many s (0 : Int32) x2).2 (1 : Int32) x2).2 (x3 >>> ((4 : Int32) &&& 31)) (f_LH_many (f_LH_many s (0 : Int32) x2).2 (1 : Int32) x2).1)).2.1 / (10 : Int32) * (10 : Int32))).2.2 t x2 x3 (f_LH_many s (0 : Int32) x2).1 (f_LH_many (f_LH_many s (0 : Int32) x2).2 (1 : Int32) x2).1 (f_LH_low (f_LH_many (f_LH_many s (0 : Int32) x2).2 (1 : Int32) x2).2 x3 (f_LH_many s (0 : Int32) x2).1) (f_LH_low (f_LH_many (f_LH_many s (0 : Int32) x2).2 (1 : Int32) x2).2 (x3 >>> ((4 : Int32) &&& 31)) (f_LH_many (f_LH_many s (0 : Int32) x2).2 (1 : Int32) x2).1) (f_CB_answer (f_LH_many (f_LH_many s (0 : Int32) x2).2 (1 : Int32) x2).2 x2 (f_LH_low (f_LH_many (f_LH_many s (0 : Int32) x2).2 (1 : Int32) x2).2 x3 (f_LH_many s (0 : Int32) x2).1) (f_LH_low (f_LH_many (f_LH_many s (0 : Int32) x2).2 (1 : Int32) x2).2 (x3 >>> ((4 : Int32) &&& 31)) (f_LH_many (f_LH_many s (0 : Int32) x2).2 (1 : Int32) x2).1)).2.1 (f_CB_target (f_CB_answer (f_LH_many (f_LH_many s (0 : Int32) x2).2 (1 : Int32) x2).2 x2 (f_LH_low (f_LH_many (f_LH_many s (0 : Int32) x2).2 (1 : Int32) x2).2 x3 (f_LH_many s (0 : Int32) x2).1) (f_LH_low (f_LH_many (f_LH_many s (0 : Int32) x2).2 (1 : Int32) x2).2 (x3 >>> ((4 : Int32) &&& 31)) (f_LH_many (f_LH_many s (0 : Int32) x2).2 (1 : Int32) x2).1)).2.2 x2 (f_LH_low (f_LH_many (f_LH_many s (0 : Int32) x2).2 (1 : Int32) x2).2 x3 (f_LH_many s (0 : Int32) x2).1) (f_LH_low (f_LH_many (f_LH_many s (0 : Int32) x2).2 (1 : Int32) x2).2 (x3 >>> ((4 : Int32) &&& 31)) (f_LH_many (f_LH_many s (0 : Int32) x2).2 (1 : Int32) x2).1)).2.1))) else (f_LH_isAnswerSo_167 (f_LH_asks (f_LH_asks (f_CB_target (f_CB_answer (f_LH_many (f_LH_many s (0 : Int32) x2).2 (1 : Int32) x2).2 x2 (f_LH_low (f_LH_many (f_LH_many s (0 : Int32) x2).2 (1 : Int32) x2).2 x3 (f_LH_many s (0 : Int32) x2).1) (f_LH_low (f_LH_many (f_LH_many s (0 : Int32) x2).2 (1 : Int32) x2).2 (x3 >>> ((4 : Int32) &&& 31)) (f_LH_many (f_LH_many s (0 : Int32) x2).2 (1 : Int32) x2).1)).2.2 x2 (f_LH_low (f_LH_many (f_LH_many s (0 : Int32) x2).2 (1 : Int32) x2).2 x3 (f_LH_many s (0 : Int32) x2).1) (f_LH_low (f_LH_many (f_LH_many s (0 : Int32) x2).2 (1 : Int32) x2).2 (x3 >>> ((4 : Int32) &&& 31)) (f_LH_many (f_LH_many s (0 : Int32) x2).2 (1 : Int32) x2).1)).2.2 (4 : Int32) x2 (f_LH_many s (0 : Int32) x2).1 (0 : Int32) (0 : Int32) (0 : Int32)).2 (4 : Int32) x2 (0 : Int32) (f_LH_many (f_LH_many s (0 : Int32) x2).2 (1 : Int32) x2).1 (0 : Int32) (0 : Int32)).2 t x2 x3 (f_LH_many s (0 : Int32) x2).1 (f_LH_many (f_LH_many s (0 : Int32) x2).2 (1 : Int32) x2).1 (f_LH_low (f_LH_many (f_LH_many s (0 : Int32) x2).2 (1 : Int32) x2).2 x3 (f_LH_many s (0 : Int32) x2).1) (f_LH_low (f_LH_many (f_LH_many s (0 : Int32) x2).2 (1 : Int32) x2).2 (x3 >>> ((4 : Int32) &&& 31)) (f_LH_many (f_LH_many s (0 : Int32) x2).2 (1 : Int32) x2).1) (f_CB_answer (f_LH_many (f_LH_many s (0 : Int32) x2).2 (1 : Int32) x2).2 x2 (f_LH_low (f_LH_many (f_LH_many s (0 : Int32) x2).2 (1 : Int32) x2).2 x3 (f_LH_many s (0 : Int32) x2).1) (f_LH_low (f_LH_many (f_LH_many s (0 : Int32) x2).2 (1 : Int32) x2).2 (x3 >>> ((4 : Int32) &&& 31)) (f_LH_many (f_LH_many s (0 : Int32) x2).2 (1 : Int32) x2).1)).2.1 (f_CB_target (f_CB_answer (f_LH_many (f_LH_many s (0 : Int32) x2).2 (1 : Int32) x2).2 x2 (f_LH_low (f_LH_many (f_LH_many s (0 : Int32) x2).2 (1 : Int32) x2).2 x3 (f_LH_many s (0 : Int32) x2).1) (f_LH_low (f_LH_many (f_LH_many s (0 : Int32) x2).2 (1 : Int32) x2).2 (x3 >>> ((4 : Int32) &&& 31)) (f_LH_many (f_LH_many s (0 : Int32) x2).2 (1 : Int32) x2).1)).2.2 x2 (f_LH_low (f_LH_many (f_LH_many s (0 : Int32) x2).2 (1 : Int32) x2).2 x3 (f_LH_many s (0 : Int32) x2).1) (f_LH_low (f_LH_many (f_LH_many s (0 : Int32) x2).2 (1 : Int32) x2).2 (x3 >>> ((4 : Int32) &&& 31)) (f_LH_many (f_LH_many s (0 : Int32) x2).2 (1 : Int32) x2).1)).2.1)) else (f_LH_isAnswerSo_167 (f_LH_asks (f_CB_target (f_CB_answer (f_LH_many (f_LH_many s (0 : Int32) x2).2 (1 : Int32) x2).2 x2 (f_LH_low (f_LH_many (f_LH_many s (0 : Int32) x2).2 (1 : Int32) x2).2 x3 (f_LH_many s (0 : Int32) x2).1) (f_LH_low (f_LH_many (f_LH_many s (0 : Int32) x2).2 (1 : Int32) x2).2 (x3 >>> ((4 : Int32) &&& 31)) (f_LH_many (f_LH_many s (0 : Int32) x2).2 (1 : Int32) x2).1)).2.2 x2 (f_LH_low (f_LH_many (f_LH_many s (0 : Int32) x2).2 (1 : Int32) x2).2 x3 (f_LH_many s (0 : Int32) x2).1) (f_LH_low (f_LH_many (f_LH_many s (0 : Int32) x2).2 (1 : Int32) x2).2 (x3 >>> ((4 : Int32) &&& 31)) (f_LH_many (f_LH_many s (0 : Int32) x2).2 (1 : Int32) x2).1)).2.2 (4 : Int32) x2 (f_LH_many s (0 : Int32) x2).1 (0 : Int32) (0 : Int32) (0 : Int32)).2 t x2 x3 (f_LH_many s (0 : Int32) x2).1 (f_LH_many (f_LH_many s (0 : Int32) x2).2 (1 : Int32) x2).1 (f_LH_low (f_LH_many (f_LH_many s (0 : Int32) x2).2 (1 : Int32) x2).2 x3 (f_LH_many s (0 : Int32) x2).1) (f_LH_low (f_LH_many (f_LH_many s (0 : Int32) x2).2 (1 : Int32) x2).2 (x3 >>> ((4 : Int32) &&& 31)) (f_LH_many (f_LH_many s (0 : Int32) x2).2 (1 : Int32) x2).1) (f_CB_answer (f_LH_many (f_LH_many s (0 : Int32) x2).2 (1 : Int32) x2).2 x2 (f_LH_low (f_LH_many (f_LH_many s (0 : Int32) x2).2 (1 : Int32) x2).2 x3 (f_LH_many s (0 : Int32) x2).1) (f_LH_low (f_LH_many (f_LH_many s (0 : Int32) x2).2 (1 : Int32) x2).2 (x3 >>> ((4 : Int32) &&& 31)) (f_LH_many (f_LH_many s (0 : Int32) x2).2 (1 : Int32) x2).1)).2.1 (f_CB_target (f_CB_answer (f_LH_many (f_LH_many s (0 : Int32) x2).2 (1 : Int32) x2).2 x2 (f_LH_low (f_LH_many (f_LH_many s (0 : Int32) x2).2 (1 : Int32) x2).2 x3 (f_LH_many s (0 : Int32) x2).1) (f_LH_low (f_LH_many (f_LH_many s (0 : Int32) x2).2 (1 : Int32) x2).2 (x3 >>> ((4 : Int32) &&& 31)) (f_LH_many (f_LH_many s (0 : Int32) x2).2 (1 : Int32) x2).1)).2.2 x2 (f_LH_low (f_LH_many (f_LH_many s (0 : Int32) x2).2 (1 : Int32) x2).2 x3 (f_LH_many s (0 : Int32) x2).1) (f_LH_low (f_LH_many (f_LH_many s (0 : Int32) x2).2 (1 : Int32) x2).2 (x3 >>> ((4 : Int32) &&& 31)) (f_LH_many (f_LH_many s (0 : Int32) x2).2 (1 : Int32) x2).1)).2.1))) else (f_LH_isAnswerSo_28 (f_LH_many (f_LH_many s (0 : Int32) x2).2 (1 : Int32) x2).2 t x2 x3 (f_LH_many s (0 : Int32) x2).1 (f_LH_many (f_LH_many s (0 : Int32) x2).2 (1 : Int32) x2).1)))
def p_LH_isAnswerSo (s : am_M) (t : am_M) (x2 : Int32) (x3 : Int32) : Prop := p_LH_many s (0 : Int32) x2 ∧ (p_LH_many (f_LH_many s (0 : Int32) x2).2 (1 : Int32) x2 ∧ ((((f_LH_many s (0 : Int32) x2).1 < (1 : Int32)) → (p_LH_isAnswerSo_28 (f_LH_many (f_LH_many s (0 : Int32) x2).2 (1 : Int32) x2).2 t x2 x3 (f_LH_many s (0 : Int32) x2).1 (f_LH_many (f_LH_many s (0 : Int32) x2).2 (1 : Int32) x2).1)) ∧ (¬ ((f_LH_many s (0 : Int32) x2).1 < (1 : Int32)) → (((1 : Int32) ≤ (f_LH_many (f_LH_many s (0 : Int32) x2).2 (1 : Int32) x2).1) → p_LH_low (f_LH_many (f_LH_many s (0 : Int32) x2).2 (1 : Int32) x2).2 x3 (f_LH_many s (0 : Int32) x2).1 ∧ (p_LH_low (f_LH_many (f_LH_many s (0 : Int32) x2).2 (1 : Int32) x2).2 (x3 >>> ((4 : Int32) &&& 31)) (f_LH_many (f_LH_many s (0 : Int32) x2).2 (1 : Int32) x2).1 ∧ (p_CB_answer (f_LH_many (f_LH_many s (0 : Int32) x2).2 (1 : Int32) x2).2 x2 (f_LH_low (f_LH_many (f_LH_many s (0 : Int32) x2).2 (1 : Int32) x2).2 x3 (f_LH_many s (0 : Int32) x2).1) (f_LH_low (f_LH_many (f_LH_many s (0 : Int32) x2).2 (1 : Int32) x2).2 (x3 >>> ((4 : Int32) &&& 31)) (f_LH_many (f_LH_many s (0 : Int32) x2).2 (1 : Int32) x2).1) ∧ ((f_CB_answer (f_LH_many (f_LH_many s (0 : Int32) x2).2 (1 : Int32) x2).2 x2 (f_LH_low (f_LH_many (f_LH_many s (0 : Int32) x2).2 (1 : Int32) x2).2 x3 (f_LH_many s (0 : Int32) x2).1) (f_LH_low (f_LH_many (f_LH_many s (0 : Int32) x2).2 (1 : Int32) x2).2 (x3 >>> ((4 : Int32) &&& 31)) (f_LH_many (f_LH_many s (0 : Int32) x2).2 (1 : Int32) x2).1)).1 = 0 ∧ (p_CB_target (f_CB_answer (f_LH_many (f_LH_many s (0 : Int32) x2).2 (1 : Int32) x2).2 x2 (f_LH_low (f_LH_many (f_LH_many s (0 : Int32) x2).2 (1 : Int32) x2).2 x3 (f_LH_many s (0 : Int32) x2).1) (f_LH_low (f_LH_many (f_LH_many s (0 : Int32) x2).2 (1 : Int32) x2).2 (x3 >>> ((4 : Int32) &&& 31)) (f_LH_many (f_LH_many s (0 : Int32) x2).2 (1 : Int32) x2).1)).2.2 x2 (f_LH_low (f_LH_many (f_LH_many s (0 : Int32) x2).2 (1 : Int32) x2).2 x3 (f_LH_many s (0 : Int32) x2).1) (f_LH_low (f_LH_many (f_LH_many s (0 : Int32) x2).2 (1 : Int32) x2).2 (x3 >>> ((4 : Int32) &&& 31)) (f_LH_many (f_LH_many s (0 : Int32) x2).2 (1 : Int32) x2).1) ∧ ((f_CB_target (f_CB_answer (f_LH_many (f_LH_many s (0 : Int32) x2).2 (1 : Int32) x2).2 x2 (f_LH_low (f_LH_many (f_LH_many s (0 : Int32) x2).2 (1 : Int32) x2).2 x3 (f_LH_many s (0 : Int32) x2).1) (f_LH_low (f_LH_many (f_LH_many s (0 : Int32) x2).2 (1 : Int32) x2).2 (x3 >>> ((4 : Int32) &&& 31)) (f_LH_many (f_LH_many s (0 : Int32) x2).2 (1 : Int32) x2).1)).2.2 x2 (f_LH_low (f_LH_many (f_LH_many s (0 : Int32) x2).2 (1 : Int32) x2).2 x3 (f_LH_many s (0 : Int32) x2).1) (f_LH_low (f_LH_many (f_LH_many s (0 : Int32) x2).2 (1 : Int32) x2).2 (x3 >>> ((4 : Int32) &&& 31)) (f_LH_many (f_LH_many s (0 : Int32) x2).2 (1 : Int32) x2).1)).1 = 0 ∧ ((((30 : Int32) < (f_LH_many s (0 : Int32) x2).1) → (p_LH_isAnswerSo_167 (f_CB_target (f_CB_answer (f_LH_many (f_LH_many s (0 : Int32) x2).2 (1 : Int32) x2).2 x2 (f_LH_low (f_LH_many (f_LH_many s (0 : Int32) x2).2 (1 : Int32) x2).2 x3 (f_LH_many s (0 : Int32) x2).1) (f_LH_low (f_LH_many (f_LH_many s (0 : Int32) x2).2 (1 : Int32) x2).2 (x3 >>> ((4 : Int32) &&& 31)) (f_LH_many (f_LH_many s (0 : Int32) x2).2 (1 : Int32) x2).1)).2.2 x2 (f_LH_low (f_LH_many (f_LH_many s (0 : Int32) x2).2 (1 : Int32) x2).2 x3 (f_LH_many s (0 : Int32) x2).1) (f_LH_low (f_LH_many (f_LH_many s (0 : Int32) x2).2 (1 : Int32) x2).2 (x3 >>> ((4 : Int32) &&& 31)) (f_LH_many (f_LH_many s (0 : Int32) x2).2 (1 : Int32) x2).1)).2.2 t x2 x3 (f_LH_many s (0 : Int32) x2).1 (f_LH_many (f_LH_many s (0 : Int32) x2).2 (1 : Int32) x2).1 (f_LH_low (f_LH_many (f_LH_many s (0 : Int32) x2).2 (1 : Int32) x2).2 x3 (f_LH_many s (0 : Int32) x2).1) (f_LH_low (f_LH_many (f_LH_many s (0 : Int32) x2).2 (1 : Int32) x2).2 (x3 >>> ((4 : Int32) &&& 31)) (f_LH_many (f_LH_many s (0 : Int32) x2).2 (1 : Int32) x2).1) (f_CB_answer (f_LH_many (f_LH_many s (0 : Int32) x2).2 (1 : Int32) x2).2 x2 (f_LH_low (f_LH_many (f_LH_many s (0 : Int32) x2).2 (1 : Int32) x2).2 x3 (f_LH_many s (0 : Int32) x2).1) (f_LH_low (f_LH_many (f_LH_many s (0 : Int32) x2).2 (1 : Int32) x2).2 (x3 >>> ((4 : Int32) &&& 31)) (f_LH_many (f_LH_many s (0 : Int32) x2).2 (1 : Int32) x2).1)).2.1 (f_CB_target (f_CB_answer (f_LH_many (f_LH_many s (0 : Int32) x2).2 (1 : Int32) x2).2 x2 (f_LH_low (f_LH_many (f_LH_many s (0 : Int32) x2).2 (1 : Int32) x2).2 x3 (f_LH_many s (0 : Int32) x2).1) (f_LH_low (f_LH_many (f_LH_many s (0 : Int32) x2).2 (1 : Int32) x2).2 (x3 >>> ((4 : Int32) &&& 31)) (f_LH_many (f_LH_many s (0 : Int32) x2).2 (1 : Int32) x2).1)).2.2 x2 (f_LH_low (f_LH_many (f_LH_many s (0 : Int32) x2).2 (1 : Int32) x2).2 x3 (f_LH_many s (0 : Int32) x2).1) (f_LH_low (f_LH_many (f_LH_many s (0 : Int32) x2).2 (1 : Int32) x2).2 (x3 >>> ((4 : Int32) &&& 31)) (f_LH_many (f_LH_many s (0 : Int32) x2).2 (1 : Int32) x2).1)).2.1)) ∧ (¬ ((30 : Int32) < (f_LH_many s (0 : Int32) x2).1) → p_LH_asks (f_CB_target (f_CB_answer (f_LH_many (f_LH_many s (0 : Int32) x2).2 (1 : Int32) x2).2 x2 (f_LH_low (f_LH_many (f_LH_many s (0 : Int32) x2).2 (1 : Int32) x2).2 x3 (f_LH_many s (0 : Int32) x2).1) (f_LH_low (f_LH_many (f_LH_many s (0 : Int32) x2).2 (1 : Int32) x2).2 (x3 >>> ((4 : Int32) &&& 31)) (f_LH_many (f_LH_many s (0 : Int32) x2).2 (1 : Int32) x2).1)).2.2 x2 (f_LH_low (f_LH_many (f_LH_many s (0 : Int32) x2).2 (1 : Int32) x2).2 x3 (f_LH_many s (0 : Int32) x2).1) (f_LH_low (f_LH_many (f_LH_many s (0 : Int32) x2).2 (1 : Int32) x2).2 (x3 >>> ((4 : Int32) &&& 31)) (f_LH_many (f_LH_many s (0 : Int32) x2).2 (1 : Int32) x2).1)).2.2 (4 : Int32) x2 (f_LH_many s (0 : Int32) x2).1 (0 : Int32) (0 : Int32) (0 : Int32) ∧ ((((f_LH_asks (f_CB_target (f_CB_answer (f_LH_many (f_LH_many s (0 : Int32) x2).2 (1 : Int32) x2).2 x2 (f_LH_low (f_LH_many (f_LH_many s (0 : Int32) x2).2 (1 : Int32) x2).2 x3 (f_LH_many s (0 : Int32) x2).1) (f_LH_low (f_LH_many (f_LH_many s (0 : Int32) x2).2 (1 : Int32) x2).2 (x3 >>> ((4 : Int32) &&& 31)) (f_LH_many (f_LH_many s (0 : Int32) x2).2 (1 : Int32) x2).1)).2.2 x2 (f_LH_low (f_LH_many (f_LH_many s (0 : Int32) x2).2 (1 : Int32) x2).2 x3 (f_LH_many s (0 : Int32) x2).1) (f_LH_low (f_LH_many (f_LH_many s (0 : Int32) x2).2 (1 : Int32) x2).2 (x3 >>> ((4 : Int32) &&& 31)) (f_LH_many (f_LH_many s (0 : Int32) x2).2 (1 : Int32) x2).1)).2.2 (4 : Int32) x2 (f_LH_many s (0 : Int32) x2).1 (0 : Int32) (0 : Int32) (0 : Int32)).1 = (-9999999 : Int32)) → p_LH_asks (f_LH_asks (f_CB_target (f_CB_answer (f_LH_many (f_LH_many s (0 : Int32) x2).2 (1 : Int32) x2).2 x2 (f_LH_low (f_LH_many (f_LH_many s (0 : Int32) x2).2 (1 : Int32) x2).2 x3 (f_LH_many s (0 : Int32) x2).1) (f_LH_low (f_LH_many (f_LH_many s (0 : Int32) x2).2 (1 : Int32) x2).2 (x3 >>> ((4 : Int32) &&& 31)) (f_LH_many (f_LH_many s (0 : Int32) x2).2 (1 : Int32) x2).1)).2.2 x2 (f_LH_low (f_LH_many (f_LH_many s (0 : Int32) x2).2 (1 : Int32) x2).2 x3 (f_LH_many s (0 : Int32) x2).1) (f_LH_low (f_LH_many (f_LH_many s (0 : Int32) x2).2 (1 : Int32) x2).2 (x3 >>> ((4 : Int32) &&& 31)) (f_LH_many (f_LH_many s (0 : Int32) x2).2 (1 : Int32) x2).1)).2.2 (4 : Int32) x2 (f_LH_many s (0 : Int32) x2).1 (0 : Int32) (0 : Int32) (0 : Int32)).2 (4 : Int32) x2 (0 : Int32) (f_LH_many (f_LH_many s (0 : Int32) x2).2 (1 : Int32) x2).1 (0 : Int32) (0 : Int32) ∧ ((((f_LH_asks (f_LH_asks (f_CB_target (f_CB_answer (f_LH_many (f_LH_many s (0 : Int32) x2).2 (1 : Int32) x2).2 x2 (f_LH_low (f_LH_many (f_LH_many s (0 : Int32) x2).2 (1 : Int32) x2).2 x3 (f_LH_many s (0 : Int32) x2).1) (f_LH_low (f_LH_many (f_LH_many s (0 : Int32) x2).2 (1 : Int32) x2).2 (x3 >>> ((4 : Int32) &&& 31)) (f_LH_many (f_LH_many s (0 : Int32) x2).2 (1 : Int32) x2).1)).2.2 x2 (f_LH_low (f_LH_many (f_LH_many s (0 : Int32) x2).2 (1 : Int32) x2).2 x3 (f_LH_many s (0 : Int32) x2).1) (f_LH_low (f_LH_many (f_LH_many s (0 : Int32) x2).2 (1 : Int32) x2).2 (x3 >>> ((4 : Int32) &&& 31)) (f_LH_many (f_LH_many s (0 : Int32) x2).2 (1 : Int32) x2).1)).2.2 (4 : Int32) x2 (f_LH_many s (0 : Int32) x2).1 (0 : Int32) (0 : Int32) (0 : Int32)).2 (4 : Int32) x2 (0 : Int32) (f_LH_many (f_LH_many s (0 : Int32) x2).2 (1 : Int32) x2).1 (0 : Int32) (0 : Int32)).1 = (-9999999 : Int32)) → (((f_CB_target (f_CB_answer (f_LH_many (f_LH_many s (0 : Int32) x2).2 (1 : Int32) x2).2 x2 (f_LH_low (f_LH_many (f_LH_many s (0 : Int32) x2).2 (1 : Int32) x2).2 x3 (f_LH_many s (0 : Int32) x2).1) (f_LH_low (f_LH_many (f_LH_many s (0 : Int32) x2).2 (1 : Int32) x2).2 (x3 >>> ((4 : Int32) &&& 31)) (f_LH_many (f_LH_many s (0 : Int32) x2).2 (1 : Int32) x2).1)).2.2 x2 (f_LH_low (f_LH_many (f_LH_many s (0 : Int32) x2).2 (1 : Int32) x2).2 x3 (f_LH_many s (0 : Int32) x2).1) (f_LH_low (f_LH_many (f_LH_many s (0 : Int32) x2).2 (1 : Int32) x2).2 (x3 >>> ((4 : Int32) &&& 31)) (f_LH_many (f_LH_many s (0 : Int32) x2).2 (1 : Int32) x2).1)).2.1 < 0) → (p_LH_isAnswerSo_163 (f_LH_asks (f_LH_asks (f_CB_target (f_CB_answer (f_LH_many (f_LH_many s (0 : Int32) x2).2 (1 : Int32) x2).2 x2 (f_LH_low (f_LH_many (f_LH_many s (0 : Int32) x2).2 (1 : Int32) x2).2 x3 (f_LH_many s (0 : Int32) x2).1) (f_LH_low (f_LH_many (f_LH_many s (0 : Int32) x2).2 (1 : Int32) x2).2 (x3 >>> ((4 : Int32) &&& 31)) (f_LH_many (f_LH_many s (0 : Int32) x2).2 (1 : Int32) x2).1)).2.2 x2 (f_LH_low (f_LH_many (f_LH_many s (0 : Int32) x2).2 (1 : Int32) x2).2 x3 (f_LH_many s (0 : Int32) x2).1) (f_LH_low (f_LH_many (f_LH_many s (0 : Int32) x2).2 (1 : Int32) x2).2 (x3 >>> ((4 : Int32) &&& 31)) (f_LH_many (f_LH_many s (0 : Int32) x2).2 (1 : Int32) x2).1)).2.2 (4 : Int32) x2 (f_LH_many s (0 : Int32) x2).1 (0 : Int32) (0 : Int32) (0 : Int32)).2 (4 : Int32) x2 (0 : Int32) (f_LH_many (f_LH_many s (0 : Int32) x2).2 (1 : Int32) x2).1 (0 : Int32) (0 : Int32)).2 t x2 x3 (f_LH_many s (0 : Int32) x2).1 (f_LH_many (f_LH_many s (0 : Int32) x2).2 (1 : Int32) x2).1 (f_LH_low (f_LH_many (f_LH_many s (0 : Int32) x2).2 (1 : Int32) x2).2 x3 (f_LH_many s (0 : Int32) x2).1) (f_LH_low (f_LH_many (f_LH_many s (0 : Int32) x2).2 (1 : Int32) x2).2 (x3 >>> ((4 : Int32) &&& 31)) (f_LH_many (f_LH_many s (0 : Int32) x2).2 (1 : Int32) x2).1) (f_CB_answer (f_LH_many (f_LH_many s (0 : Int32) x2).2 (1 : Int32) x2).2 x2 (f_LH_low (f_LH_many (f_LH_many s (0 : Int32) x2).2 (1 : Int32) x2).2 x3 (f_LH_many s (0 : Int32) x2).1) (f_LH_low (f_LH_many (f_LH_many s (0 : Int32) x2).2 (1 : Int32) x2).2 (x3 >>> ((4 : Int32) &&& 31)) (f_LH_many (f_LH_many s (0 : Int32) x2).2 (1 : Int32) x2).1)).2.1 (f_CB_target (f_CB_answer (f_LH_many (f_LH_many s (0 : Int32) x2).2 (1 : Int32) x2).2 x2 (f_LH_low (f_LH_many (f_LH_many s (0 : Int32) x2).2 (1 : Int32) x2).2 x3 (f_LH_many s (0 : Int32) x2).1) (f_LH_low (f_LH_many (f_LH_many s (0 : Int32) x2).2 (1 : Int32) x2).2 (x3 >>> ((4 : Int32) &&& 31)) (f_LH_many (f_LH_many s (0 : Int32) x2).2 (1 : Int32) x2).1)).2.2 x2 (f_LH_low (f_LH_many (f_LH_many s (0 : Int32) x2).2 (1 : Int32) x2).2 x3 (f_LH_many s (0 : Int32) x2).1) (f_LH_low (f_LH_many (f_LH_many s (0 : Int32) x2).2 (1 : Int32) x2).2 (x3 >>> ((4 : Int32) &&& 31)) (f_LH_many (f_LH_many s (0 : Int32) x2).2 (1 : Int32) x2).1)).2.1)) ∧ (¬ ((f_CB_target (f_CB_answer (f_LH_many (f_LH_many s (0 : Int32) x2).2 (1 : Int32) x2).2 x2 (f_LH_low (f_LH_many (f_LH_many s (0 : Int32) x2).2 (1 : Int32) x2).2 x3 (f_LH_many s (0 : Int32) x2).1) (f_LH_low (f_LH_many (f_LH_many s (0 : Int32) x2).2 (1 : Int32) x2).2 (x3 >>> ((4 : Int32) &&& 31)) (f_LH_many (f_LH_many s (0 : Int32) x2).2 (1 : Int32) x2).1)).2.2 x2 (f_LH_low (f_LH_many (f_LH_many s (0 : Int32) x2).2 (1 : Int32) x2).2 x3 (f_LH_many s (0 : Int32) x2).1) (f_LH_low (f_LH_many (f_LH_many s (0 : Int32) x2).2 (1 : Int32) x2).2 (x3 >>> ((4 : Int32) &&& 31)) (f_LH_many (f_LH_many s (0 : Int32) x2).2 (1 : Int32) x2).1)).2.1 < 0) → p_CB_cell (f_LH_asks (f_LH_asks (f_CB_target (f_CB_answer (f_LH_many (f_LH_many s (0 : Int32) x2).2 (1 : Int32) x2).2 x2 (f_LH_low (f_LH_many (f_LH_many s (0 : Int32) x2).2 (1 : Int32) x2).2 x3 (f_LH_many s (0 : Int32) x2).1) (f_LH_low (f_LH_many (f_LH_many s (0 : Int32) x2).2 (1 : Int32) x2).2 (x3 >>> ((4 : Int32) &&& 31)) (f_LH_many (f_LH_many s (0 : Int32) x2).2 (1 : Int32) x2).1)).2.2 x2 (f_LH_low (f_LH_many (f_LH_many s (0 : Int32) x2).2 (1 : Int32) x2).2 x3 (f_LH_many s (0 : Int32) x2).1) (f_LH_low (f_LH_many (f_LH_many s (0 : Int32) x2).2 (1 : Int32) x2).2 (x3 >>> ((4 : Int32) &&& 31)) (f_LH_many (f_LH_many s (0 : Int32) x2).2 (1 : Int32) x2).1)).2.2 (4 : Int32) x2 (f_LH_many s (0 : Int32) x2).1 (0 : Int32) (0 : Int32) (0 : Int32)).2 (4 : Int32) x2 (0 : Int32) (f_LH_many (f_LH_many s (0 : Int32) x2).2 (1 : Int32) x2).1 (0 : Int32) (0 : Int32)).2 ((f_CB_target (f_CB_answer (f_LH_many (f_LH_many s (0 : Int32) x2).2 (1 : Int32) x2).2 x2 (f_LH_low (f_LH_many (f_LH_many s (0 : Int32) x2).2 (1 : Int32) x2).2 x3 (f_LH_many s (0 : Int32) x2).1) (f_LH_low (f_LH_many (f_LH_many s (0 : Int32) x2).2 (1 : Int32) x2).2 (x3 >>> ((4 : Int32) &&& 31)) (f_LH_many (f_LH_many s (0 : Int32) x2).2 (1 : Int32) x2).1)).2.2 x2 (f_LH_low (f_LH_many (f_LH_many s (0 : Int32) x2).2 (1 : Int32) x2).2 x3 (f_LH_many s (0 : Int32) x2).1) (f_LH_low (f_LH_many (f_LH_many s (0 : Int32) x2).2 (1 : Int32) x2).2 (x3 >>> ((4 : Int32) &&& 31)) (f_LH_many (f_LH_many s (0 : Int32) x2).2 (1 : Int32) x2).1)).2.1 / (1000 : Int32)) (((f_CB_target (f_CB_answer (f_LH_many (f_LH_many s (0 : Int32) x2).2 (1 : Int32) x2).2 x2 (f_LH_low (f_LH_many (f_LH_many s (0 : Int32) x2).2 (1 : Int32) x2).2 x3 (f_LH_many s (0 : Int32) x2).1) (f_LH_low (f_LH_many (f_LH_many s (0 : Int32) x2).2 (1 : Int32) x2).2 (x3 >>> ((4 : Int32) &&& 31)) (f_LH_many (f_LH_many s (0 : Int32) x2).2 (1 : Int32) x2).1)).2.2 x2 (f_LH_low (f_LH_many (f_LH_many s (0 : Int32) x2).2 (1 : Int32) x2).2 x3 (f_LH_many s (0 : Int32) x2).1) (f_LH_low (f_LH_many (f_LH_many s (0 : Int32) x2).2 (1 : Int32) x2).2 (x3 >>> ((4 : Int32) &&& 31)) (f_LH_many (f_LH_many s (0 : Int32) x2).2 (1 : Int32) x2).1)).2.1 / (10 : Int32)) - ((f_CB_target (f_CB_answer (f_LH_many (f_LH_many s (0 : Int32) x2).2 (1 : Int32) x2).2 x2 (f_LH_low (f_LH_many (f_LH_many s (0 : Int32) x2).2 (1 : Int32) x2).2 x3 (f_LH_many s (0 : Int32) x2).1) (f_LH_low (f_LH_many (f_LH_many s (0 : Int32) x2).2 (1 : Int32) x2).2 (x3 >>> ((4 : Int32) &&& 31)) (f_LH_many (f_LH_many s (0 : Int32) x2).2 (1 : Int32) x2).1)).2.2 x2 (f_LH_low (f_LH_many (f_LH_many s (0 : Int32) x2).2 (1 : Int32) x2).2 x3 (f_LH_many s (0 : Int32) x2).1) (f_LH_low (f_LH_many (f_LH_many s (0 : Int32) x2).2 (1 : Int32) x2).2 (x3 >>> ((4 : Int32) &&& 31)) (f_LH_many (f_LH_many s (0 : Int32) x2).2 (1 : Int32) x2).1)).2.1 / (10 : Int32)) / (100 : Int32) * (100 : Int32)) ((f_CB_target (f_CB_answer (f_LH_many (f_LH_many s (0 : Int32) x2).2 (1 : Int32) x2).2 x2 (f_LH_low (f_LH_many (f_LH_many s (0 : Int32) x2).2 (1 : Int32) x2).2 x3 (f_LH_many s (0 : Int32) x2).1) (f_LH_low (f_LH_many (f_LH_many s (0 : Int32) x2).2 (1 : Int32) x2).2 (x3 >>> ((4 : Int32) &&& 31)) (f_LH_many (f_LH_many s (0 : Int32) x2).2 (1 : Int32) x2).1)).2.2 x2 (f_LH_low (f_LH_many (f_LH_many s (0 : Int32) x2).2 (1 : Int32) x2).2 x3 (f_LH_many s (0 : Int32) x2).1) (f_LH_low (f_LH_many (f_LH_many s (0 : Int32) x2).2 (1 : Int32) x2).2 (x3 >>> ((4 : Int32) &&& 31)) (f_LH_many (f_LH_many s (0 : Int32) x2).2 (1 : Int32) x2).1)).2.1 - (f_CB_target (f_CB_answer (f_LH_many (f_LH_many s (0 : Int32) x2).2 (1 : Int32) x2).2 x2 (f_LH_low (f_LH_many (f_LH_many s (0 : Int32) x2).2 (1 : Int32) x2).2 x3 (f_LH_many s (0 : Int32) x2).1) (f_LH_low (f_LH_many (f_LH_many s (0 : Int32) x2).2 (1 : Int32) x2).2 (x3 >>> ((4 : Int32) &&& 31)) (f_LH_many (f_LH_many s (0 : Int32) x2).2 (1 : Int32) x2).1)).2.2 x2 (f_LH_low (f_LH_many (f_LH_many s (0 : Int32) x2).2 (1 : Int32) x2).2 x3 (f_LH_many s (0 : Int32) x2).1) (f_LH_low (f_LH_many (f_LH_many s (0 : Int32) x2).2 (1 : Int32) x2).2 (x3 >>> ((4 : Int32) &&& 31)) (f_LH_many (f_LH_many s (0 : Int32) x2).2 (1 : Int32) x2).1)).2.1 / (10 : Int32) * (10 : Int32)) ∧ ((f_CB_cell (f_LH_asks (f_LH_asks (f_CB_target (f_CB_answer (f_LH_many (f_LH_many s (0 : Int32) x2).2 (1 : Int32) x2).2 x2 (f_LH_low (f_LH_many (f_LH_many s (0 : Int32) x2).2 (1 : Int32) x2).2 x3 (f_LH_many s (0 : Int32) x2).1) (f_LH_low (f_LH_many (f_LH_many s (0 : Int32) x2).2 (1 : Int32) x2).2 (x3 >>> ((4 : Int32) &&& 31)) (f_LH_many (f_LH_many s (0 : Int32) x2).2 (1 : Int32) x2).1)).2.2 x2 (f_LH_low (f_LH_many (f_LH_many s (0 : Int32) x2).2 (1 : Int32) x2).2 x3 (f_LH_many s (0 : Int32) x2).1) (f_LH_low (f_LH_many (f_LH_many s (0 : Int32) x2).2 (1 : Int32) x2).2 (x3 >>> ((4 : Int32) &&& 31)) (f_LH_many (f_LH_many s (0 : Int32) x2).2 (1 : Int32) x2).1)).2.2 (4 : Int32) x2 (f_LH_many s (0 : Int32) x2).1 (0 : Int32) (0 : Int32) (0 : Int32)).2 (4 : Int32) x2 (0 : Int32) (f_LH_many (f_LH_many s (0 : Int32) x2).2 (1 : Int32) x2).1 (0 : Int32) (0 : Int32)).2 ((f_CB_target (f_CB_answer (f_LH_many (f_LH_many s (0 : Int32) x2).2 (1 : Int32) x2).2 x2 (f_LH_low (f_LH_many (f_LH_many s (0 : Int32) x2).2 (1 : Int32) x2).2 x3 (f_LH_many s (0 : Int32) x2).1) (f_LH_low (f_LH_many (f_LH_many s (0 : Int32) x2).2 (1 : Int32) x2).2 (x3 >>> ((4 : Int32) &&& 31)) (f_LH_many (f_LH_many s (0 : Int32) x2).2 (1 : Int32) x2).1)).2.2 x2 (f_LH_low (f_LH_many (f_LH_many s (0 : Int32) x2).2 (1 : Int32) x2).2 x3 (f_LH_many s (0 : Int32) x2).1) (f_LH_low (f_LH_many (f_LH_many s (0 : Int32) x2).2 (1 : Int32) x2).2 (x3 >>> ((4 : Int32) &&& 31)) (f_LH_many (f_LH_many s (0 : Int32) x2).2 (1 : Int32) x2).1)).2.1 / (1000 : Int32)) (((f_CB_target (f_CB_answer (f_LH_many (f_LH_many s (0 : Int32) x2).2 (1 : Int32) x2).2 x2 (f_LH_low (f_LH_many (f_LH_many s (0 : Int32) x2).2 (1 : Int32) x2).2 x3 (f_LH_many s (0 : Int32) x2).1) (f_LH_low (f_LH_many (f_LH_many s (0 : Int32) x2).2 (1 : Int32) x2).2 (x3 >>> ((4 : Int32) &&& 31)) (f_LH_many (f_LH_many s (0 : Int32) x2).2 (1 : Int32) x2).1)).2.2 x2 (f_LH_low (f_LH_many (f_LH_many s (0 : Int32) x2).2 (1 : Int32) x2).2 x3 (f_LH_many s (0 : Int32) x2).1) (f_LH_low (f_LH_many (f_LH_many s (0 : Int32) x2).2 (1 : Int32) x2).2 (x3 >>> ((4 : Int32) &&& 31)) (f_LH_many (f_LH_many s (0 : Int32) x2).2 (1 : Int32) x2).1)).2.1 / (10 : Int32)) - ((f_CB_target (f_CB_answer (f_LH_many (f_LH_many s (0 : Int32) x2).2 (1 : Int32) x2).2 x2 (f_LH_low (f_LH_many (f_LH_many s (0 : Int32) x2).2 (1 : Int32) x2).2 x3 (f_LH_many s (0 : Int32) x2).1) (f_LH_low (f_LH_many (f_LH_many s (0 : Int32) x2).2 (1 : Int32) x2).2 (x3 >>> ((4 : Int32) &&& 31)) (f_LH_many (f_LH_many s (0 : Int32) x2).2 (1 : Int32) x2).1)).2.2 x2 (f_LH_low (f_LH_many (f_LH_many s (0 : Int32) x2).2 (1 : Int32) x2).2 x3 (f_LH_many s (0 : Int32) x2).1) (f_LH_low (f_LH_many (f_LH_many s (0 : Int32) x2).2 (1 : Int32) x2).2 (x3 >>> ((4 : Int32) &&& 31)) (f_LH_many (f_LH_many s (0 : Int32) x2).2 (1 : Int32) x2).1)).2.1 / (10 : Int32)) / (100 : Int32) * (100 : Int32)) ((f_CB_target (f_CB_answer (f_LH_many (f_LH_many s (0 : Int32) x2).2 (1 : Int32) x2).2 x2 (f_LH_low (f_LH_many (f_LH_many s (0 : Int32) x2).2 (1 : Int32) x2).2 x3 (f_LH_many s (0 : Int32) x2).1) (f_LH_low (f_LH_many (f_LH_many s (0 : Int32) x2).2 (1 : Int32) x2).2 (x3 >>> ((4 : Int32) &&& 31)) (f_LH_many (f_LH_many s (0 : Int32) x2).2 (1 : Int32) x2).1)).2.2 x2 (f_LH_low (f_LH_many (f_LH_many s (0 : Int32) x2).2 (1 : Int32) x2).2 x3 (f_LH_many s (0 : Int32) x2).1) (f_LH_low (f_LH_many (f_LH_many s (0 : Int32) x2).2 (1 : Int32) x2).2 (x3 >>> ((4 : Int32) &&& 31)) (f_LH_many (f_LH_many s (0 : Int32) x2).2 (1 : Int32) x2).1)).2.1 - (f_CB_target (f_CB_answer (f_LH_many (f_LH_many s (0 : Int32) x2).2 (1 : Int32) x2).2 x2 (f_LH_low (f_LH_many (f_LH_many s (0 : Int32) x2).2 (1 : Int32) x2).2 x3 (f_LH_many s (0 : Int32) x2).1) (f_LH_low (f_LH_many (f_LH_many s (0 : Int32) x2).2 (1 : Int32) x2).2 (x3 >>> ((4 : Int32) &&& 31)) (f_LH_many (f_LH_many s (0 : Int32) x2).2 (1 : Int32) x2).1)).2.2 x2 (f_LH_low (f_LH_many (f_LH_many s (0 : Int32) x2).2 (1 : Int32) x2).2 x3 (f_LH_many s (0 : Int32) x2).1) (f_LH_low (f_LH_many (f_LH_many s (0 : Int32) x2).2 (1 : Int32) x2).2 (x3 >>> ((4 : Int32) &&& 31)) (f_LH_many (f_LH_many s (0 : Int32) x2).2 (1 : Int32) x2).1)).2.1 / (10 : Int32) * (10 : Int32))).1 = 0 ∧ ((((f_CB_cell (f_LH_asks (f_LH_asks (f_CB_target (f_CB_answer (f_LH_many (f_LH_many s (0 : Int32) x2).2 (1 : Int32) x2).2 x2 (f_LH_low (f_LH_many (f_LH_many s (0 : Int32) x2).2 (1 : Int32) x2).2 x3 (f_LH_many s (0 : Int32) x2).1) (f_LH_low (f_LH_many (f_LH_many s (0 : Int32) x2).2 (1 : Int32) x2).2 (x3 >>> ((4 : Int32) &&& 31)) (f_LH_many (f_LH_many s (0 : Int32) x2).2 (1 : Int32) x2).1)).2.2 x2 (f_LH_low (f_LH_many (f_LH_many s (0 : Int32) x2).2 (1 : Int32) x2).2 x3 (f_LH_many s (0 : Int32) x2).1) (f_LH_low (f_LH_many (f_LH_many s (0 : Int32) x2).2 (1 : Int32) x2).2 (x3 >>> ((4 : Int32) &&& 31)) (f_LH_many (f_LH_many s (0 : Int32) x2).2 (1 : Int32) x2).1)).2.2 (4 : Int32) x2 (f_LH_many s (0 : Int32) x2).1 (0 : Int32) (0 : Int32) (0 : Int32)).2 (4 : Int32) x2 (0 : Int32) (f_LH_many (f_LH_many s (0 : Int32) x2).2 (1 : Int32) x2).1 (0 : Int32) (0 : Int32)).2 ((f_CB_target (f_CB_answer (f_LH_many (f_LH_many s (0 : Int32) x2).2 (1 : Int32) x2).2 x2 (f_LH_low (f_LH_many (f_LH_many s (0 : Int32) x2).2 (1 : Int32) x2).2 x3 (f_LH_many s (0 : Int32) x2).1) (f_LH_low (f_LH_many (f_LH_many s (0 : Int32) x2).2 (1 : Int32) x2).2 (x3 >>> ((4 : Int32) &&& 31)) (f_LH_many (f_LH_many s (0 : Int32) x2).2 (1 : Int32) x2).1)).2.2 x2 (f_LH_low (f_LH_many (f_LH_many s (0 : Int32) x2).2 (1 : Int32) x2).2 x3 (f_LH_many s (0 : Int32) x2).1) (f_LH_low (f_LH_many (f_LH_many s (0 : Int32) x2).2 (1 : Int32) x2).2 (x3 >>> ((4 : Int32) &&& 31)) (f_LH_many (f_LH_many s (0 : Int32) x2).2 (1 : Int32) x2).1)).2.1 / (1000 : Int32)) (((f_CB_target (f_CB_answer (f_LH_many (f_LH_many s (0 : Int32) x2).2 (1 : Int32) x2).2 x2 (f_LH_low (f_LH_many (f_LH_many s (0 : Int32) x2).2 (1 : Int32) x2).2 x3 (f_LH_many s (0 : Int32) x2).1) (f_LH_low (f_LH_many (f_LH_many s (0 : Int32) x2).2 (1 : Int32) x2).2 (x3 >>> ((4 : Int32) &&& 31)) (f_LH_many (f_LH_many s (0 : Int32) x2).2 (1 : Int32) x2).1)).2.2 x2 (f_LH_low (f_LH_many (f_LH_many s (0 : Int32) x2).2 (1 : Int32) x2).2 x3 (f_LH_many s (0 : Int32) x2).1) (f_LH_low (f_LH_many (f_LH_many s (0 : Int32) x2).2 (1 : Int32) x2).2 (x3 >>> ((4 : Int32) &&& 31)) (f_LH_many (f_LH_many s (0 : Int32) x2).2 (1 : Int32) x2).1)).2.1 / (10 : Int32)) - ((f_CB_target (f_CB_answer (f_LH_many (f_LH_many s (0 : Int32) x2).2 (1 : Int32) x2).2 x2 (f_LH_low (f_LH_many (f_LH_many s (0 : Int32) x2).2 (1 : Int32) x2).2 x3 (f_LH_many s (0 : Int32) x2).1) (f_LH_low (f_LH_many (f_LH_many s (0 : Int32) x2).2 (1 : Int32) x2).2 (x3 >>> ((4 : Int32) &&& 31)) (f_LH_many (f_LH_many s (0 : Int32) x2).2 (1 : Int32) x2).1)).2.2 x2 (f_LH_low (f_LH_many (f_LH_many s (0 : Int32) x2).2 (1 : Int32) x2).2 x3 (f_LH_many s (0 : Int32) x2).1) (f_LH_low (f_LH_many (f_LH_many s (0 : Int32) x2).2 (1 : Int32) x2).2 (x3 >>> ((4 : Int32) &&& 31)) (f_LH_many (f_LH_many s (0 : Int32) x2).2 (1 : Int32) x2).1)).2.1 / (10 : Int32)) / (100 : Int32) * (100 : Int32)) ((f_CB_target (f_CB_answer (f_LH_many (f_LH_many s (0 : Int32) x2).2 (1 : Int32) x2).2 x2 (f_LH_low (f_LH_many (f_LH_many s (0 : Int32) x2).2 (1 : Int32) x2).2 x3 (f_LH_many s (0 : Int32) x2).1) (f_LH_low (f_LH_many (f_LH_many s (0 : Int32) x2).2 (1 : Int32) x2).2 (x3 >>> ((4 : Int32) &&& 31)) (f_LH_many (f_LH_many s (0 : Int32) x2).2 (1 : Int32) x2).1)).2.2 x2 (f_LH_low (f_LH_many (f_LH_many s (0 : Int32) x2).2 (1 : Int32) x2).2 x3 (f_LH_many s (0 : Int32) x2).1) (f_LH_low (f_LH_many (f_LH_many s (0 : Int32) x2).2 (1 : Int32) x2).2 (x3 >>> ((4 : Int32) &&& 31)) (f_LH_many (f_LH_many s (0 : Int32) x2).2 (1 : Int32) x2).1)).2.1 - (f_CB_target (f_CB_answer (f_LH_many (f_LH_many s (0 : Int32) x2).2 (1 : Int32) x2).2 x2 (f_LH_low (f_LH_many (f_LH_many s (0 : Int32) x2).2 (1 : Int32) x2).2 x3 (f_LH_many s (0 : Int32) x2).1) (f_LH_low (f_LH_many (f_LH_many s (0 : Int32) x2).2 (1 : Int32) x2).2 (x3 >>> ((4 : Int32) &&& 31)) (f_LH_many (f_LH_many s (0 : Int32) x2).2 (1 : Int32) x2).1)).2.2 x2 (f_LH_low (f_LH_many (f_LH_many s (0 : Int32) x2).2 (1 : Int32) x2).2 x3 (f_LH_many s (0 : Int32) x2).1) (f_LH_low (f_LH_many (f_LH_many s (0 : Int32) x2).2 (1 : Int32) x2).2 (x3 >>> ((4 : Int32) &&& 31)) (f_LH_many (f_LH_many s (0 : Int32) x2).2 (1 : Int32) x2).1)).2.1 / (10 : Int32) * (10 : Int32))).2.1 = (f_CB_answer (f_LH_many (f_LH_many s (0 : Int32) x2).2 (1 : Int32) x2).2 x2 (f_LH_low (f_LH_many (f_LH_many s (0 : Int32) x2).2 (1 : Int32) x2).2 x3 (f_LH_many s (0 : Int32) x2).1) (f_LH_low (f_LH_many (f_LH_many s (0 : Int32) x2).2 (1 : Int32) x2).2 (x3 >>> ((4 : Int32) &&& 31)) (f_LH_many (f_LH_many s (0 : Int32) x2).2 (1 : Int32) x2).1)).2.1) → (p_LH_isAnswerSo_163 (f_CB_cell (f_LH_asks (f_LH_asks (f_CB_target (f_CB_answer (f_LH_many (f_LH_many s (0 : Int32) x2).2 (1 : Int32) x2).2 x2 (f_LH_low (f_LH_many (f_LH_many s (0 : Int32) x2).2 (1 : Int32) x2).2 x3 (f_LH_many s (0 : Int32) x2).1) (f_LH_low (f_LH_many (f_LH_many s (0 : Int32) x2).2 (1 : Int32) x2).2 (x3 >>> ((4 : Int32) &&& 31)) (f_LH_many (f_LH_many s (0 : Int32) x2).2 (1 : Int32) x2).1)).2.2 x2 (f_LH_low (f_LH_many (f_LH_many s (0 : Int32) x2).2 (1 : Int32) x2).2 x3 (f_LH_many s (0 : Int32) x2).1) (f_LH_low (f_LH_many (f_LH_many s (0 : Int32) x2).2 (1 : Int32) x2).2 (x3 >>> ((4 : Int32) &&& 31)) (f_LH_many (f_LH_many s (0 : Int32) x2).2 (1 : Int32) x2).1)).2.2 (4 : Int32) x2 (f_LH_many s (0 : Int32) x2).1 (0 : Int32) (0 : Int32) (0 : Int32)).2 (4 : Int32) x2 (0 : Int32) (f_LH_many (f_LH_many s (0 : Int32) x2).2 (1 : Int32) x2).1 (0 : Int32) (0 : Int32)).2 ((f_CB_target (f_CB_answer (f_LH_many (f_LH_many s (0 : Int32) x2).2 (1 : Int32) x2).2 x2 (f_LH_low (f_LH_many (f_LH_many s (0 : Int32) x2).2 (1 : Int32) x2).2 x3 (f_LH_many s (0 : Int32) x2).1) (f_LH_low (f_LH_many (f_LH_many s (0 : Int32) x2).2 (1 : Int32) x2).2 (x3 >>> ((4 : Int32) &&& 31)) (f_LH_many (f_LH_many s (0 : Int32) x2).2 (1 : Int32) x2).1)).2.2 x2 (f_LH_low (f_LH_many (f_LH_many s (0 : Int32) x2).2 (1 : Int32) x2).2 x3 (f_LH_many s (0 : Int32) x2).1) (f_LH_low (f_LH_many (f_LH_many s (0 : Int32) x2).2 (1 : Int32) x2).2 (x3 >>> ((4 : Int32) &&& 31)) (f_LH_many (f_LH_many s (0 : Int32) x2).2 (1 : Int32) x2).1)).2.1 / (1000 : Int32)) (((f_CB_target (f_CB_answer (f_LH_many (f_LH_many s (0 : Int32) x2).2 (1 : Int32) x2).2 x2 (f_LH_low (f_LH_many (f_LH_many s (0 : Int32) x2).2 (1 : Int32) x2).2 x3 (f_LH_many s (0 : Int32) x2).1) (f_LH_low (f_LH_many (f_LH_many s (0 : Int32) x2).2 (1 : Int32) x2).2 (x3 >>> ((4 : Int32) &&& 31)) (f_LH_many (f_LH_many s (0 : Int32) x2).2 (1 : Int32) x2).1)).2.2 x2 (f_LH_low (f_LH_many (f_LH_many s (0 : Int32) x2).2 (1 : Int32) x2).2 x3 (f_LH_many s (0 : Int32) x2).1) (f_LH_low (f_LH_many (f_LH_many s (0 : Int32) x2).2 (1 : Int32) x2).2 (x3 >>> ((4 : Int32) &&& 31)) (f_LH_many (f_LH_many s (0 : Int32) x2).2 (1 : Int32) x2).1)).2.1 / (10 : Int32)) - ((f_CB_target (f_CB_answer (f_LH_many (f_LH_many s (0 : Int32) x2).2 (1 : Int32) x2).2 x2 (f_LH_low (f_LH_many (f_LH_many s (0 : Int32) x2).2 (1 : Int32) x2).2 x3 (f_LH_many s (0 : Int32) x2).1) (f_LH_low (f_LH_many (f_LH_many s (0 : Int32) x2).2 (1 : Int32) x2).2 (x3 >>> ((4 : Int32) &&& 31)) (f_LH_many (f_LH_many s (0 : Int32) x2).2 (1 : Int32) x2).1)).2.2 x2 (f_LH_low (f_LH_many (f_LH_many s (0 : Int32) x2).2 (1 : Int32) x2).2 x3 (f_LH_many s (0 : Int32) x2).1) (f_LH_low (f_LH_many (f_LH_many s (0 : Int32) x2).2 (1 : Int32) x2).2 (x3 >>> ((4 : Int32) &&& 31)) (f_LH_many (f_LH_many s (0 : Int32) x2).2 (1 : Int32) x2).1)).2.1 / (10 : Int32)) / (100 : Int32) * (100 : Int32)) ((f_CB_target (f_CB_answer (f_LH_many (f_LH_many s (0 : Int32) x2).2 (1 : Int32) x2).2 x2 (f_LH_low (f_LH_many (f_LH_many s (0 : Int32) x2).2 (1 : Int32) x2).2 x3 (f_LH_many s (0 : Int32) x2).1) (f_LH_low (f_LH_many (f_LH_many s (0 : Int32) x2).2 (1 : Int32) x2).2 (x3 >>> ((4 : Int32) &&& 31)) (f_LH_many (f_LH_many s (0 : Int32) x2).2 (1 : Int32) x2).1)).2.2 x2 (f_LH_low (f_LH_many (f_LH_many s (0 : Int32) x2).2 (1 : Int32) x2).2 x3 (f_LH_many s (0 : Int32) x2).1) (f_LH_low (f_LH_many (f_LH_many s (0 : Int32) x2).2 (1 : Int32) x2).2 (x3 >>> ((4 : Int32) &&& 31)) (f_LH_many (f_LH_many s (0 : Int32) x2).2 (1 : Int32) x2).1)).2.1 - (f_CB_target (f_CB_answer (f_LH_many (f_LH_many s (0 : Int32) x2).2 (1 : Int32) x2).2 x2 (f_LH_low (f_LH_many (f_LH_many s (0 : Int32) x2).2 (1 : Int32) x2).2 x3 (f_LH_many s (0 : Int32) x2).1) (f_LH_low (f_LH_many (f_LH_many s (0 : Int32) x2).2 (1 : Int32) x2).2 (x3 >>> ((4 : Int32) &&& 31)) (f_LH_many (f_LH_many s (0 : Int32) x2).2 (1 : Int32) x2).1)).2.2 x2 (f_LH_low (f_LH_many (f_LH_many s (0 : Int32) x2).2 (1 : Int32) x2).2 x3 (f_LH_many s (0 : Int32) x2).1) (f_LH_low (f_LH_many (f_LH_many s (0 : Int32) x2).2 (1 : Int32) x2).2 (x3 >>> ((4 : Int32) &&& 31)) (f_LH_many (f_LH_many s (0 : Int32) x2).2 (1 : Int32) x2).1)).2.1 / (10 : Int32) * (10 : Int32))).2.2 t x2 x3 (f_LH_many s (0 : Int32) x2).1 (f_LH_many (f_LH_many s (0 : Int32) x2).2 (1 : Int32) x2).1 (f_LH_low (f_LH_many (f_LH_many s (0 : Int32) x2).2 (1 : Int32) x2).2 x3 (f_LH_many s (0 : Int32) x2).1) (f_LH_low (f_LH_many (f_LH_many s (0 : Int32) x2).2 (1 : Int32) x2).2 (x3 >>> ((4 : Int32) &&& 31)) (f_LH_many (f_LH_many s (0 : Int32) x2).2 (1 : Int32) x2).1) (f_CB_answer (f_LH_many (f_LH_many s (0 : Int32) x2).2 (1 : Int32) x2).2 x2 (f_LH_low (f_LH_many (f_LH_many s (0 : Int32) x2).2 (1 : Int32) x2).2 x3 (f_LH_many s (0 : Int32) x2).1) (f_LH_low (f_LH_many (f_LH_many s (0 : Int32) x2).2 (1 : Int32) x2).2 (x3 >>> ((4 : Int32) &&& 31)) (f_LH_many (f_LH_many s (0 : Int32) x2).2 (1 : Int32) x2).1)).2.1 (f_CB_target (f_CB_answer (f_LH_many (f_LH_many s (0 : Int32) x2).2 (1 : Int32) x2).2 x2 (f_LH_low (f_LH_many (f_LH_many s (0 : Int32) x2).2 (1 : Int32) x2).2 x3 (f_LH_many s (0 : Int32) x2).1) (f_LH_low (f_LH_many (f_LH_many s (0 : Int32) x2).2 (1 : Int32) x2).2 (x3 >>> ((4 : Int32) &&& 31)) (f_LH_many (f_LH_many s (0 : Int32) x2).2 (1 : Int32) x2).1)).2.2 x2 (f_LH_low (f_LH_many (f_LH_many s (0 : Int32) x2).2 (1 : Int32) x2).2 x3 (f_LH_many s (0 : Int32) x2).1) (f_LH_low (f_LH_many (f_LH_many s (0 : Int32) x2).2 (1 : Int32) x2).2 (x3 >>> ((4 : Int32) &&& 31)) (f_LH_many (f_LH_many s (0 : Int32) x2).2 (1 : Int32) x2).1)).2.1)) ∧ (¬ ((f_CB_cell (f_LH_asks (f_LH_asks (f_CB_target (f_CB_answer (f_LH_many (f_LH_many s (0 : Int32) x2).2 (1 : Int32) x2).2 x2 (f_LH_low (f_LH_many (f_LH_many s (0 : Int32) x2).2 (1 : Int32) x2).2 x3 (f_LH_many s (0 : Int32) x2).1) (f_LH_low (f_LH_many (f_LH_many s (0 : Int32) x2).2 (1 : Int32) x2).2 (x3 >>> ((4 : Int32) &&& 31)) (f_LH_many (f_LH_many s (0 : Int32) x2).2 (1 : Int32) x2).1)).2.2 x2 (f_LH_low (f_LH_many (f_LH_many s (0 : Int32) x2).2 (1 : Int32) x2).2 x3 (f_LH_many s (0 : Int32) x2).1) (f_LH_low (f_LH_many (f_LH_many s (0 : Int32) x2).2 (1 : Int32) x2).2 (x3 >>> ((4 : Int32) &&& 31)) (f_LH_many (f_LH_many s (0 : Int32) x2).2 (1 : Int32) x2).1)).2.2 (4 : Int32) x2 (f_LH_many s (0 : Int32) x2).1 (0 : Int32) (0 : Int32) (0 : Int32)).2 (4 : Int32) x2 (0 : Int32) (f_LH_many (f_LH_many s (0 : Int32) x2).2 (1 : Int32) x2).1 (0 : Int32) (0 : Int32)).2 ((f_CB_target (f_CB_answer (f_LH_many (f_LH_many s (0 : Int32) x2).2 (1 : Int32) x2).2 x2 (f_LH_low (f_LH_many (f_LH_many s (0 : Int32) x2).2 (1 : Int32) x2).2 x3 (f_LH_many s (0 : Int32) x2).1) (f_LH_low (f_LH_many (f_LH_many s (0 : Int32) x2).2 (1 : Int32) x2).2 (x3 >>> ((4 : Int32) &&& 31)) (f_LH_many (f_LH_many s (0 : Int32) x2).2 (1 : Int32) x2).1)).2.2 x2 (f_LH_low (f_LH_many (f_LH_many s (0 : Int32) x2).2 (1 : Int32) x2).2 x3 (f_LH_many s (0 : Int32) x2).1) (f_LH_low (f_LH_many (f_LH_many s (0 : Int32) x2).2 (1 : Int32) x2).2 (x3 >>> ((4 : Int32) &&& 31)) (f_LH_many (f_LH_many s (0 : Int32) x2).2 (1 : Int32) x2).1)).2.1 / (1000 : Int32)) (((f_CB_target (f_CB_answer (f_LH_many (f_LH_many s (0 : Int32) x2).2 (1 : Int32) x2).2 x2 (f_LH_low (f_LH_many (f_LH_many s (0 : Int32) x2).2 (1 : Int32) x2).2 x3 (f_LH_many s (0 : Int32) x2).1) (f_LH_low (f_LH_many (f_LH_many s (0 : Int32) x2).2 (1 : Int32) x2).2 (x3 >>> ((4 : Int32) &&& 31)) (f_LH_many (f_LH_many s (0 : Int32) x2).2 (1 : Int32) x2).1)).2.2 x2 (f_LH_low (f_LH_many (f_LH_many s (0 : Int32) x2).2 (1 : Int32) x2).2 x3 (f_LH_many s (0 : Int32) x2).1) (f_LH_low (f_LH_many (f_LH_many s (0 : Int32) x2).2 (1 : Int32) x2).2 (x3 >>> ((4 : Int32) &&& 31)) (f_LH_many (f_LH_many s (0 : Int32) x2).2 (1 : Int32) x2).1)).2.1 / (10 : Int32)) - ((f_CB_target (f_CB_answer (f_LH_many (f_LH_many s (0 : Int32) x2).2 (1 : Int32) x2).2 x2 (f_LH_low (f_LH_many (f_LH_many s (0 : Int32) x2).2 (1 : Int32) x2).2 x3 (f_LH_many s (0 : Int32) x2).1) (f_LH_low (f_LH_many (f_LH_many s (0 : Int32) x2).2 (1 : Int32) x2).2 (x3 >>> ((4 : Int32) &&& 31)) (f_LH_many (f_LH_many s (0 : Int32) x2).2 (1 : Int32) x2).1)).2.2 x2 (f_LH_low (f_LH_many (f_LH_many s (0 : Int32) x2).2 (1 : Int32) x2).2 x3 (f_LH_many s (0 : Int32) x2).1) (f_LH_low (f_LH_many (f_LH_many s (0 : Int32) x2).2 (1 : Int32) x2).2 (x3 >>> ((4 : Int32) &&& 31)) (f_LH_many (f_LH_many s (0 : Int32) x2).2 (1 : Int32) x2).1)).2.1 / (10 : Int32)) / (100 : Int32) * (100 : Int32)) ((f_CB_target (f_CB_answer (f_LH_many (f_LH_many s (0 : Int32) x2).2 (1 : Int32) x2).2 x2 (f_LH_low (f_LH_many (f_LH_many s (0 : Int32) x2).2 (1 : Int32) x2).2 x3 (f_LH_many s (0 : Int32) x2).1) (f_LH_low (f_LH_many (f_LH_many s (0 : Int32) x2).2 (1 : Int32) x2).2 (x3 >>> ((4 : Int32) &&& 31)) (f_LH_many (f_LH_many s (0 : Int32) x2).2 (1 : Int32) x2).1)).2.2 x2 (f_LH_low (f_LH_many (f_LH_many s (0 : Int32) x2).2 (1 : Int32) x2).2 x3 (f_LH_many s (0 : Int32) x2).1) (f_LH_low (f_LH_many (f_LH_many s (0 : Int32) x2).2 (1 : Int32) x2).2 (x3 >>> ((4 : Int32) &&& 31)) (f_LH_many (f_LH_many s (0 : Int32) x2).2 (1 : Int32) x2).1)).2.1 - (f_CB_target (f_CB_answer (f_LH_many (f_LH_many s (0 : Int32) x2).2 (1 : Int32) x2).2 x2 (f_LH_low (f_LH_many (f_LH_many s (0 : Int32) x2).2 (1 : Int32) x2).2 x3 (f_LH_many s (0 : Int32) x2).1) (f_LH_low (f_LH_many (f_LH_many s (0 : Int32) x2).2 (1 : Int32) x2).2 (x3 >>> ((4 : Int32) &&& 31)) (f_LH_many (f_LH_many s (0 : Int32) x2).2 (1 : Int32) x2).1)).2.2 x2 (f_LH_low (f_LH_many (f_LH_many s (0 : Int32) x2).2 (1 : Int32) x2).2 x3 (f_LH_many s (0 : Int32) x2).1) (f_LH_low (f_LH_many (f_LH_many s (0 : Int32) x2).2 (1 : Int32) x2).2 (x3 >>> ((4 : Int32) &&& 31)) (f_LH_many (f_LH_many s (0 : Int32) x2).2 (1 : Int32) x2).1)).2.1 / (10 : Int32) * (10 : Int32))).2.1 = (f_CB_answer (f_LH_many (f_LH_many s (0 : Int32) x2).2 (1 : Int32) x2).2 x2 (f_LH_low (f_LH_many (f_LH_many s (0 : Int32) x2).2 (1 : Int32) x2).2 x3 (f_LH_many s (0 : Int32) x2).1) (f_LH_low (f_LH_many (f_LH_many s (0 : Int32) x2).2 (1 : Int32) x2).2 (x3 >>> ((4 : Int32) &&& 31)) (f_LH_many (f_LH_many s (0 : Int32) x2).2 (1 : Int32) x2).1)).2.1) → (p_LH_isAnswerSo_167 (f_CB_cell (f_LH_asks (f_LH_asks (f_CB_target (f_CB_answer (f_LH_many (f_LH_many s (0 : Int32) x2).2 (1 : Int32) x2).2 x2 (f_LH_low (f_LH_many (f_LH_many s (0 : Int32) x2).2 (1 : Int32) x2).2 x3 (f_LH_many s (0 : Int32) x2).1) (f_LH_low (f_LH_many (f_LH_many s (0 : Int32) x2).2 (1 : Int32) x2).2 (x3 >>> ((4 : Int32) &&& 31)) (f_LH_many (f_LH_many s (0 : Int32) x2).2 (1 : Int32) x2).1)).2.2 x2 (f_LH_low (f_LH_many (f_LH_many s (0 : Int32) x2).2 (1 : Int32) x2).2 x3 (f_LH_many s (0 : Int32) x2).1) (f_LH_low (f_LH_many (f_LH_many s (0 : Int32) x2).2 (1 : Int32) x2).2 (x3 >>> ((4 : Int32) &&& 31)) (f_LH_many (f_LH_many s (0 : Int32) x2).2 (1 : Int32) x2).1)).2.2 (4 : Int32) x2 (f_LH_many s (0 : Int32) x2).1 (0 : Int32) (0 : Int32) (0 : Int32)).2 (4 : Int32) x2 (0 : Int32) (f_LH_many (f_LH_many s (0 : Int32) x2).2 (1 : Int32) x2).1 (0 : Int32) (0 : Int32)).2 ((f_CB_target (f_CB_answer (f_LH_many (f_LH_many s (0 : Int32) x2).2 (1 : Int32) x2).2 x2 (f_LH_low (f_LH_many (f_LH_many s (0 : Int32) x2).2 (1 : Int32) x2).2 x3 (f_LH_many s (0 : Int32) x2).1) (f_LH_low (f_LH_many (f_LH_many s (0 : Int32) x2).2 (1 : Int32) x2).2 (x3 >>> ((4 : Int32) &&& 31)) (f_LH_many (f_LH_many s (0 : Int32) x2).2 (1 : Int32) x2).1)).2.2 x2 (f_LH_low (f_LH_many (f_LH_many s (0 : Int32) x2).2 (1 : Int32) x2).2 x3 (f_LH_many s (0 : Int32) x2).1) (f_LH_low (f_LH_many (f_LH_many s (0 : Int32) x2).2 (1 : Int32) x2).2 (x3 >>> ((4 : Int32) &&& 31)) (f_LH_many (f_LH_many s (0 : Int32) x2).2 (1 : Int32) x2).1)).2.1 / (1000 : Int32)) (((f_CB_target (f_CB_answer (f_LH_many (f_LH_many s (0 : Int32) x2).2 (1 : Int32) x2).2 x2 (f_LH_low (f_LH_many (f_LH_many s (0 : Int32) x2).2 (1 : Int32) x2).2 x3 (f_LH_many s (0 : Int32) x2).1) (f_LH_low (f_LH_many (f_LH_many s (0 : Int32) x2).2 (1 : Int32) x2).2 (x3 >>> ((4 : Int32) &&& 31)) (f_LH_many (f_LH_many s (0 : Int32) x2).2 (1 : Int32) x2).1)).2.2 x2 (f_LH_low (f_LH_many (f_LH_many s (0 : Int32) x2).2 (1 : Int32) x2).2 x3 (f_LH_many s (0 : Int32) x2).1) (f_LH_low (f_LH_many (f_LH_many s (0 : Int32) x2).2 (1 : Int32) x2).2 (x3 >>> ((4 : Int32) &&& 31)) (f_LH_many (f_LH_many s (0 : Int32) x2).2 (1 : Int32) x2).1)).2.1 / (10 : Int32)) - ((f_CB_target (f_CB_answer (f_LH_many (f_LH_many s (0 : Int32) x2).2 (1 : Int32) x2).2 x2 (f_LH_low (f_LH_many (f_LH_many s (0 : Int32) x2).2 (1 : Int32) x2).2 x3 (f_LH_many s (0 : Int32) x2).1) (f_LH_low (f_LH_many (f_LH_many s (0 : Int32) x2).2 (1 : Int32) x2).2 (x3 >>> ((4 : Int32) &&& 31)) (f_LH_many (f_LH_many s (0 : Int32) x2).2 (1 : Int32) x2).1)).2.2 x2 (f_LH_low (f_LH_many (f_LH_many s (0 : Int32) x2).2 (1 : Int32) x2).2 x3 (f_LH_many s (0 : Int32) x2).1) (f_LH_low (f_LH_many (f_LH_many s (0 : Int32) x2).2 (1 : Int32) x2).2 (x3 >>> ((4 : Int32) &&& 31)) (f_LH_many (f_LH_many s (0 : Int32) x2).2 (1 : Int32) x2).1)).2.1 / (10 : Int32)) / (100 : Int32) * (100 : Int32)) ((f_CB_target (f_CB_answer (f_LH_many (f_LH_many s (0 : Int32) x2).2 (1 : Int32) x2).2 x2 (f_LH_low (f_LH_many (f_LH_many s (0 : Int32) x2).2 (1 : Int32) x2).2 x3 (f_LH_many s (0 : Int32) x2).1) (f_LH_low (f_LH_many (f_LH_many s (0 : Int32) x2).2 (1 : Int32) x2).2 (x3 >>> ((4 : Int32) &&& 31)) (f_LH_many (f_LH_many s (0 : Int32) x2).2 (1 : Int32) x2).1)).2.2 x2 (f_LH_low (f_LH_many (f_LH_many s (0 : Int32) x2).2 (1 : Int32) x2).2 x3 (f_LH_many s (0 : Int32) x2).1) (f_LH_low (f_LH_many (f_LH_many s (0 : Int32) x2).2 (1 : Int32) x2).2 (x3 >>> ((4 : Int32) &&& 31)) (f_LH_many (f_LH_many s (0 : Int32) x2).2 (1 : Int32) x2).1)).2.1 - (f_CB_target (f_CB_answer (f_LH_many (f_LH_many s (0 : Int32) x2).2 (1 : Int32) x2).2 x2 (f_LH_low (f_LH_many (f_LH_many s (0 : Int32) x2).2 (1 : Int32) x2).2 x3 (f_LH_many s (0 : Int32) x2).1) (f_LH_low (f_LH_many (f_LH_many s (0 : Int32) x2).2 (1 : Int32) x2).2 (x3 >>> ((4 : Int32) &&& 31)) (f_LH_many (f_LH_many s (0 : Int32) x2).2 (1 : Int32) x2).1)).2.2 x2 (f_LH_low (f_LH_many (f_LH_many s (0 : Int32) x2).2 (1 : Int32) x2).2 x3 (f_LH_many s (0 : Int32) x2).1) (f_LH_low (f_LH_many (f_LH_many s (0 : Int32) x2).2 (1 : Int32) x2).2 (x3 >>> ((4 : Int32) &&& 31)) (f_LH_many (f_LH_many s (0 : Int32) x2).2 (1 : Int32) x2).1)).2.1 / (10 : Int32) * (10 : Int32))).2.2 t x2 x3 (f_LH_many s (0 : Int32) x2).1 (f_LH_many (f_LH_many s (0 : Int32) x2).2 (1 : Int32) x2).1 (f_LH_low (f_LH_many (f_LH_many s (0 : Int32) x2).2 (1 : Int32) x2).2 x3 (f_LH_many s (0 : Int32) x2).1) (f_LH_low (f_LH_many (f_LH_many s (0 : Int32) x2).2 (1 : Int32) x2).2 (x3 >>> ((4 : Int32) &&& 31)) (f_LH_many (f_LH_many s (0 : Int32) x2).2 (1 : Int32) x2).1) (f_CB_answer (f_LH_many (f_LH_many s (0 : Int32) x2).2 (1 : Int32) x2).2 x2 (f_LH_low (f_LH_many (f_LH_many s (0 : Int32) x2).2 (1 : Int32) x2).2 x3 (f_LH_many s (0 : Int32) x2).1) (f_LH_low (f_LH_many (f_LH_many s (0 : Int32) x2).2 (1 : Int32) x2).2 (x3 >>> ((4 : Int32) &&& 31)) (f_LH_many (f_LH_many s (0 : Int32) x2).2 (1 : Int32) x2).1)).2.1 (f_CB_target (f_CB_answer (f_LH_many (f_LH_many s (0 : Int32) x2).2 (1 : Int32) x2).2 x2 (f_LH_low (f_LH_many (f_LH_many s (0 : Int32) x2).2 (1 : Int32) x2).2 x3 (f_LH_many s (0 : Int32) x2).1) (f_LH_low (f_LH_many (f_LH_many s (0 : Int32) x2).2 (1 : Int32) x2).2 (x3 >>> ((4 : Int32) &&& 31)) (f_LH_many (f_LH_many s (0 : Int32) x2).2 (1 : Int32) x2).1)).2.2 x2 (f_LH_low (f_LH_many (f_LH_many s (0 : Int32) x2).2 (1 : Int32) x2).2 x3 (f_LH_many s (0 : Int32) x2).1) (f_LH_low (f_LH_many (f_LH_many s (0 : Int32) x2).2 (1 : Int32) x2).2 (x3 >>> ((4 : Int32) &&& 31)) (f_LH_many (f_LH_many s (0 : Int32) x2).2 (1 : Int32) x2).1)).2.1)))))) ∧ (¬ ((f_LH_asks (f_LH_asks (f_CB_target (f_CB_answer (f_LH_many (f_LH_many s (0 : Int32) x2).2 (1 : Int32) x2).2 x2 (f_LH_low (f_LH_many (f_LH_many s (0 : Int32) x2).2 (1 : Int32) x2).2 x3 (f_LH_many s (0 : Int32) x2).1) (f_LH_low (f_LH_many (f_LH_many s (0 : Int32) x2).2 (1 : Int32) x2).2 (x3 >>> ((4 : Int32) &&& 31)) (f_LH_many (f_LH_many s (0 : Int32) x2).2 (1 : Int32) x2).1)).2.2 x2 (f_LH_low (f_LH_many (f_LH_many s (0 : Int32) x2).2 (1 : Int32) x2).2 x3 (f_LH_many s (0 : Int32) x2).1) (f_LH_low (f_LH_many (f_LH_many s (0 : Int32) x2).2 (1 : Int32) x2).2 (x3 >>> ((4 : Int32) &&& 31)) (f_LH_many (f_LH_many s (0 : Int32) x2).2 (1 : Int32) x2).1)).2.2 (4 : Int32) x2 (f_LH_many s (0 : Int32) x2).1 (0 : Int32) (0 : Int32) (0 : Int32)).2 (4 : Int32) x2 (0 : Int32) (f_LH_many (f_LH_many s (0 : Int32) x2).2 (1 : Int32) x2).1 (0 : Int32) (0 : Int32)).1 = (-9999999 : Int32)) → (p_LH_isAnswerSo_167 (f_LH_asks (f_LH_asks (f_CB_target (f_CB_answer (f_LH_many (f_LH_many s (0 : Int32) x2).2 (1 : Int32) x2).2 x2 (f_LH_low (f_LH_many (f_LH_many s (0 : Int32) x2).2 (1 : Int32) x2).2 x3 (f_LH_many s (0 : Int32) x2).1) (f_LH_low (f_LH_many (f_LH_many s (0 : Int32) x2).2 (1 : Int32) x2).2 (x3 >>> ((4 : Int32) &&& 31)) (f_LH_many (f_LH_many s (0 : Int32) x2).2 (1 : Int32) x2).1)).2.2 x2 (f_LH_low (f_LH_many (f_LH_many s (0 : Int32) x2).2 (1 : Int32) x2).2 x3 (f_LH_many s (0 : Int32) x2).1) (f_LH_low (f_LH_many (f_LH_many s (0 : Int32) x2).2 (1 : Int32) x2).2 (x3 >>> ((4 : Int32) &&& 31)) (f_LH_many (f_LH_many s (0 : Int32) x2).2 (1 : Int32) x2).1)).2.2 (4 : Int32) x2 (f_LH_many s (0 : Int32) x2).1 (0 : Int32) (0 : Int32) (0 : Int32)).2 (4 : Int32) x2 (0 : Int32) (f_LH_many (f_LH_many s (0 : Int32) x2).2 (1 : Int32) x2).1 (0 : Int32) (0 : Int32)).2 t x2 x3 (f_LH_many s (0 : Int32) x2).1 (f_LH_many (f_LH_many s (0 : Int32) x2).2 (1 : Int32) x2).1 (f_LH_low (f_LH_many (f_LH_many s (0 : Int32) x2).2 (1 : Int32) x2).2 x3 (f_LH_many s (0 : Int32) x2).1) (f_LH_low (f_LH_many (f_LH_many s (0 : Int32) x2).2 (1 : Int32) x2).2 (x3 >>> ((4 : Int32) &&& 31)) (f_LH_many (f_LH_many s (0 : Int32) x2).2 (1 : Int32) x2).1) (f_CB_answer (f_LH_many (f_LH_many s (0 : Int32) x2).2 (1 : Int32) x2).2 x2 (f_LH_low (f_LH_many (f_LH_many s (0 : Int32) x2).2 (1 : Int32) x2).2 x3 (f_LH_many s (0 : Int32) x2).1) (f_LH_low (f_LH_many (f_LH_many s (0 : Int32) x2).2 (1 : Int32) x2).2 (x3 >>> ((4 : Int32) &&& 31)) (f_LH_many (f_LH_many s (0 : Int32) x2).2 (1 : Int32) x2).1)).2.1 (f_CB_target (f_CB_answer (f_LH_many (f_LH_many s (0 : Int32) x2).2 (1 : Int32) x2).2 x2 (f_LH_low (f_LH_many (f_LH_many s (0 : Int32) x2).2 (1 : Int32) x2).2 x3 (f_LH_many s (0 : Int32) x2).1) (f_LH_low (f_LH_many (f_LH_many s (0 : Int32) x2).2 (1 : Int32) x2).2 (x3 >>> ((4 : Int32) &&& 31)) (f_LH_many (f_LH_many s (0 : Int32) x2).2 (1 : Int32) x2).1)).2.2 x2 (f_LH_low (f_LH_many (f_LH_many s (0 : Int32) x2).2 (1 : Int32) x2).2 x3 (f_LH_many s (0 : Int32) x2).1) (f_LH_low (f_LH_many (f_LH_many s (0 : Int32) x2).2 (1 : Int32) x2).2 (x3 >>> ((4 : Int32) &&& 31)) (f_LH_many (f_LH_many s (0 : Int32) x2).2 (1 : Int32) x2).1)).2.1)))) ∧ (¬ ((f_LH_asks (f_CB_target (f_CB_answer (f_LH_many (f_LH_many s (0 : Int32) x2).2 (1 : Int32) x2).2 x2 (f_LH_low (f_LH_many (f_LH_many s (0 : Int32) x2).2 (1 : Int32) x2).2 x3 (f_LH_many s (0 : Int32) x2).1) (f_LH_low (f_LH_many (f_LH_many s (0 : Int32) x2).2 (1 : Int32) x2).2 (x3 >>> ((4 : Int32) &&& 31)) (f_LH_many (f_LH_many s (0 : Int32) x2).2 (1 : Int32) x2).1)).2.2 x2 (f_LH_low (f_LH_many (f_LH_many s (0 : Int32) x2).2 (1 : Int32) x2).2 x3 (f_LH_many s (0 : Int32) x2).1) (f_LH_low (f_LH_many (f_LH_many s (0 : Int32) x2).2 (1 : Int32) x2).2 (x3 >>> ((4 : Int32) &&& 31)) (f_LH_many (f_LH_many s (0 : Int32) x2).2 (1 : Int32) x2).1)).2.2 (4 : Int32) x2 (f_LH_many s (0 : Int32) x2).1 (0 : Int32) (0 : Int32) (0 : Int32)).1 = (-9999999 : Int32)) → (p_LH_isAnswerSo_167 (f_LH_asks (f_CB_target (f_CB_answer (f_LH_many (f_LH_many s (0 : Int32) x2).2 (1 : Int32) x2).2 x2 (f_LH_low (f_LH_many (f_LH_many s (0 : Int32) x2).2 (1 : Int32) x2).2 x3 (f_LH_many s (0 : Int32) x2).1) (f_LH_low (f_LH_many (f_LH_many s (0 : Int32) x2).2 (1 : Int32) x2).2 (x3 >>> ((4 : Int32) &&& 31)) (f_LH_many (f_LH_many s (0 : Int32) x2).2 (1 : Int32) x2).1)).2.2 x2 (f_LH_low (f_LH_many (f_LH_many s (0 : Int32) x2).2 (1 : Int32) x2).2 x3 (f_LH_many s (0 : Int32) x2).1) (f_LH_low (f_LH_many (f_LH_many s (0 : Int32) x2).2 (1 : Int32) x2).2 (x3 >>> ((4 : Int32) &&& 31)) (f_LH_many (f_LH_many s (0 : Int32) x2).2 (1 : Int32) x2).1)).2.2 (4 : Int32) x2 (f_LH_many s (0 : Int32) x2).1 (0 : Int32) (0 : Int32) (0 : Int32)).2 t x2 x3 (f_LH_many s (0 : Int32) x2).1 (f_LH_many (f_LH_many s (0 : Int32) x2).2 (1 : Int32) x2).1 (f_LH_low (f_LH_many (f_LH_many s (0 : Int32) x2).2 (1 : Int32) x2).2 x3 (f_LH_many s (0 : Int32) x2).1) (f_LH_low (f_LH_many (f_LH_many s (0 : Int32) x2).2 (1 : Int32) x2).2 (x3 >>> ((4 : Int32) &&& 31)) (f_LH_many (f_LH_many s (0 : Int32) x2).2 (1 : Int32) x2).1) (f_CB_answer (f_LH_many (f_LH_many s (0 : Int32) x2).2 (1 : Int32) x2).2 x2 (f_LH_low (f_LH_many (f_LH_many s (0 : Int32) x2).2 (1 : Int32) x2).2 x3 (f_LH_many s (0 : Int32) x2).1) (f_LH_low (f_LH_many (f_LH_many s (0 : Int32) x2).2 (1 : Int32) x2).2 (x3 >>> ((4 : Int32) &&& 31)) (f_LH_many (f_LH_many s (0 : Int32) x2).2 (1 : Int32) x2).1)).2.1 (f_CB_target (f_CB_answer (f_LH_many (f_LH_many s (0 : Int32) x2).2 (1 : Int32) x2).2 x2 (f_LH_low (f_LH_many (f_LH_many s (0 : Int32) x2).2 (1 : Int32) x2).2 x3 (f_LH_many s (0 : Int32) x2).1) (f_LH_low (f_LH_many (f_LH_many s (0 : Int32) x2).2 (1 : Int32) x2).2 (x3 >>> ((4 : Int32) &&& 31)) (f_LH_many (f_LH_many s (0 : Int32) x2).2 (1 : Int32) x2).1)).2.2 x2 (f_LH_low (f_LH_many (f_LH_many s (0 : Int32) x2).2 (1 : Int32) x2).2 x3 (f_LH_many s (0 : Int32) x2).1) (f_LH_low (f_LH_many (f_LH_many s (0 : Int32) x2).2 (1 : Int32) x2).2 (x3 >>> ((4 : Int32) &&& 31)) (f_LH_many (f_LH_many s (0 : Int32) x2).2 (1 : Int32) x2).1)).2.1))))))))))) ∧ (¬ ((1 : Int32) ≤ (f_LH_many (f_LH_many s (0 : Int32) x2).2 (1 : Int32) x2).1) → (p_LH_isAnswerSo_28 (f_LH_many (f_LH_many s (0 : Int32) x2).2 (1 : Int32) x2).2 t x2 x3 (f_LH_many s (0 : Int32) x2).1 (f_LH_many (f_LH_many s (0 : Int32) x2).2 (1 : Int32) x2).1)))))
set_option maxRecDepth 8000 in
theorem w_LH_isAnswerSo {l : Launch} {g : am_Gl} (hg : g.2.2.2.1 = true) {ad0 : Nat → Nat} {s : am_M} {t : am_M} {x2 : Int32} {x3 : Int32} (h : p_LH_isAnswerSo s t x2 x3) : AW l g m_LH_isAnswerSo 414 ad0 (am_oC2 (f_LH_isAnswerSo s t x2 x3)) 0 0 414 (jn s t) 0 [(0, .ref 0), (1, .ref 207), (2, .int x2), (3, .int x3)] [] := by
  refine am_aload_n (j := 0) d_LH_isAnswerSo_0 rfl rfl ?_
  refine am_iconst (v := (0 : Int32)) d_LH_isAnswerSo_1 (by decide) ?_
  refine am_iload_n (j := 2) d_LH_isAnswerSo_2 rfl rfl ?_
  obtain ⟨hc, h⟩ := h
  refine ak9_SX (as := [.ref 0, .int (0 : Int32), .int x2]) (rest := []) d_LH_isAnswerSo_3 cw_LH_isAnswerSo_3 rfl (am_2O hg rfl (fun _ => am_1C (ct_LH_many hg hc))) rfl rfl (Nat.le_of_ble_eq_true rfl) (by show 0 + 1 ≤ 38; omega) (by show 0 + 6 ≤ 228; omega) ?_
  refine am_istore (lv2 := [(4, .int (f_LH_many s (0 : Int32) x2).1), (0, .ref 0), (1, .ref 207), (2, .int x2), (3, .int x3)]) d_LH_isAnswerSo_6 (by decide) rfl ?_
  refine am_aload_n (j := 1) d_LH_isAnswerSo_8 rfl rfl ?_
  refine am_iconst (v := (1 : Int32)) d_LH_isAnswerSo_9 (by decide) ?_
  refine am_iload_n (j := 3) d_LH_isAnswerSo_10 rfl rfl ?_
  obtain ⟨hc, h⟩ := h
  refine ak9_SX (as := [.ref 0, .int (1 : Int32), .int x2]) (rest := []) d_LH_isAnswerSo_11 cw_LH_isAnswerSo_11 rfl (am_2O hg rfl (fun _ => am_1C (ct_LH_many hg hc))) rfl rfl (Nat.le_of_ble_eq_true rfl) (by show 0 + 1 + 1 ≤ 38; omega) (by show 0 + 6 + 6 ≤ 228; omega) ?_
  refine am_istore (lv2 := [(5, .int (f_LH_many (f_LH_many s (0 : Int32) x2).2 (1 : Int32) x2).1), (4, .int (f_LH_many s (0 : Int32) x2).1), (0, .ref 0), (1, .ref 207), (2, .int x2), (3, .int x3)]) d_LH_isAnswerSo_14 (by decide) rfl ?_
  refine am_iload (j := 1) d_LH_isAnswerSo_16 rfl ?_
  refine am_iconst (v := (1 : Int32)) d_LH_isAnswerSo_18 (by decide) ?_
  refine aj_lt (F := am_oC2) (tgt := 28) d_LH_isAnswerSo_19 (by decide) (fun c => ?_) (fun c => ?_)
  · have h := h.1 c
    refine am_sub [2, 3, 4, 5, 1, 0] (lv2 := [(0, .ref 0), (1, .ref 207), (2, .int x2), (3, .int x3), (4, .int (f_LH_many s (0 : Int32) x2).1), (5, .int (f_LH_many (f_LH_many s (0 : Int32) x2).2 (1 : Int32) x2).1)]) rfl ?_
    exact w_LH_isAnswerSo_28 hg  (by show 0 + 1 + 1 ≤ 38; omega) (by show 0 + 6 + 6 ≤ 228; omega) h
  · have h := h.2 c
    refine am_iload (j := 0) d_LH_isAnswerSo_22 rfl ?_
    refine am_iconst (v := (1 : Int32)) d_LH_isAnswerSo_24 (by decide) ?_
    refine aj_ge (F := am_oC2) (tgt := 51) d_LH_isAnswerSo_25 (by decide) (fun c => ?_) (fun c => ?_)
    · have h := h.1 c
      refine am_iload_n (j := 5) d_LH_isAnswerSo_51 rfl rfl ?_
      refine am_iload (j := 1) d_LH_isAnswerSo_52 rfl ?_
      obtain ⟨hc, h⟩ := h
      refine ak9_S (as := [.int x3, .int (f_LH_many s (0 : Int32) x2).1]) (rest := []) d_LH_isAnswerSo_54 cw_LH_isAnswerSo_54 rfl (am_2O hg rfl (fun _ => am_1I (ct_LH_low hg hc))) rfl rfl (Nat.le_of_ble_eq_true rfl) (by show 0 + 1 + 1 + 0 ≤ 38; omega) (by show 0 + 6 + 6 + 0 ≤ 228; omega) ?_
      refine am_istore (lv2 := [(6, .int (f_LH_low (f_LH_many (f_LH_many s (0 : Int32) x2).2 (1 : Int32) x2).2 x3 (f_LH_many s (0 : Int32) x2).1)), (5, .int (f_LH_many (f_LH_many s (0 : Int32) x2).2 (1 : Int32) x2).1), (4, .int (f_LH_many s (0 : Int32) x2).1), (0, .ref 0), (1, .ref 207), (2, .int x2), (3, .int x3)]) d_LH_isAnswerSo_57 (by decide) rfl ?_
      refine am_iload_n (j := 6) d_LH_isAnswerSo_59 rfl rfl ?_
      refine am_iconst (v := (4 : Int32)) d_LH_isAnswerSo_60 (by decide) ?_
      refine am_ishr d_LH_isAnswerSo_61 ?_
      refine am_iload (j := 1) d_LH_isAnswerSo_62 rfl ?_
      obtain ⟨hc, h⟩ := h
      refine ak9_S (as := [.int (x3 >>> ((4 : Int32) &&& 31)), .int (f_LH_many (f_LH_many s (0 : Int32) x2).2 (1 : Int32) x2).1]) (rest := []) d_LH_isAnswerSo_64 cw_LH_isAnswerSo_64 rfl (am_2O hg rfl (fun _ => am_1I (ct_LH_low hg hc))) rfl rfl (Nat.le_of_ble_eq_true rfl) (by show 0 + 1 + 1 + 0 + 0 ≤ 38; omega) (by show 0 + 6 + 6 + 0 + 0 ≤ 228; omega) ?_
      refine am_istore (lv2 := [(7, .int (f_LH_low (f_LH_many (f_LH_many s (0 : Int32) x2).2 (1 : Int32) x2).2 (x3 >>> ((4 : Int32) &&& 31)) (f_LH_many (f_LH_many s (0 : Int32) x2).2 (1 : Int32) x2).1)), (6, .int (f_LH_low (f_LH_many (f_LH_many s (0 : Int32) x2).2 (1 : Int32) x2).2 x3 (f_LH_many s (0 : Int32) x2).1)), (5, .int (f_LH_many (f_LH_many s (0 : Int32) x2).2 (1 : Int32) x2).1), (4, .int (f_LH_many s (0 : Int32) x2).1), (0, .ref 0), (1, .ref 207), (2, .int x2), (3, .int x3)]) d_LH_isAnswerSo_67 (by decide) rfl ?_
      refine am_aload_n (j := 4) d_LH_isAnswerSo_69 rfl rfl ?_
      refine am_iload_n (j := 6) d_LH_isAnswerSo_70 rfl rfl ?_
      refine am_iload (j := 1) d_LH_isAnswerSo_71 rfl ?_
      refine am_iload (j := 0) d_LH_isAnswerSo_73 rfl ?_
      obtain ⟨hc, h⟩ := h
      obtain ⟨h0, h⟩ := h
      refine ak9_VX (as := [.int x2, .int (f_LH_low (f_LH_many (f_LH_many s (0 : Int32) x2).2 (1 : Int32) x2).2 x3 (f_LH_many s (0 : Int32) x2).1), .int (f_LH_low (f_LH_many (f_LH_many s (0 : Int32) x2).2 (1 : Int32) x2).2 (x3 >>> ((4 : Int32) &&& 31)) (f_LH_many (f_LH_many s (0 : Int32) x2).2 (1 : Int32) x2).1)]) (rest := []) d_LH_isAnswerSo_75 cw_LH_isAnswerSo_75 rfl (am_2O hg rfl (fun _ => am_1E h0 (ct_CB_answer hg hc))) rfl rfl rc_1 (Nat.le_of_ble_eq_true rfl) (by show 0 + 1 + 1 + 0 + 0 + 2 ≤ 38; omega) (by show 0 + 6 + 6 + 0 + 0 + 12 ≤ 228; omega) ?_
      refine am_istore (lv2 := [(8, .int (f_CB_answer (f_LH_many (f_LH_many s (0 : Int32) x2).2 (1 : Int32) x2).2 x2 (f_LH_low (f_LH_many (f_LH_many s (0 : Int32) x2).2 (1 : Int32) x2).2 x3 (f_LH_many s (0 : Int32) x2).1) (f_LH_low (f_LH_many (f_LH_many s (0 : Int32) x2).2 (1 : Int32) x2).2 (x3 >>> ((4 : Int32) &&& 31)) (f_LH_many (f_LH_many s (0 : Int32) x2).2 (1 : Int32) x2).1)).2.1), (7, .int (f_LH_low (f_LH_many (f_LH_many s (0 : Int32) x2).2 (1 : Int32) x2).2 (x3 >>> ((4 : Int32) &&& 31)) (f_LH_many (f_LH_many s (0 : Int32) x2).2 (1 : Int32) x2).1)), (6, .int (f_LH_low (f_LH_many (f_LH_many s (0 : Int32) x2).2 (1 : Int32) x2).2 x3 (f_LH_many s (0 : Int32) x2).1)), (5, .int (f_LH_many (f_LH_many s (0 : Int32) x2).2 (1 : Int32) x2).1), (4, .int (f_LH_many s (0 : Int32) x2).1), (0, .ref 0), (1, .ref 207), (2, .int x2), (3, .int x3)]) d_LH_isAnswerSo_78 (by decide) rfl ?_
      refine am_aload_n (j := 5) d_LH_isAnswerSo_80 rfl rfl ?_
      refine am_iload_n (j := 7) d_LH_isAnswerSo_81 rfl rfl ?_
      refine am_iload (j := 2) d_LH_isAnswerSo_82 rfl ?_
      refine am_iload (j := 1) d_LH_isAnswerSo_84 rfl ?_
      obtain ⟨hc, h⟩ := h
      obtain ⟨h0, h⟩ := h
      refine ak9_VX (as := [.int x2, .int (f_LH_low (f_LH_many (f_LH_many s (0 : Int32) x2).2 (1 : Int32) x2).2 x3 (f_LH_many s (0 : Int32) x2).1), .int (f_LH_low (f_LH_many (f_LH_many s (0 : Int32) x2).2 (1 : Int32) x2).2 (x3 >>> ((4 : Int32) &&& 31)) (f_LH_many (f_LH_many s (0 : Int32) x2).2 (1 : Int32) x2).1)]) (rest := []) d_LH_isAnswerSo_86 cw_LH_isAnswerSo_86 rfl (am_2O hg rfl (fun _ => am_1E h0 (ct_CB_target hg hc))) rfl rfl rc_1 (Nat.le_of_ble_eq_true rfl) (by show 0 + 1 + 1 + 0 + 0 + 2 + 2 ≤ 38; omega) (by show 0 + 6 + 6 + 0 + 0 + 12 + 12 ≤ 228; omega) ?_
      refine am_istore (lv2 := [(9, .int (f_CB_target (f_CB_answer (f_LH_many (f_LH_many s (0 : Int32) x2).2 (1 : Int32) x2).2 x2 (f_LH_low (f_LH_many (f_LH_many s (0 : Int32) x2).2 (1 : Int32) x2).2 x3 (f_LH_many s (0 : Int32) x2).1) (f_LH_low (f_LH_many (f_LH_many s (0 : Int32) x2).2 (1 : Int32) x2).2 (x3 >>> ((4 : Int32) &&& 31)) (f_LH_many (f_LH_many s (0 : Int32) x2).2 (1 : Int32) x2).1)).2.2 x2 (f_LH_low (f_LH_many (f_LH_many s (0 : Int32) x2).2 (1 : Int32) x2).2 x3 (f_LH_many s (0 : Int32) x2).1) (f_LH_low (f_LH_many (f_LH_many s (0 : Int32) x2).2 (1 : Int32) x2).2 (x3 >>> ((4 : Int32) &&& 31)) (f_LH_many (f_LH_many s (0 : Int32) x2).2 (1 : Int32) x2).1)).2.1), (8, .int (f_CB_answer (f_LH_many (f_LH_many s (0 : Int32) x2).2 (1 : Int32) x2).2 x2 (f_LH_low (f_LH_many (f_LH_many s (0 : Int32) x2).2 (1 : Int32) x2).2 x3 (f_LH_many s (0 : Int32) x2).1) (f_LH_low (f_LH_many (f_LH_many s (0 : Int32) x2).2 (1 : Int32) x2).2 (x3 >>> ((4 : Int32) &&& 31)) (f_LH_many (f_LH_many s (0 : Int32) x2).2 (1 : Int32) x2).1)).2.1), (7, .int (f_LH_low (f_LH_many (f_LH_many s (0 : Int32) x2).2 (1 : Int32) x2).2 (x3 >>> ((4 : Int32) &&& 31)) (f_LH_many (f_LH_many s (0 : Int32) x2).2 (1 : Int32) x2).1)), (6, .int (f_LH_low (f_LH_many (f_LH_many s (0 : Int32) x2).2 (1 : Int32) x2).2 x3 (f_LH_many s (0 : Int32) x2).1)), (5, .int (f_LH_many (f_LH_many s (0 : Int32) x2).2 (1 : Int32) x2).1), (4, .int (f_LH_many s (0 : Int32) x2).1), (0, .ref 0), (1, .ref 207), (2, .int x2), (3, .int x3)]) d_LH_isAnswerSo_89 (by decide) rfl ?_
      refine am_iload (j := 5) d_LH_isAnswerSo_91 rfl ?_
      refine am_bipush (v := (30 : Int32)) d_LH_isAnswerSo_93 (by decide) ?_
      refine aj_gt (F := am_oC2) (tgt := 167) d_LH_isAnswerSo_95 (by decide) (fun c => ?_) (fun c => ?_)
      · have h := h.1 c
        refine am_sub [6, 7, 8, 9, 5, 4, 3, 2, 1, 0] (lv2 := [(0, .ref 0), (1, .ref 207), (2, .int x2), (3, .int x3), (4, .int (f_LH_many s (0 : Int32) x2).1), (5, .int (f_LH_many (f_LH_many s (0 : Int32) x2).2 (1 : Int32) x2).1), (6, .int (f_LH_low (f_LH_many (f_LH_many s (0 : Int32) x2).2 (1 : Int32) x2).2 x3 (f_LH_many s (0 : Int32) x2).1)), (7, .int (f_LH_low (f_LH_many (f_LH_many s (0 : Int32) x2).2 (1 : Int32) x2).2 (x3 >>> ((4 : Int32) &&& 31)) (f_LH_many (f_LH_many s (0 : Int32) x2).2 (1 : Int32) x2).1)), (8, .int (f_CB_answer (f_LH_many (f_LH_many s (0 : Int32) x2).2 (1 : Int32) x2).2 x2 (f_LH_low (f_LH_many (f_LH_many s (0 : Int32) x2).2 (1 : Int32) x2).2 x3 (f_LH_many s (0 : Int32) x2).1) (f_LH_low (f_LH_many (f_LH_many s (0 : Int32) x2).2 (1 : Int32) x2).2 (x3 >>> ((4 : Int32) &&& 31)) (f_LH_many (f_LH_many s (0 : Int32) x2).2 (1 : Int32) x2).1)).2.1), (9, .int (f_CB_target (f_CB_answer (f_LH_many (f_LH_many s (0 : Int32) x2).2 (1 : Int32) x2).2 x2 (f_LH_low (f_LH_many (f_LH_many s (0 : Int32) x2).2 (1 : Int32) x2).2 x3 (f_LH_many s (0 : Int32) x2).1) (f_LH_low (f_LH_many (f_LH_many s (0 : Int32) x2).2 (1 : Int32) x2).2 (x3 >>> ((4 : Int32) &&& 31)) (f_LH_many (f_LH_many s (0 : Int32) x2).2 (1 : Int32) x2).1)).2.2 x2 (f_LH_low (f_LH_many (f_LH_many s (0 : Int32) x2).2 (1 : Int32) x2).2 x3 (f_LH_many s (0 : Int32) x2).1) (f_LH_low (f_LH_many (f_LH_many s (0 : Int32) x2).2 (1 : Int32) x2).2 (x3 >>> ((4 : Int32) &&& 31)) (f_LH_many (f_LH_many s (0 : Int32) x2).2 (1 : Int32) x2).1)).2.1)]) rfl ?_
        exact w_LH_isAnswerSo_167 hg  (by show 0 + 1 + 1 + 0 + 0 + 2 + 2 ≤ 22; omega) (by show 0 + 6 + 6 + 0 + 0 + 12 + 12 ≤ 132; omega) h
      · have h := h.2 c
        refine am_aload_n (j := 6) d_LH_isAnswerSo_98 rfl rfl ?_
        refine am_iconst (v := (4 : Int32)) d_LH_isAnswerSo_99 (by decide) ?_
        refine am_iload_n (j := 8) d_LH_isAnswerSo_100 rfl rfl ?_
        refine am_iload (j := 5) d_LH_isAnswerSo_101 rfl ?_
        refine am_iconst (v := (0 : Int32)) d_LH_isAnswerSo_103 (by decide) ?_
        refine am_iconst (v := (0 : Int32)) d_LH_isAnswerSo_104 (by decide) ?_
        refine am_iconst (v := (0 : Int32)) d_LH_isAnswerSo_105 (by decide) ?_
        obtain ⟨hc, h⟩ := h
        refine ak9_SX (as := [.ref 0, .int (4 : Int32), .int x2, .int (f_LH_many s (0 : Int32) x2).1, .int (0 : Int32), .int (0 : Int32), .int (0 : Int32)]) (rest := []) d_LH_isAnswerSo_106 cw_LH_isAnswerSo_106 rfl (am_2O hg rfl (fun _ => am_1C (ct_LH_asks hg hc))) rfl rfl (Nat.le_of_ble_eq_true rfl) (by show 0 + 1 + 1 + 0 + 0 + 2 + 2 + 7 ≤ 38; omega) (by show 0 + 6 + 6 + 0 + 0 + 12 + 12 + 42 ≤ 228; omega) ?_
        refine am_ldc (v := (-9999999 : Int32)) d_LH_isAnswerSo_109 aw_3_220 ?_
        refine aj_ne (F := am_oC2) (tgt := 167) d_LH_isAnswerSo_111 (by decide) (fun c => ?_) (fun c => ?_)
        · have h := h.2 c
          refine am_sub [6, 7, 8, 9, 5, 4, 3, 2, 1, 0] (lv2 := [(0, .ref 0), (1, .ref 207), (2, .int x2), (3, .int x3), (4, .int (f_LH_many s (0 : Int32) x2).1), (5, .int (f_LH_many (f_LH_many s (0 : Int32) x2).2 (1 : Int32) x2).1), (6, .int (f_LH_low (f_LH_many (f_LH_many s (0 : Int32) x2).2 (1 : Int32) x2).2 x3 (f_LH_many s (0 : Int32) x2).1)), (7, .int (f_LH_low (f_LH_many (f_LH_many s (0 : Int32) x2).2 (1 : Int32) x2).2 (x3 >>> ((4 : Int32) &&& 31)) (f_LH_many (f_LH_many s (0 : Int32) x2).2 (1 : Int32) x2).1)), (8, .int (f_CB_answer (f_LH_many (f_LH_many s (0 : Int32) x2).2 (1 : Int32) x2).2 x2 (f_LH_low (f_LH_many (f_LH_many s (0 : Int32) x2).2 (1 : Int32) x2).2 x3 (f_LH_many s (0 : Int32) x2).1) (f_LH_low (f_LH_many (f_LH_many s (0 : Int32) x2).2 (1 : Int32) x2).2 (x3 >>> ((4 : Int32) &&& 31)) (f_LH_many (f_LH_many s (0 : Int32) x2).2 (1 : Int32) x2).1)).2.1), (9, .int (f_CB_target (f_CB_answer (f_LH_many (f_LH_many s (0 : Int32) x2).2 (1 : Int32) x2).2 x2 (f_LH_low (f_LH_many (f_LH_many s (0 : Int32) x2).2 (1 : Int32) x2).2 x3 (f_LH_many s (0 : Int32) x2).1) (f_LH_low (f_LH_many (f_LH_many s (0 : Int32) x2).2 (1 : Int32) x2).2 (x3 >>> ((4 : Int32) &&& 31)) (f_LH_many (f_LH_many s (0 : Int32) x2).2 (1 : Int32) x2).1)).2.2 x2 (f_LH_low (f_LH_many (f_LH_many s (0 : Int32) x2).2 (1 : Int32) x2).2 x3 (f_LH_many s (0 : Int32) x2).1) (f_LH_low (f_LH_many (f_LH_many s (0 : Int32) x2).2 (1 : Int32) x2).2 (x3 >>> ((4 : Int32) &&& 31)) (f_LH_many (f_LH_many s (0 : Int32) x2).2 (1 : Int32) x2).1)).2.1)]) rfl ?_
          exact w_LH_isAnswerSo_167 hg  (by show 0 + 1 + 1 + 0 + 0 + 2 + 2 + 7 ≤ 22; omega) (by show 0 + 6 + 6 + 0 + 0 + 12 + 12 + 42 ≤ 132; omega) h
        · have h := h.1 c
          refine am_aload_n (j := 6) d_LH_isAnswerSo_114 rfl rfl ?_
          refine am_iconst (v := (4 : Int32)) d_LH_isAnswerSo_115 (by decide) ?_
          refine am_iload_n (j := 8) d_LH_isAnswerSo_116 rfl rfl ?_
          refine am_iconst (v := (0 : Int32)) d_LH_isAnswerSo_117 (by decide) ?_
          refine am_iload (j := 4) d_LH_isAnswerSo_118 rfl ?_
          refine am_iconst (v := (0 : Int32)) d_LH_isAnswerSo_120 (by decide) ?_
          refine am_iconst (v := (0 : Int32)) d_LH_isAnswerSo_121 (by decide) ?_
          obtain ⟨hc, h⟩ := h
          refine ak9_SX (as := [.ref 0, .int (4 : Int32), .int x2, .int (0 : Int32), .int (f_LH_many (f_LH_many s (0 : Int32) x2).2 (1 : Int32) x2).1, .int (0 : Int32), .int (0 : Int32)]) (rest := []) d_LH_isAnswerSo_122 cw_LH_isAnswerSo_122 rfl (am_2O hg rfl (fun _ => am_1C (ct_LH_asks hg hc))) rfl rfl (Nat.le_of_ble_eq_true rfl) (by show 0 + 1 + 1 + 0 + 0 + 2 + 2 + 7 + 7 ≤ 38; omega) (by show 0 + 6 + 6 + 0 + 0 + 12 + 12 + 42 + 42 ≤ 228; omega) ?_
          refine am_ldc (v := (-9999999 : Int32)) d_LH_isAnswerSo_125 aw_3_220 ?_
          refine aj_ne (F := am_oC2) (tgt := 167) d_LH_isAnswerSo_127 (by decide) (fun c => ?_) (fun c => ?_)
          · have h := h.2 c
            refine am_sub [6, 7, 8, 9, 5, 4, 3, 2, 1, 0] (lv2 := [(0, .ref 0), (1, .ref 207), (2, .int x2), (3, .int x3), (4, .int (f_LH_many s (0 : Int32) x2).1), (5, .int (f_LH_many (f_LH_many s (0 : Int32) x2).2 (1 : Int32) x2).1), (6, .int (f_LH_low (f_LH_many (f_LH_many s (0 : Int32) x2).2 (1 : Int32) x2).2 x3 (f_LH_many s (0 : Int32) x2).1)), (7, .int (f_LH_low (f_LH_many (f_LH_many s (0 : Int32) x2).2 (1 : Int32) x2).2 (x3 >>> ((4 : Int32) &&& 31)) (f_LH_many (f_LH_many s (0 : Int32) x2).2 (1 : Int32) x2).1)), (8, .int (f_CB_answer (f_LH_many (f_LH_many s (0 : Int32) x2).2 (1 : Int32) x2).2 x2 (f_LH_low (f_LH_many (f_LH_many s (0 : Int32) x2).2 (1 : Int32) x2).2 x3 (f_LH_many s (0 : Int32) x2).1) (f_LH_low (f_LH_many (f_LH_many s (0 : Int32) x2).2 (1 : Int32) x2).2 (x3 >>> ((4 : Int32) &&& 31)) (f_LH_many (f_LH_many s (0 : Int32) x2).2 (1 : Int32) x2).1)).2.1), (9, .int (f_CB_target (f_CB_answer (f_LH_many (f_LH_many s (0 : Int32) x2).2 (1 : Int32) x2).2 x2 (f_LH_low (f_LH_many (f_LH_many s (0 : Int32) x2).2 (1 : Int32) x2).2 x3 (f_LH_many s (0 : Int32) x2).1) (f_LH_low (f_LH_many (f_LH_many s (0 : Int32) x2).2 (1 : Int32) x2).2 (x3 >>> ((4 : Int32) &&& 31)) (f_LH_many (f_LH_many s (0 : Int32) x2).2 (1 : Int32) x2).1)).2.2 x2 (f_LH_low (f_LH_many (f_LH_many s (0 : Int32) x2).2 (1 : Int32) x2).2 x3 (f_LH_many s (0 : Int32) x2).1) (f_LH_low (f_LH_many (f_LH_many s (0 : Int32) x2).2 (1 : Int32) x2).2 (x3 >>> ((4 : Int32) &&& 31)) (f_LH_many (f_LH_many s (0 : Int32) x2).2 (1 : Int32) x2).1)).2.1)]) rfl ?_
            exact w_LH_isAnswerSo_167 hg  (by show 0 + 1 + 1 + 0 + 0 + 2 + 2 + 7 + 7 ≤ 22; omega) (by show 0 + 6 + 6 + 0 + 0 + 12 + 12 + 42 + 42 ≤ 132; omega) h
          · have h := h.1 c
            refine am_iload (j := 0) d_LH_isAnswerSo_130 rfl ?_
            refine ai_lt (F := am_oC2) (tgt := 163) d_LH_isAnswerSo_132 (by decide) (fun c => ?_) (fun c => ?_)
            · have h := h.1 c
              refine am_sub [6, 7, 8, 9, 5, 4, 3, 2, 1, 0] (lv2 := [(0, .ref 0), (1, .ref 207), (2, .int x2), (3, .int x3), (4, .int (f_LH_many s (0 : Int32) x2).1), (5, .int (f_LH_many (f_LH_many s (0 : Int32) x2).2 (1 : Int32) x2).1), (6, .int (f_LH_low (f_LH_many (f_LH_many s (0 : Int32) x2).2 (1 : Int32) x2).2 x3 (f_LH_many s (0 : Int32) x2).1)), (7, .int (f_LH_low (f_LH_many (f_LH_many s (0 : Int32) x2).2 (1 : Int32) x2).2 (x3 >>> ((4 : Int32) &&& 31)) (f_LH_many (f_LH_many s (0 : Int32) x2).2 (1 : Int32) x2).1)), (8, .int (f_CB_answer (f_LH_many (f_LH_many s (0 : Int32) x2).2 (1 : Int32) x2).2 x2 (f_LH_low (f_LH_many (f_LH_many s (0 : Int32) x2).2 (1 : Int32) x2).2 x3 (f_LH_many s (0 : Int32) x2).1) (f_LH_low (f_LH_many (f_LH_many s (0 : Int32) x2).2 (1 : Int32) x2).2 (x3 >>> ((4 : Int32) &&& 31)) (f_LH_many (f_LH_many s (0 : Int32) x2).2 (1 : Int32) x2).1)).2.1), (9, .int (f_CB_target (f_CB_answer (f_LH_many (f_LH_many s (0 : Int32) x2).2 (1 : Int32) x2).2 x2 (f_LH_low (f_LH_many (f_LH_many s (0 : Int32) x2).2 (1 : Int32) x2).2 x3 (f_LH_many s (0 : Int32) x2).1) (f_LH_low (f_LH_many (f_LH_many s (0 : Int32) x2).2 (1 : Int32) x2).2 (x3 >>> ((4 : Int32) &&& 31)) (f_LH_many (f_LH_many s (0 : Int32) x2).2 (1 : Int32) x2).1)).2.2 x2 (f_LH_low (f_LH_many (f_LH_many s (0 : Int32) x2).2 (1 : Int32) x2).2 x3 (f_LH_many s (0 : Int32) x2).1) (f_LH_low (f_LH_many (f_LH_many s (0 : Int32) x2).2 (1 : Int32) x2).2 (x3 >>> ((4 : Int32) &&& 31)) (f_LH_many (f_LH_many s (0 : Int32) x2).2 (1 : Int32) x2).1)).2.1)]) rfl ?_
              exact w_LH_isAnswerSo_163 hg  (by show 0 + 1 + 1 + 0 + 0 + 2 + 2 + 7 + 7 ≤ 22; omega) (by show 0 + 6 + 6 + 0 + 0 + 12 + 12 + 42 + 42 ≤ 132; omega) h
            · have h := h.2 c
              refine am_aload_n (j := 6) d_LH_isAnswerSo_135 rfl rfl ?_
              refine am_iload (j := 0) d_LH_isAnswerSo_136 rfl ?_
              refine am_sipush (v := (1000 : Int32)) d_LH_isAnswerSo_138 (by decide) ?_
              refine am_idiv d_LH_isAnswerSo_141 (by decide) ?_
              refine am_iload (j := 0) d_LH_isAnswerSo_142 rfl ?_
              refine am_bipush (v := (10 : Int32)) d_LH_isAnswerSo_144 (by decide) ?_
              refine am_idiv d_LH_isAnswerSo_146 (by decide) ?_
              refine am_bipush (v := (100 : Int32)) d_LH_isAnswerSo_147 (by decide) ?_
              refine am_irem d_LH_isAnswerSo_149 (by decide) ?_
              refine am_iload (j := 0) d_LH_isAnswerSo_150 rfl ?_
              refine am_bipush (v := (10 : Int32)) d_LH_isAnswerSo_152 (by decide) ?_
              refine am_irem d_LH_isAnswerSo_154 (by decide) ?_
              obtain ⟨hc, h⟩ := h
              obtain ⟨h0, h⟩ := h
              refine ak9_VX (as := [.int ((f_CB_target (f_CB_answer (f_LH_many (f_LH_many s (0 : Int32) x2).2 (1 : Int32) x2).2 x2 (f_LH_low (f_LH_many (f_LH_many s (0 : Int32) x2).2 (1 : Int32) x2).2 x3 (f_LH_many s (0 : Int32) x2).1) (f_LH_low (f_LH_many (f_LH_many s (0 : Int32) x2).2 (1 : Int32) x2).2 (x3 >>> ((4 : Int32) &&& 31)) (f_LH_many (f_LH_many s (0 : Int32) x2).2 (1 : Int32) x2).1)).2.2 x2 (f_LH_low (f_LH_many (f_LH_many s (0 : Int32) x2).2 (1 : Int32) x2).2 x3 (f_LH_many s (0 : Int32) x2).1) (f_LH_low (f_LH_many (f_LH_many s (0 : Int32) x2).2 (1 : Int32) x2).2 (x3 >>> ((4 : Int32) &&& 31)) (f_LH_many (f_LH_many s (0 : Int32) x2).2 (1 : Int32) x2).1)).2.1 / (1000 : Int32)), .int (((f_CB_target (f_CB_answer (f_LH_many (f_LH_many s (0 : Int32) x2).2 (1 : Int32) x2).2 x2 (f_LH_low (f_LH_many (f_LH_many s (0 : Int32) x2).2 (1 : Int32) x2).2 x3 (f_LH_many s (0 : Int32) x2).1) (f_LH_low (f_LH_many (f_LH_many s (0 : Int32) x2).2 (1 : Int32) x2).2 (x3 >>> ((4 : Int32) &&& 31)) (f_LH_many (f_LH_many s (0 : Int32) x2).2 (1 : Int32) x2).1)).2.2 x2 (f_LH_low (f_LH_many (f_LH_many s (0 : Int32) x2).2 (1 : Int32) x2).2 x3 (f_LH_many s (0 : Int32) x2).1) (f_LH_low (f_LH_many (f_LH_many s (0 : Int32) x2).2 (1 : Int32) x2).2 (x3 >>> ((4 : Int32) &&& 31)) (f_LH_many (f_LH_many s (0 : Int32) x2).2 (1 : Int32) x2).1)).2.1 / (10 : Int32)) - ((f_CB_target (f_CB_answer (f_LH_many (f_LH_many s (0 : Int32) x2).2 (1 : Int32) x2).2 x2 (f_LH_low (f_LH_many (f_LH_many s (0 : Int32) x2).2 (1 : Int32) x2).2 x3 (f_LH_many s (0 : Int32) x2).1) (f_LH_low (f_LH_many (f_LH_many s (0 : Int32) x2).2 (1 : Int32) x2).2 (x3 >>> ((4 : Int32) &&& 31)) (f_LH_many (f_LH_many s (0 : Int32) x2).2 (1 : Int32) x2).1)).2.2 x2 (f_LH_low (f_LH_many (f_LH_many s (0 : Int32) x2).2 (1 : Int32) x2).2 x3 (f_LH_many s (0 : Int32) x2).1) (f_LH_low (f_LH_many (f_LH_many s (0 : Int32) x2).2 (1 : Int32) x2).2 (x3 >>> ((4 : Int32) &&& 31)) (f_LH_many (f_LH_many s (0 : Int32) x2).2 (1 : Int32) x2).1)).2.1 / (10 : Int32)) / (100 : Int32) * (100 : Int32)), .int ((f_CB_target (f_CB_answer (f_LH_many (f_LH_many s (0 : Int32) x2).2 (1 : Int32) x2).2 x2 (f_LH_low (f_LH_many (f_LH_many s (0 : Int32) x2).2 (1 : Int32) x2).2 x3 (f_LH_many s (0 : Int32) x2).1) (f_LH_low (f_LH_many (f_LH_many s (0 : Int32) x2).2 (1 : Int32) x2).2 (x3 >>> ((4 : Int32) &&& 31)) (f_LH_many (f_LH_many s (0 : Int32) x2).2 (1 : Int32) x2).1)).2.2 x2 (f_LH_low (f_LH_many (f_LH_many s (0 : Int32) x2).2 (1 : Int32) x2).2 x3 (f_LH_many s (0 : Int32) x2).1) (f_LH_low (f_LH_many (f_LH_many s (0 : Int32) x2).2 (1 : Int32) x2).2 (x3 >>> ((4 : Int32) &&& 31)) (f_LH_many (f_LH_many s (0 : Int32) x2).2 (1 : Int32) x2).1)).2.1 - (f_CB_target (f_CB_answer (f_LH_many (f_LH_many s (0 : Int32) x2).2 (1 : Int32) x2).2 x2 (f_LH_low (f_LH_many (f_LH_many s (0 : Int32) x2).2 (1 : Int32) x2).2 x3 (f_LH_many s (0 : Int32) x2).1) (f_LH_low (f_LH_many (f_LH_many s (0 : Int32) x2).2 (1 : Int32) x2).2 (x3 >>> ((4 : Int32) &&& 31)) (f_LH_many (f_LH_many s (0 : Int32) x2).2 (1 : Int32) x2).1)).2.2 x2 (f_LH_low (f_LH_many (f_LH_many s (0 : Int32) x2).2 (1 : Int32) x2).2 x3 (f_LH_many s (0 : Int32) x2).1) (f_LH_low (f_LH_many (f_LH_many s (0 : Int32) x2).2 (1 : Int32) x2).2 (x3 >>> ((4 : Int32) &&& 31)) (f_LH_many (f_LH_many s (0 : Int32) x2).2 (1 : Int32) x2).1)).2.1 / (10 : Int32) * (10 : Int32))]) (rest := []) d_LH_isAnswerSo_155 cw_LH_isAnswerSo_155 rfl (am_2O hg rfl (fun _ => am_1E h0 (ct_CB_cell hg hc))) rfl rfl rc_1 (Nat.le_of_ble_eq_true rfl) (by show 0 + 1 + 1 + 0 + 0 + 2 + 2 + 7 + 7 + 2 ≤ 38; omega) (by show 0 + 6 + 6 + 0 + 0 + 12 + 12 + 42 + 42 + 12 ≤ 228; omega) ?_
              refine am_iload (j := 1) d_LH_isAnswerSo_158 rfl ?_
              refine aj_ne (F := am_oC2) (tgt := 167) d_LH_isAnswerSo_160 (by decide) (fun c => ?_) (fun c => ?_)
              · have h := h.2 c
                refine am_sub [6, 7, 8, 9, 5, 4, 3, 2, 1, 0] (lv2 := [(0, .ref 0), (1, .ref 207), (2, .int x2), (3, .int x3), (4, .int (f_LH_many s (0 : Int32) x2).1), (5, .int (f_LH_many (f_LH_many s (0 : Int32) x2).2 (1 : Int32) x2).1), (6, .int (f_LH_low (f_LH_many (f_LH_many s (0 : Int32) x2).2 (1 : Int32) x2).2 x3 (f_LH_many s (0 : Int32) x2).1)), (7, .int (f_LH_low (f_LH_many (f_LH_many s (0 : Int32) x2).2 (1 : Int32) x2).2 (x3 >>> ((4 : Int32) &&& 31)) (f_LH_many (f_LH_many s (0 : Int32) x2).2 (1 : Int32) x2).1)), (8, .int (f_CB_answer (f_LH_many (f_LH_many s (0 : Int32) x2).2 (1 : Int32) x2).2 x2 (f_LH_low (f_LH_many (f_LH_many s (0 : Int32) x2).2 (1 : Int32) x2).2 x3 (f_LH_many s (0 : Int32) x2).1) (f_LH_low (f_LH_many (f_LH_many s (0 : Int32) x2).2 (1 : Int32) x2).2 (x3 >>> ((4 : Int32) &&& 31)) (f_LH_many (f_LH_many s (0 : Int32) x2).2 (1 : Int32) x2).1)).2.1), (9, .int (f_CB_target (f_CB_answer (f_LH_many (f_LH_many s (0 : Int32) x2).2 (1 : Int32) x2).2 x2 (f_LH_low (f_LH_many (f_LH_many s (0 : Int32) x2).2 (1 : Int32) x2).2 x3 (f_LH_many s (0 : Int32) x2).1) (f_LH_low (f_LH_many (f_LH_many s (0 : Int32) x2).2 (1 : Int32) x2).2 (x3 >>> ((4 : Int32) &&& 31)) (f_LH_many (f_LH_many s (0 : Int32) x2).2 (1 : Int32) x2).1)).2.2 x2 (f_LH_low (f_LH_many (f_LH_many s (0 : Int32) x2).2 (1 : Int32) x2).2 x3 (f_LH_many s (0 : Int32) x2).1) (f_LH_low (f_LH_many (f_LH_many s (0 : Int32) x2).2 (1 : Int32) x2).2 (x3 >>> ((4 : Int32) &&& 31)) (f_LH_many (f_LH_many s (0 : Int32) x2).2 (1 : Int32) x2).1)).2.1)]) rfl ?_
                exact w_LH_isAnswerSo_167 hg  (by show 0 + 1 + 1 + 0 + 0 + 2 + 2 + 7 + 7 + 2 ≤ 22; omega) (by show 0 + 6 + 6 + 0 + 0 + 12 + 12 + 42 + 42 + 12 ≤ 132; omega) h
              · have h := h.1 c
                refine am_sub [6, 7, 8, 9, 5, 4, 3, 2, 1, 0] (lv2 := [(0, .ref 0), (1, .ref 207), (2, .int x2), (3, .int x3), (4, .int (f_LH_many s (0 : Int32) x2).1), (5, .int (f_LH_many (f_LH_many s (0 : Int32) x2).2 (1 : Int32) x2).1), (6, .int (f_LH_low (f_LH_many (f_LH_many s (0 : Int32) x2).2 (1 : Int32) x2).2 x3 (f_LH_many s (0 : Int32) x2).1)), (7, .int (f_LH_low (f_LH_many (f_LH_many s (0 : Int32) x2).2 (1 : Int32) x2).2 (x3 >>> ((4 : Int32) &&& 31)) (f_LH_many (f_LH_many s (0 : Int32) x2).2 (1 : Int32) x2).1)), (8, .int (f_CB_answer (f_LH_many (f_LH_many s (0 : Int32) x2).2 (1 : Int32) x2).2 x2 (f_LH_low (f_LH_many (f_LH_many s (0 : Int32) x2).2 (1 : Int32) x2).2 x3 (f_LH_many s (0 : Int32) x2).1) (f_LH_low (f_LH_many (f_LH_many s (0 : Int32) x2).2 (1 : Int32) x2).2 (x3 >>> ((4 : Int32) &&& 31)) (f_LH_many (f_LH_many s (0 : Int32) x2).2 (1 : Int32) x2).1)).2.1), (9, .int (f_CB_target (f_CB_answer (f_LH_many (f_LH_many s (0 : Int32) x2).2 (1 : Int32) x2).2 x2 (f_LH_low (f_LH_many (f_LH_many s (0 : Int32) x2).2 (1 : Int32) x2).2 x3 (f_LH_many s (0 : Int32) x2).1) (f_LH_low (f_LH_many (f_LH_many s (0 : Int32) x2).2 (1 : Int32) x2).2 (x3 >>> ((4 : Int32) &&& 31)) (f_LH_many (f_LH_many s (0 : Int32) x2).2 (1 : Int32) x2).1)).2.2 x2 (f_LH_low (f_LH_many (f_LH_many s (0 : Int32) x2).2 (1 : Int32) x2).2 x3 (f_LH_many s (0 : Int32) x2).1) (f_LH_low (f_LH_many (f_LH_many s (0 : Int32) x2).2 (1 : Int32) x2).2 (x3 >>> ((4 : Int32) &&& 31)) (f_LH_many (f_LH_many s (0 : Int32) x2).2 (1 : Int32) x2).1)).2.1)]) rfl ?_
                exact w_LH_isAnswerSo_163 hg  (by show 0 + 1 + 1 + 0 + 0 + 2 + 2 + 7 + 7 + 2 ≤ 22; omega) (by show 0 + 6 + 6 + 0 + 0 + 12 + 12 + 42 + 42 + 12 ≤ 132; omega) h
    · have h := h.2 c
      refine am_sub [2, 3, 4, 5, 1, 0] (lv2 := [(0, .ref 0), (1, .ref 207), (2, .int x2), (3, .int x3), (4, .int (f_LH_many s (0 : Int32) x2).1), (5, .int (f_LH_many (f_LH_many s (0 : Int32) x2).2 (1 : Int32) x2).1)]) rfl ?_
      exact w_LH_isAnswerSo_28 hg  (by show 0 + 1 + 1 ≤ 38; omega) (by show 0 + 6 + 6 ≤ 228; omega) h
theorem ct_LH_isAnswerSo {l : Launch} {g : am_Gl} (hg : g.2.2.2.1 = true) {s : am_M} {t : am_M} {x2 : Int32} {x3 : Int32} (h : p_LH_isAnswerSo s t x2 x3) : AC l g m_LH_isAnswerSo 414 (jn s t) [.ref 0, .ref 207, .int x2, .int x3] (am_oC2 (f_LH_isAnswerSo s t x2 x3)) := am_enter ok_LH_isAnswerSo rfl (Nat.le_of_ble_eq_true rfl) rfl (fun ad0 => w_LH_isAnswerSo hg h)
theorem cw_LH_isChoiceSo_1 : am_cv m_LH_isChoiceSo m_CB_reason 181 0 := ⟨⟨ok_CB_reason, rfl, by decide +kernel, by decide, by decide⟩, aw_5_83, aw_5_84, aw_5_85⟩
theorem cw_LH_isChoiceSo_16 : am_sh9 m_LH_isChoiceSo m_LH_sets 163 8 := ⟨ok_LH_sets, ⟨_, rfl⟩, by decide +kernel, by decide, by decide, aw_3_221, aw_3_222⟩
theorem cw_LH_isChoiceSo_31 : am_sh9 m_LH_isChoiceSo m_LH_sets 163 8 := ⟨ok_LH_sets, ⟨_, rfl⟩, by decide +kernel, by decide, by decide, aw_3_221, aw_3_222⟩
theorem cw_LH_isChoiceSo_40 : am_cv m_LH_isChoiceSo m_CB_reason 181 0 := ⟨⟨ok_CB_reason, rfl, by decide +kernel, by decide, by decide⟩, aw_5_83, aw_5_84, aw_5_85⟩
theorem cw_LH_isChoiceSo_86 : am_sh9 m_LH_isChoiceSo m_LH_sets 163 8 := ⟨ok_LH_sets, ⟨_, rfl⟩, by decide +kernel, by decide, by decide, aw_3_221, aw_3_222⟩
theorem cw_LH_isChoiceSo_105 : am_sh9 m_LH_isChoiceSo m_LH_sets 163 8 := ⟨ok_LH_sets, ⟨_, rfl⟩, by decide +kernel, by decide, by decide, aw_3_221, aw_3_222⟩
theorem cw_LH_isChoiceSo_134 : am_sh9 m_LH_isChoiceSo m_LH_sets 163 8 := ⟨ok_LH_sets, ⟨_, rfl⟩, by decide +kernel, by decide, by decide, aw_3_221, aw_3_222⟩
theorem cw_LH_isChoiceSo_152 : am_sh9 m_LH_isChoiceSo m_LH_sets 163 8 := ⟨ok_LH_sets, ⟨_, rfl⟩, by decide +kernel, by decide, by decide, aw_3_221, aw_3_222⟩
theorem cw_LH_isChoiceSo_164 : am_cv m_LH_isChoiceSo m_CB_cell 101 3 := ⟨⟨ok_CB_cell, rfl, by decide +kernel, by decide, by decide⟩, aw_4_144, aw_4_145, aw_4_146⟩
def f_LH_isChoiceSo_116  (s : am_M) (t : am_M) (x2 : Int32) (x3 : Int32) (x4 : Int32) (x5 : Int32) (x6 : Int32) (x7 : Int32) (y0 : Int32) : Int32 × am_M × am_M := (if y0 = 0 then ((0 : Int32), s, t) else (if (f_LH_sets s (8 : Int32) x2 x3 x4 x6 (0 : Int32) (0 : Int32)).1 = (1 : Int32) then (if (f_LH_sets t (8 : Int32) x2 x3 x4 x6 (0 : Int32) (0 : Int32)).1 = (1 : Int32) then (if (f_CB_cell (f_LH_sets s (8 : Int32) x2 x3 x4 x6 (0 : Int32) (0 : Int32)).2 x2 x3 x4).2.1 = x6 then ((1 : Int32), (f_CB_cell (f_LH_sets s (8 : Int32) x2 x3 x4 x6 (0 : Int32) (0 : Int32)).2 x2 x3 x4).2.2, (f_LH_sets t (8 : Int32) x2 x3 x4 x6 (0 : Int32) (0 : Int32)).2) else ((0 : Int32), (f_CB_cell (f_LH_sets s (8 : Int32) x2 x3 x4 x6 (0 : Int32) (0 : Int32)).2 x2 x3 x4).2.2, (f_LH_sets t (8 : Int32) x2 x3 x4 x6 (0 : Int32) (0 : Int32)).2)) else ((0 : Int32), (f_LH_sets s (8 : Int32) x2 x3 x4 x6 (0 : Int32) (0 : Int32)).2, (f_LH_sets t (8 : Int32) x2 x3 x4 x6 (0 : Int32) (0 : Int32)).2)) else ((0 : Int32), (f_LH_sets s (8 : Int32) x2 x3 x4 x6 (0 : Int32) (0 : Int32)).2, t)))
def p_LH_isChoiceSo_116  (s : am_M) (t : am_M) (x2 : Int32) (x3 : Int32) (x4 : Int32) (x5 : Int32) (x6 : Int32) (x7 : Int32) (y0 : Int32) : Prop := ((y0 = 0) → True) ∧ (¬ (y0 = 0) → p_LH_sets s (8 : Int32) x2 x3 x4 x6 (0 : Int32) (0 : Int32) ∧ ((((f_LH_sets s (8 : Int32) x2 x3 x4 x6 (0 : Int32) (0 : Int32)).1 = (1 : Int32)) → p_LH_sets t (8 : Int32) x2 x3 x4 x6 (0 : Int32) (0 : Int32) ∧ ((((f_LH_sets t (8 : Int32) x2 x3 x4 x6 (0 : Int32) (0 : Int32)).1 = (1 : Int32)) → p_CB_cell (f_LH_sets s (8 : Int32) x2 x3 x4 x6 (0 : Int32) (0 : Int32)).2 x2 x3 x4 ∧ ((f_CB_cell (f_LH_sets s (8 : Int32) x2 x3 x4 x6 (0 : Int32) (0 : Int32)).2 x2 x3 x4).1 = 0 ∧ ((((f_CB_cell (f_LH_sets s (8 : Int32) x2 x3 x4 x6 (0 : Int32) (0 : Int32)).2 x2 x3 x4).2.1 = x6) → True) ∧ (¬ ((f_CB_cell (f_LH_sets s (8 : Int32) x2 x3 x4 x6 (0 : Int32) (0 : Int32)).2 x2 x3 x4).2.1 = x6) → True)))) ∧ (¬ ((f_LH_sets t (8 : Int32) x2 x3 x4 x6 (0 : Int32) (0 : Int32)).1 = (1 : Int32)) → True))) ∧ (¬ ((f_LH_sets s (8 : Int32) x2 x3 x4 x6 (0 : Int32) (0 : Int32)).1 = (1 : Int32)) → True)))
set_option maxRecDepth 8000 in
theorem w_LH_isChoiceSo_116 {l : Launch} {g : am_Gl} (hg : g.2.2.2.1 = true) {ad0 : Nat → Nat}  {s : am_M} {t : am_M} {x2 : Int32} {x3 : Int32} {x4 : Int32} {x5 : Int32} {x6 : Int32} {x7 : Int32} {y0 : Int32} {k z : Nat} (hk : k ≤ 64) (hz : z ≤ 384) (h : p_LH_isChoiceSo_116  s t x2 x3 x4 x5 x6 x7 y0) : AW l g m_LH_isChoiceSo 414 ad0 (am_oC2 (f_LH_isChoiceSo_116  s t x2 x3 x4 x5 x6 x7 y0)) k z 414 (jn s t) 116 [(0, .ref 0), (1, .ref 207), (2, .int x2), (3, .int x3), (4, .int x4), (5, .int x5), (6, .int x6), (7, .int x7)] [.int y0] := by
  refine am_istore (lv2 := [(7, .int y0), (0, .ref 0), (1, .ref 207), (2, .int x2), (3, .int x3), (4, .int x4), (5, .int x5), (6, .int x6)]) d_LH_isChoiceSo_116 (by decide) rfl ?_
  refine am_iload (j := 0) d_LH_isChoiceSo_118 rfl ?_
  refine ai_eq (F := am_oC2) (tgt := 176) d_LH_isChoiceSo_120 (by decide) (fun c => ?_) (fun c => ?_)
  · have h := h.1 c
    refine am_iconst (v := (0 : Int32)) d_LH_isChoiceSo_176 (by decide) ?_
    exact am_iret d_LH_isChoiceSo_177 rfl (am_bool (Or.inl rfl)).1 (by show k ≤ 98; omega) (by show z ≤ 588; omega) am_oC2_ok
  · have h := h.2 c
    refine am_aload_n (j := 1) d_LH_isChoiceSo_123 rfl rfl ?_
    refine am_bipush (v := (8 : Int32)) d_LH_isChoiceSo_124 (by decide) ?_
    refine am_iload_n (j := 3) d_LH_isChoiceSo_126 rfl rfl ?_
    refine am_iload_n (j := 4) d_LH_isChoiceSo_127 rfl rfl ?_
    refine am_iload (j := 5) d_LH_isChoiceSo_128 rfl ?_
    refine am_iload (j := 7) d_LH_isChoiceSo_130 rfl ?_
    refine am_iconst (v := (0 : Int32)) d_LH_isChoiceSo_132 (by decide) ?_
    refine am_iconst (v := (0 : Int32)) d_LH_isChoiceSo_133 (by decide) ?_
    obtain ⟨hc, h⟩ := h
    refine ak9_SX (as := [.ref 0, .int (8 : Int32), .int x2, .int x3, .int x4, .int x6, .int (0 : Int32), .int (0 : Int32)]) (rest := []) d_LH_isChoiceSo_134 cw_LH_isChoiceSo_134 rfl (am_2O hg rfl (fun _ => am_1C (ct_LH_sets hg hc))) rfl rfl (Nat.le_of_ble_eq_true rfl) (by show k + 16 ≤ 98; omega) (by show z + 96 ≤ 588; omega) ?_
    refine am_iconst (v := (1 : Int32)) d_LH_isChoiceSo_137 (by decide) ?_
    refine aj_ne (F := am_oC2) (tgt := 176) d_LH_isChoiceSo_138 (by decide) (fun c => ?_) (fun c => ?_)
    · have h := h.2 c
      refine am_iconst (v := (0 : Int32)) d_LH_isChoiceSo_176 (by decide) ?_
      exact am_iret d_LH_isChoiceSo_177 rfl (am_bool (Or.inl rfl)).1 (by show k + 16 ≤ 98; omega) (by show z + 96 ≤ 588; omega) am_oC2_ok
    · have h := h.1 c
      refine am_aload_n (j := 2) d_LH_isChoiceSo_141 rfl rfl ?_
      refine am_bipush (v := (8 : Int32)) d_LH_isChoiceSo_142 (by decide) ?_
      refine am_iload_n (j := 3) d_LH_isChoiceSo_144 rfl rfl ?_
      refine am_iload_n (j := 4) d_LH_isChoiceSo_145 rfl rfl ?_
      refine am_iload (j := 5) d_LH_isChoiceSo_146 rfl ?_
      refine am_iload (j := 7) d_LH_isChoiceSo_148 rfl ?_
      refine am_iconst (v := (0 : Int32)) d_LH_isChoiceSo_150 (by decide) ?_
      refine am_iconst (v := (0 : Int32)) d_LH_isChoiceSo_151 (by decide) ?_
      obtain ⟨hc, h⟩ := h
      refine ak9_SX (as := [.ref 207, .int (8 : Int32), .int x2, .int x3, .int x4, .int x6, .int (0 : Int32), .int (0 : Int32)]) (rest := []) d_LH_isChoiceSo_152 cw_LH_isChoiceSo_152 rfl (am_2P (av1 := [.ref 0, .int (8 : Int32), .int x2, .int x3, .int x4, .int x6, .int (0 : Int32), .int (0 : Int32)]) hg rfl (fun _ => rfl) (fun _ => am_1C (ct_LH_sets hg hc))) rfl rfl (Nat.le_of_ble_eq_true rfl) (by show k + 16 + 16 ≤ 98; omega) (by show z + 96 + 96 ≤ 588; omega) ?_
      refine am_iconst (v := (1 : Int32)) d_LH_isChoiceSo_155 (by decide) ?_
      refine aj_ne (F := am_oC2) (tgt := 176) d_LH_isChoiceSo_156 (by decide) (fun c => ?_) (fun c => ?_)
      · have h := h.2 c
        refine am_iconst (v := (0 : Int32)) d_LH_isChoiceSo_176 (by decide) ?_
        exact am_iret d_LH_isChoiceSo_177 rfl (am_bool (Or.inl rfl)).1 (by show k + 16 + 16 ≤ 98; omega) (by show z + 96 + 96 ≤ 588; omega) am_oC2_ok
      · have h := h.1 c
        refine am_aload_n (j := 1) d_LH_isChoiceSo_159 rfl rfl ?_
        refine am_iload_n (j := 3) d_LH_isChoiceSo_160 rfl rfl ?_
        refine am_iload_n (j := 4) d_LH_isChoiceSo_161 rfl rfl ?_
        refine am_iload (j := 5) d_LH_isChoiceSo_162 rfl ?_
        obtain ⟨hc, h⟩ := h
        obtain ⟨h0, h⟩ := h
        refine ak9_VX (as := [.int x2, .int x3, .int x4]) (rest := []) d_LH_isChoiceSo_164 cw_LH_isChoiceSo_164 rfl (am_2O hg rfl (fun _ => am_1E h0 (ct_CB_cell hg hc))) rfl rfl rc_1 (Nat.le_of_ble_eq_true rfl) (by show k + 16 + 16 + 2 ≤ 98; omega) (by show z + 96 + 96 + 12 ≤ 588; omega) ?_
        refine am_iload (j := 7) d_LH_isChoiceSo_167 rfl ?_
        refine aj_ne (F := am_oC2) (tgt := 176) d_LH_isChoiceSo_169 (by decide) (fun c => ?_) (fun c => ?_)
        · have h := h.2 c
          refine am_iconst (v := (0 : Int32)) d_LH_isChoiceSo_176 (by decide) ?_
          exact am_iret d_LH_isChoiceSo_177 rfl (am_bool (Or.inl rfl)).1 (by show k + 16 + 16 + 2 ≤ 98; omega) (by show z + 96 + 96 + 12 ≤ 588; omega) am_oC2_ok
        · have h := h.1 c
          refine am_iconst (v := (1 : Int32)) d_LH_isChoiceSo_172 (by decide) ?_
          refine am_goto (tgt := 177) d_LH_isChoiceSo_173 (by decide) ?_
          exact am_iret d_LH_isChoiceSo_177 rfl (am_bool (Or.inr rfl)).1 (by show k + 16 + 16 + 2 ≤ 98; omega) (by show z + 96 + 96 + 12 ≤ 588; omega) am_oC2_ok
def f_LH_isChoiceSo_111  (s : am_M) (t : am_M) (x2 : Int32) (x3 : Int32) (x4 : Int32) (x5 : Int32) (x6 : Int32) (x7 : Int32) : Int32 × am_M × am_M := (f_LH_isChoiceSo_116 s t x2 x3 x4 x5 x6 x7 (1 : Int32))
def p_LH_isChoiceSo_111  (s : am_M) (t : am_M) (x2 : Int32) (x3 : Int32) (x4 : Int32) (x5 : Int32) (x6 : Int32) (x7 : Int32) : Prop := (p_LH_isChoiceSo_116 s t x2 x3 x4 x5 x6 x7 (1 : Int32))
set_option maxRecDepth 8000 in
theorem w_LH_isChoiceSo_111 {l : Launch} {g : am_Gl} (hg : g.2.2.2.1 = true) {ad0 : Nat → Nat}  {s : am_M} {t : am_M} {x2 : Int32} {x3 : Int32} {x4 : Int32} {x5 : Int32} {x6 : Int32} {x7 : Int32} {k z : Nat} (hk : k ≤ 64) (hz : z ≤ 384) (h : p_LH_isChoiceSo_111  s t x2 x3 x4 x5 x6 x7) : AW l g m_LH_isChoiceSo 414 ad0 (am_oC2 (f_LH_isChoiceSo_111  s t x2 x3 x4 x5 x6 x7)) k z 414 (jn s t) 111 [(0, .ref 0), (1, .ref 207), (2, .int x2), (3, .int x3), (4, .int x4), (5, .int x5), (6, .int x6), (7, .int x7)] [] := by
  refine am_iconst (v := (1 : Int32)) d_LH_isChoiceSo_111 (by decide) ?_
  refine am_goto (tgt := 116) d_LH_isChoiceSo_112 (by decide) ?_
  exact w_LH_isChoiceSo_116 hg  (by show k ≤ 64; omega) (by show z ≤ 384; omega) h
def f_LH_isChoiceSo_115  (s : am_M) (t : am_M) (x2 : Int32) (x3 : Int32) (x4 : Int32) (x5 : Int32) (x6 : Int32) (x7 : Int32) : Int32 × am_M × am_M := (f_LH_isChoiceSo_116 s t x2 x3 x4 x5 x6 x7 (0 : Int32))
def p_LH_isChoiceSo_115  (s : am_M) (t : am_M) (x2 : Int32) (x3 : Int32) (x4 : Int32) (x5 : Int32) (x6 : Int32) (x7 : Int32) : Prop := (p_LH_isChoiceSo_116 s t x2 x3 x4 x5 x6 x7 (0 : Int32))
set_option maxRecDepth 8000 in
theorem w_LH_isChoiceSo_115 {l : Launch} {g : am_Gl} (hg : g.2.2.2.1 = true) {ad0 : Nat → Nat}  {s : am_M} {t : am_M} {x2 : Int32} {x3 : Int32} {x4 : Int32} {x5 : Int32} {x6 : Int32} {x7 : Int32} {k z : Nat} (hk : k ≤ 64) (hz : z ≤ 384) (h : p_LH_isChoiceSo_115  s t x2 x3 x4 x5 x6 x7) : AW l g m_LH_isChoiceSo 414 ad0 (am_oC2 (f_LH_isChoiceSo_115  s t x2 x3 x4 x5 x6 x7)) k z 414 (jn s t) 115 [(0, .ref 0), (1, .ref 207), (2, .int x2), (3, .int x3), (4, .int x4), (5, .int x5), (6, .int x6), (7, .int x7)] [] := by
  refine am_iconst (v := (0 : Int32)) d_LH_isChoiceSo_115 (by decide) ?_
  exact w_LH_isChoiceSo_116 hg  (by show k ≤ 64; omega) (by show z ≤ 384; omega) h
def f_LH_isChoiceSo_53  (s : am_M) (t : am_M) (x2 : Int32) (x3 : Int32) (x4 : Int32) (x5 : Int32) (x6 : Int32) (y0 : Int32) : Int32 × am_M × am_M := (if 0 ≤ x6 then (if y0 = 0 then (f_LH_isChoiceSo_115 s t x2 x3 x4 x5 x6 y0) else (if x6 = 0 then (f_LH_isChoiceSo_111 s t x2 x3 x4 x5 x6 y0) else (if (f_LH_sets s (8 : Int32) x2 x3 x4 (x6 - (1 : Int32)) (0 : Int32) (0 : Int32)).1 = 0 then (if (f_LH_sets t (8 : Int32) x2 x3 x4 (x6 - (1 : Int32)) (0 : Int32) (0 : Int32)).1 = 0 then (f_LH_isChoiceSo_111 (f_LH_sets s (8 : Int32) x2 x3 x4 (x6 - (1 : Int32)) (0 : Int32) (0 : Int32)).2 (f_LH_sets t (8 : Int32) x2 x3 x4 (x6 - (1 : Int32)) (0 : Int32) (0 : Int32)).2 x2 x3 x4 x5 x6 y0) else (f_LH_isChoiceSo_115 (f_LH_sets s (8 : Int32) x2 x3 x4 (x6 - (1 : Int32)) (0 : Int32) (0 : Int32)).2 (f_LH_sets t (8 : Int32) x2 x3 x4 (x6 - (1 : Int32)) (0 : Int32) (0 : Int32)).2 x2 x3 x4 x5 x6 y0)) else (f_LH_isChoiceSo_115 (f_LH_sets s (8 : Int32) x2 x3 x4 (x6 - (1 : Int32)) (0 : Int32) (0 : Int32)).2 t x2 x3 x4 x5 x6 y0)))) else (y0, s, t))
def p_LH_isChoiceSo_53  (s : am_M) (t : am_M) (x2 : Int32) (x3 : Int32) (x4 : Int32) (x5 : Int32) (x6 : Int32) (y0 : Int32) : Prop := ((0 ≤ x6) → ((y0 = 0) → (p_LH_isChoiceSo_115 s t x2 x3 x4 x5 x6 y0)) ∧ (¬ (y0 = 0) → ((x6 = 0) → (p_LH_isChoiceSo_111 s t x2 x3 x4 x5 x6 y0)) ∧ (¬ (x6 = 0) → p_LH_sets s (8 : Int32) x2 x3 x4 (x6 - (1 : Int32)) (0 : Int32) (0 : Int32) ∧ ((((f_LH_sets s (8 : Int32) x2 x3 x4 (x6 - (1 : Int32)) (0 : Int32) (0 : Int32)).1 = 0) → p_LH_sets t (8 : Int32) x2 x3 x4 (x6 - (1 : Int32)) (0 : Int32) (0 : Int32) ∧ ((((f_LH_sets t (8 : Int32) x2 x3 x4 (x6 - (1 : Int32)) (0 : Int32) (0 : Int32)).1 = 0) → (p_LH_isChoiceSo_111 (f_LH_sets s (8 : Int32) x2 x3 x4 (x6 - (1 : Int32)) (0 : Int32) (0 : Int32)).2 (f_LH_sets t (8 : Int32) x2 x3 x4 (x6 - (1 : Int32)) (0 : Int32) (0 : Int32)).2 x2 x3 x4 x5 x6 y0)) ∧ (¬ ((f_LH_sets t (8 : Int32) x2 x3 x4 (x6 - (1 : Int32)) (0 : Int32) (0 : Int32)).1 = 0) → (p_LH_isChoiceSo_115 (f_LH_sets s (8 : Int32) x2 x3 x4 (x6 - (1 : Int32)) (0 : Int32) (0 : Int32)).2 (f_LH_sets t (8 : Int32) x2 x3 x4 (x6 - (1 : Int32)) (0 : Int32) (0 : Int32)).2 x2 x3 x4 x5 x6 y0)))) ∧ (¬ ((f_LH_sets s (8 : Int32) x2 x3 x4 (x6 - (1 : Int32)) (0 : Int32) (0 : Int32)).1 = 0) → (p_LH_isChoiceSo_115 (f_LH_sets s (8 : Int32) x2 x3 x4 (x6 - (1 : Int32)) (0 : Int32) (0 : Int32)).2 t x2 x3 x4 x5 x6 y0)))))) ∧ (¬ (0 ≤ x6) → (y0 = 0 ∨ y0 = 1) ∧ (True))
set_option maxRecDepth 8000 in
theorem w_LH_isChoiceSo_53 {l : Launch} {g : am_Gl} (hg : g.2.2.2.1 = true) {ad0 : Nat → Nat}  {s : am_M} {t : am_M} {x2 : Int32} {x3 : Int32} {x4 : Int32} {x5 : Int32} {x6 : Int32} {y0 : Int32} {k z : Nat} (hk : k ≤ 32) (hz : z ≤ 192) (h : p_LH_isChoiceSo_53  s t x2 x3 x4 x5 x6 y0) : AW l g m_LH_isChoiceSo 414 ad0 (am_oC2 (f_LH_isChoiceSo_53  s t x2 x3 x4 x5 x6 y0)) k z 414 (jn s t) 53 [(0, .ref 0), (1, .ref 207), (2, .int x2), (3, .int x3), (4, .int x4), (5, .int x5), (6, .int x6)] [.int y0] := by
  refine am_istore (lv2 := [(7, .int y0), (0, .ref 0), (1, .ref 207), (2, .int x2), (3, .int x3), (4, .int x4), (5, .int x5), (6, .int x6)]) d_LH_isChoiceSo_53 (by decide) rfl ?_
  refine am_iload (j := 7) d_LH_isChoiceSo_55 rfl ?_
  refine ai_ge (F := am_oC2) (tgt := 63) d_LH_isChoiceSo_57 (by decide) (fun c => ?_) (fun c => ?_)
  · have h := h.1 c
    refine am_iload (j := 0) d_LH_isChoiceSo_63 rfl ?_
    refine ai_eq (F := am_oC2) (tgt := 115) d_LH_isChoiceSo_65 (by decide) (fun c => ?_) (fun c => ?_)
    · have h := h.1 c
      refine am_sub [1, 2, 3, 4, 5, 6, 7, 0] (lv2 := [(0, .ref 0), (1, .ref 207), (2, .int x2), (3, .int x3), (4, .int x4), (5, .int x5), (6, .int x6), (7, .int y0)]) rfl ?_
      exact w_LH_isChoiceSo_115 hg  (by show k ≤ 64; omega) (by show z ≤ 384; omega) h
    · have h := h.2 c
      refine am_iload (j := 7) d_LH_isChoiceSo_68 rfl ?_
      refine ai_eq (F := am_oC2) (tgt := 111) d_LH_isChoiceSo_70 (by decide) (fun c => ?_) (fun c => ?_)
      · have h := h.1 c
        refine am_sub [1, 2, 3, 4, 5, 6, 7, 0] (lv2 := [(0, .ref 0), (1, .ref 207), (2, .int x2), (3, .int x3), (4, .int x4), (5, .int x5), (6, .int x6), (7, .int y0)]) rfl ?_
        exact w_LH_isChoiceSo_111 hg  (by show k ≤ 64; omega) (by show z ≤ 384; omega) h
      · have h := h.2 c
        refine am_aload_n (j := 1) d_LH_isChoiceSo_73 rfl rfl ?_
        refine am_bipush (v := (8 : Int32)) d_LH_isChoiceSo_74 (by decide) ?_
        refine am_iload_n (j := 3) d_LH_isChoiceSo_76 rfl rfl ?_
        refine am_iload_n (j := 4) d_LH_isChoiceSo_77 rfl rfl ?_
        refine am_iload (j := 5) d_LH_isChoiceSo_78 rfl ?_
        refine am_iload (j := 7) d_LH_isChoiceSo_80 rfl ?_
        refine am_iconst (v := (1 : Int32)) d_LH_isChoiceSo_82 (by decide) ?_
        refine am_isub d_LH_isChoiceSo_83 ?_
        refine am_iconst (v := (0 : Int32)) d_LH_isChoiceSo_84 (by decide) ?_
        refine am_iconst (v := (0 : Int32)) d_LH_isChoiceSo_85 (by decide) ?_
        obtain ⟨hc, h⟩ := h
        refine ak9_SX (as := [.ref 0, .int (8 : Int32), .int x2, .int x3, .int x4, .int (x6 - (1 : Int32)), .int (0 : Int32), .int (0 : Int32)]) (rest := []) d_LH_isChoiceSo_86 cw_LH_isChoiceSo_86 rfl (am_2O hg rfl (fun _ => am_1C (ct_LH_sets hg hc))) rfl rfl (Nat.le_of_ble_eq_true rfl) (by show k + 16 ≤ 98; omega) (by show z + 96 ≤ 588; omega) ?_
        refine ai_ne (F := am_oC2) (tgt := 115) d_LH_isChoiceSo_89 (by decide) (fun c => ?_) (fun c => ?_)
        · have h := h.2 c
          refine am_sub [1, 2, 3, 4, 5, 6, 7, 0] (lv2 := [(0, .ref 0), (1, .ref 207), (2, .int x2), (3, .int x3), (4, .int x4), (5, .int x5), (6, .int x6), (7, .int y0)]) rfl ?_
          exact w_LH_isChoiceSo_115 hg  (by show k + 16 ≤ 64; omega) (by show z + 96 ≤ 384; omega) h
        · have h := h.1 c
          refine am_aload_n (j := 2) d_LH_isChoiceSo_92 rfl rfl ?_
          refine am_bipush (v := (8 : Int32)) d_LH_isChoiceSo_93 (by decide) ?_
          refine am_iload_n (j := 3) d_LH_isChoiceSo_95 rfl rfl ?_
          refine am_iload_n (j := 4) d_LH_isChoiceSo_96 rfl rfl ?_
          refine am_iload (j := 5) d_LH_isChoiceSo_97 rfl ?_
          refine am_iload (j := 7) d_LH_isChoiceSo_99 rfl ?_
          refine am_iconst (v := (1 : Int32)) d_LH_isChoiceSo_101 (by decide) ?_
          refine am_isub d_LH_isChoiceSo_102 ?_
          refine am_iconst (v := (0 : Int32)) d_LH_isChoiceSo_103 (by decide) ?_
          refine am_iconst (v := (0 : Int32)) d_LH_isChoiceSo_104 (by decide) ?_
          obtain ⟨hc, h⟩ := h
          refine ak9_SX (as := [.ref 207, .int (8 : Int32), .int x2, .int x3, .int x4, .int (x6 - (1 : Int32)), .int (0 : Int32), .int (0 : Int32)]) (rest := []) d_LH_isChoiceSo_105 cw_LH_isChoiceSo_105 rfl (am_2P (av1 := [.ref 0, .int (8 : Int32), .int x2, .int x3, .int x4, .int (x6 - (1 : Int32)), .int (0 : Int32), .int (0 : Int32)]) hg rfl (fun _ => rfl) (fun _ => am_1C (ct_LH_sets hg hc))) rfl rfl (Nat.le_of_ble_eq_true rfl) (by show k + 16 + 16 ≤ 98; omega) (by show z + 96 + 96 ≤ 588; omega) ?_
          refine ai_ne (F := am_oC2) (tgt := 115) d_LH_isChoiceSo_108 (by decide) (fun c => ?_) (fun c => ?_)
          · have h := h.2 c
            refine am_sub [1, 2, 3, 4, 5, 6, 7, 0] (lv2 := [(0, .ref 0), (1, .ref 207), (2, .int x2), (3, .int x3), (4, .int x4), (5, .int x5), (6, .int x6), (7, .int y0)]) rfl ?_
            exact w_LH_isChoiceSo_115 hg  (by show k + 16 + 16 ≤ 64; omega) (by show z + 96 + 96 ≤ 384; omega) h
          · have h := h.1 c
            refine am_sub [1, 2, 3, 4, 5, 6, 7, 0] (lv2 := [(0, .ref 0), (1, .ref 207), (2, .int x2), (3, .int x3), (4, .int x4), (5, .int x5), (6, .int x6), (7, .int y0)]) rfl ?_
            exact w_LH_isChoiceSo_111 hg  (by show k + 16 + 16 ≤ 64; omega) (by show z + 96 + 96 ≤ 384; omega) h
  · have h := h.2 c
    refine am_iload (j := 0) d_LH_isChoiceSo_60 rfl ?_
    obtain ⟨hz, h⟩ := h
    exact am_iret d_LH_isChoiceSo_62 rfl (am_bool hz).1 (by show k ≤ 98; omega) (by show z ≤ 588; omega) am_oC2_ok
def f_LH_isChoiceSo_52  (s : am_M) (t : am_M) (x2 : Int32) (x3 : Int32) (x4 : Int32) (x5 : Int32) (x6 : Int32) : Int32 × am_M × am_M := (f_LH_isChoiceSo_53 s t x2 x3 x4 x5 x6 (0 : Int32))
def p_LH_isChoiceSo_52  (s : am_M) (t : am_M) (x2 : Int32) (x3 : Int32) (x4 : Int32) (x5 : Int32) (x6 : Int32) : Prop := (p_LH_isChoiceSo_53 s t x2 x3 x4 x5 x6 (0 : Int32))
set_option maxRecDepth 8000 in
theorem w_LH_isChoiceSo_52 {l : Launch} {g : am_Gl} (hg : g.2.2.2.1 = true) {ad0 : Nat → Nat}  {s : am_M} {t : am_M} {x2 : Int32} {x3 : Int32} {x4 : Int32} {x5 : Int32} {x6 : Int32} {k z : Nat} (hk : k ≤ 32) (hz : z ≤ 192) (h : p_LH_isChoiceSo_52  s t x2 x3 x4 x5 x6) : AW l g m_LH_isChoiceSo 414 ad0 (am_oC2 (f_LH_isChoiceSo_52  s t x2 x3 x4 x5 x6)) k z 414 (jn s t) 52 [(0, .ref 0), (1, .ref 207), (2, .int x2), (3, .int x3), (4, .int x4), (5, .int x5), (6, .int x6)] [] := by
  refine am_iconst (v := (0 : Int32)) d_LH_isChoiceSo_52 (by decide) ?_
  exact w_LH_isChoiceSo_53 hg  (by show k ≤ 32; omega) (by show z ≤ 192; omega) h
def f_LH_isChoiceSo (s : am_M) (t : am_M) (x2 : Int32) (x3 : Int32) (x4 : Int32) : Int32 × am_M × am_M := (if (f_LH_sets t (9 : Int32) x2 x3 x4 (0 : Int32) (0 : Int32) (0 : Int32)).1 = (f_LH_sets s (9 : Int32) x2 x3 x4 (0 : Int32) (0 : Int32) (0 : Int32)).1 then (if (f_CB_reason (f_LH_sets s (9 : Int32) x2 x3 x4 (0 : Int32) (0 : Int32) (0 : Int32)).2) = (f_CB_reason s) then (f_LH_isChoiceSo_53 (f_LH_sets s (9 : Int32) x2 x3 x4 (0 : Int32) (0 : Int32) (0 : Int32)).2 (f_LH_sets t (9 : Int32) x2 x3 x4 (0 : Int32) (0 : Int32) (0 : Int32)).2 x2 x3 x4 (f_CB_reason s) (f_LH_sets s (9 : Int32) x2 x3 x4 (0 : Int32) (0 : Int32) (0 : Int32)).1 (1 : Int32)) else (f_LH_isChoiceSo_52 (f_LH_sets s (9 : Int32) x2 x3 x4 (0 : Int32) (0 : Int32) (0 : Int32)).2 (f_LH_sets t (9 : Int32) x2 x3 x4 (0 : Int32) (0 : Int32) (0 : Int32)).2 x2 x3 x4 (f_CB_reason s) (f_LH_sets s (9 : Int32) x2 x3 x4 (0 : Int32) (0 : Int32) (0 : Int32)).1)) else (f_LH_isChoiceSo_52 (f_LH_sets s (9 : Int32) x2 x3 x4 (0 : Int32) (0 : Int32) (0 : Int32)).2 (f_LH_sets t (9 : Int32) x2 x3 x4 (0 : Int32) (0 : Int32) (0 : Int32)).2 x2 x3 x4 (f_CB_reason s) (f_LH_sets s (9 : Int32) x2 x3 x4 (0 : Int32) (0 : Int32) (0 : Int32)).1))
def p_LH_isChoiceSo (s : am_M) (t : am_M) (x2 : Int32) (x3 : Int32) (x4 : Int32) : Prop := p_LH_sets s (9 : Int32) x2 x3 x4 (0 : Int32) (0 : Int32) (0 : Int32) ∧ (p_LH_sets t (9 : Int32) x2 x3 x4 (0 : Int32) (0 : Int32) (0 : Int32) ∧ ((((f_LH_sets t (9 : Int32) x2 x3 x4 (0 : Int32) (0 : Int32) (0 : Int32)).1 = (f_LH_sets s (9 : Int32) x2 x3 x4 (0 : Int32) (0 : Int32) (0 : Int32)).1) → (((f_CB_reason (f_LH_sets s (9 : Int32) x2 x3 x4 (0 : Int32) (0 : Int32) (0 : Int32)).2) = (f_CB_reason s)) → (p_LH_isChoiceSo_53 (f_LH_sets s (9 : Int32) x2 x3 x4 (0 : Int32) (0 : Int32) (0 : Int32)).2 (f_LH_sets t (9 : Int32) x2 x3 x4 (0 : Int32) (0 : Int32) (0 : Int32)).2 x2 x3 x4 (f_CB_reason s) (f_LH_sets s (9 : Int32) x2 x3 x4 (0 : Int32) (0 : Int32) (0 : Int32)).1 (1 : Int32))) ∧ (¬ ((f_CB_reason (f_LH_sets s (9 : Int32) x2 x3 x4 (0 : Int32) (0 : Int32) (0 : Int32)).2) = (f_CB_reason s)) → (p_LH_isChoiceSo_52 (f_LH_sets s (9 : Int32) x2 x3 x4 (0 : Int32) (0 : Int32) (0 : Int32)).2 (f_LH_sets t (9 : Int32) x2 x3 x4 (0 : Int32) (0 : Int32) (0 : Int32)).2 x2 x3 x4 (f_CB_reason s) (f_LH_sets s (9 : Int32) x2 x3 x4 (0 : Int32) (0 : Int32) (0 : Int32)).1))) ∧ (¬ ((f_LH_sets t (9 : Int32) x2 x3 x4 (0 : Int32) (0 : Int32) (0 : Int32)).1 = (f_LH_sets s (9 : Int32) x2 x3 x4 (0 : Int32) (0 : Int32) (0 : Int32)).1) → (p_LH_isChoiceSo_52 (f_LH_sets s (9 : Int32) x2 x3 x4 (0 : Int32) (0 : Int32) (0 : Int32)).2 (f_LH_sets t (9 : Int32) x2 x3 x4 (0 : Int32) (0 : Int32) (0 : Int32)).2 x2 x3 x4 (f_CB_reason s) (f_LH_sets s (9 : Int32) x2 x3 x4 (0 : Int32) (0 : Int32) (0 : Int32)).1))))
set_option maxRecDepth 8000 in
theorem w_LH_isChoiceSo {l : Launch} {g : am_Gl} (hg : g.2.2.2.1 = true) {ad0 : Nat → Nat} {s : am_M} {t : am_M} {x2 : Int32} {x3 : Int32} {x4 : Int32} (h : p_LH_isChoiceSo s t x2 x3 x4) : AW l g m_LH_isChoiceSo 414 ad0 (am_oC2 (f_LH_isChoiceSo s t x2 x3 x4)) 0 0 414 (jn s t) 0 [(0, .ref 0), (1, .ref 207), (2, .int x2), (3, .int x3), (4, .int x4)] [] := by
  refine am_aload_n (j := 0) d_LH_isChoiceSo_0 rfl rfl ?_
  refine ak9_V (as := []) (rest := []) d_LH_isChoiceSo_1 cw_LH_isChoiceSo_1 rfl (am_2O hg rfl (fun _ => am_1I (ct_CB_reason hg))) rfl rfl rc_1 (Nat.le_of_ble_eq_true rfl) (by show 0 + 0 ≤ 98; omega) (by show 0 + 0 ≤ 588; omega) ?_
  refine am_istore (lv2 := [(5, .int (f_CB_reason s)), (0, .ref 0), (1, .ref 207), (2, .int x2), (3, .int x3), (4, .int x4)]) d_LH_isChoiceSo_4 (by decide) rfl ?_
  refine am_aload_n (j := 1) d_LH_isChoiceSo_6 rfl rfl ?_
  refine am_bipush (v := (9 : Int32)) d_LH_isChoiceSo_7 (by decide) ?_
  refine am_iload_n (j := 3) d_LH_isChoiceSo_9 rfl rfl ?_
  refine am_iload_n (j := 4) d_LH_isChoiceSo_10 rfl rfl ?_
  refine am_iload (j := 5) d_LH_isChoiceSo_11 rfl ?_
  refine am_iconst (v := (0 : Int32)) d_LH_isChoiceSo_13 (by decide) ?_
  refine am_iconst (v := (0 : Int32)) d_LH_isChoiceSo_14 (by decide) ?_
  refine am_iconst (v := (0 : Int32)) d_LH_isChoiceSo_15 (by decide) ?_
  obtain ⟨hc, h⟩ := h
  refine ak9_SX (as := [.ref 0, .int (9 : Int32), .int x2, .int x3, .int x4, .int (0 : Int32), .int (0 : Int32), .int (0 : Int32)]) (rest := []) d_LH_isChoiceSo_16 cw_LH_isChoiceSo_16 rfl (am_2O hg rfl (fun _ => am_1C (ct_LH_sets hg hc))) rfl rfl (Nat.le_of_ble_eq_true rfl) (by show 0 + 0 + 16 ≤ 98; omega) (by show 0 + 0 + 96 ≤ 588; omega) ?_
  refine am_istore (lv2 := [(6, .int (f_LH_sets s (9 : Int32) x2 x3 x4 (0 : Int32) (0 : Int32) (0 : Int32)).1), (5, .int (f_CB_reason s)), (0, .ref 0), (1, .ref 207), (2, .int x2), (3, .int x3), (4, .int x4)]) d_LH_isChoiceSo_19 (by decide) rfl ?_
  refine am_aload_n (j := 3) d_LH_isChoiceSo_21 rfl rfl ?_
  refine am_bipush (v := (9 : Int32)) d_LH_isChoiceSo_22 (by decide) ?_
  refine am_iload_n (j := 4) d_LH_isChoiceSo_24 rfl rfl ?_
  refine am_iload_n (j := 5) d_LH_isChoiceSo_25 rfl rfl ?_
  refine am_iload (j := 6) d_LH_isChoiceSo_26 rfl ?_
  refine am_iconst (v := (0 : Int32)) d_LH_isChoiceSo_28 (by decide) ?_
  refine am_iconst (v := (0 : Int32)) d_LH_isChoiceSo_29 (by decide) ?_
  refine am_iconst (v := (0 : Int32)) d_LH_isChoiceSo_30 (by decide) ?_
  obtain ⟨hc, h⟩ := h
  refine ak9_SX (as := [.ref 207, .int (9 : Int32), .int x2, .int x3, .int x4, .int (0 : Int32), .int (0 : Int32), .int (0 : Int32)]) (rest := []) d_LH_isChoiceSo_31 cw_LH_isChoiceSo_31 rfl (am_2P (av1 := [.ref 0, .int (9 : Int32), .int x2, .int x3, .int x4, .int (0 : Int32), .int (0 : Int32), .int (0 : Int32)]) hg rfl (fun _ => rfl) (fun _ => am_1C (ct_LH_sets hg hc))) rfl rfl (Nat.le_of_ble_eq_true rfl) (by show 0 + 0 + 16 + 16 ≤ 98; omega) (by show 0 + 0 + 96 + 96 ≤ 588; omega) ?_
  refine am_iload (j := 0) d_LH_isChoiceSo_34 rfl ?_
  refine aj_ne (F := am_oC2) (tgt := 52) d_LH_isChoiceSo_36 (by decide) (fun c => ?_) (fun c => ?_)
  · have h := h.2 c
    refine am_sub [2, 3, 4, 5, 6, 1, 0] (lv2 := [(0, .ref 0), (1, .ref 207), (2, .int x2), (3, .int x3), (4, .int x4), (5, .int (f_CB_reason s)), (6, .int (f_LH_sets s (9 : Int32) x2 x3 x4 (0 : Int32) (0 : Int32) (0 : Int32)).1)]) rfl ?_
    exact w_LH_isChoiceSo_52 hg  (by show 0 + 0 + 16 + 16 ≤ 32; omega) (by show 0 + 0 + 96 + 96 ≤ 192; omega) h
  · have h := h.1 c
    refine am_aload_n (j := 2) d_LH_isChoiceSo_39 rfl rfl ?_
    refine ak9_V (as := []) (rest := []) d_LH_isChoiceSo_40 cw_LH_isChoiceSo_40 rfl (am_2O hg rfl (fun _ => am_1I (ct_CB_reason hg))) rfl rfl rc_1 (Nat.le_of_ble_eq_true rfl) (by show 0 + 0 + 16 + 16 + 0 ≤ 98; omega) (by show 0 + 0 + 96 + 96 + 0 ≤ 588; omega) ?_
    refine am_iload (j := 1) d_LH_isChoiceSo_43 rfl ?_
    refine aj_ne (F := am_oC2) (tgt := 52) d_LH_isChoiceSo_45 (by decide) (fun c => ?_) (fun c => ?_)
    · have h := h.2 c
      refine am_sub [2, 3, 4, 5, 6, 1, 0] (lv2 := [(0, .ref 0), (1, .ref 207), (2, .int x2), (3, .int x3), (4, .int x4), (5, .int (f_CB_reason s)), (6, .int (f_LH_sets s (9 : Int32) x2 x3 x4 (0 : Int32) (0 : Int32) (0 : Int32)).1)]) rfl ?_
      exact w_LH_isChoiceSo_52 hg  (by show 0 + 0 + 16 + 16 + 0 ≤ 32; omega) (by show 0 + 0 + 96 + 96 + 0 ≤ 192; omega) h
    · have h := h.1 c
      refine am_iconst (v := (1 : Int32)) d_LH_isChoiceSo_48 (by decide) ?_
      refine am_goto (tgt := 53) d_LH_isChoiceSo_49 (by decide) ?_
      refine am_sub [2, 3, 4, 5, 6, 1, 0] (lv2 := [(0, .ref 0), (1, .ref 207), (2, .int x2), (3, .int x3), (4, .int x4), (5, .int (f_CB_reason s)), (6, .int (f_LH_sets s (9 : Int32) x2 x3 x4 (0 : Int32) (0 : Int32) (0 : Int32)).1)]) rfl ?_
      exact w_LH_isChoiceSo_53 hg  (by show 0 + 0 + 16 + 16 + 0 ≤ 32; omega) (by show 0 + 0 + 96 + 96 + 0 ≤ 192; omega) h
theorem ct_LH_isChoiceSo {l : Launch} {g : am_Gl} (hg : g.2.2.2.1 = true) {s : am_M} {t : am_M} {x2 : Int32} {x3 : Int32} {x4 : Int32} (h : p_LH_isChoiceSo s t x2 x3 x4) : AC l g m_LH_isChoiceSo 414 (jn s t) [.ref 0, .ref 207, .int x2, .int x3, .int x4] (am_oC2 (f_LH_isChoiceSo s t x2 x3 x4)) := am_enter ok_LH_isChoiceSo rfl (Nat.le_of_ble_eq_true rfl) rfl (fun ad0 => w_LH_isChoiceSo hg h)
theorem cw_LH_isActSo_1 : am_cv m_LH_isActSo m_CB_undoable 178 0 := ⟨⟨ok_CB_undoable, rfl, by decide +kernel, by decide, by decide⟩, aw_5_79, aw_5_80, aw_5_81⟩
theorem cw_LH_isActSo_11 : am_sh9 m_LH_isActSo m_LH_does 159 5 := ⟨ok_LH_does, ⟨_, rfl⟩, by decide +kernel, by decide, by decide, aw_1_193, aw_1_194⟩
theorem cw_LH_isActSo_44 : am_cv m_LH_isActSo m_CB_broken 175 0 := ⟨⟨ok_CB_broken, rfl, by decide +kernel, by decide, by decide⟩, aw_5_74, aw_5_75, aw_5_76⟩
theorem cw_LH_isActSo_103 : am_cv m_LH_isActSo m_CB_reason 181 0 := ⟨⟨ok_CB_reason, rfl, by decide +kernel, by decide, by decide⟩, aw_5_83, aw_5_84, aw_5_85⟩
theorem cw_LH_isActSo_110 : am_cv m_LH_isActSo m_CB_undoable 178 0 := ⟨⟨ok_CB_undoable, rfl, by decide +kernel, by decide, by decide⟩, aw_5_79, aw_5_80, aw_5_81⟩
theorem cw_LH_isActSo_57 : am_cv m_LH_isActSo m_CB_reason 181 0 := ⟨⟨ok_CB_reason, rfl, by decide +kernel, by decide, by decide⟩, aw_5_83, aw_5_84, aw_5_85⟩
theorem cw_LH_isActSo_64 : am_cv m_LH_isActSo m_CB_undoable 178 0 := ⟨⟨ok_CB_undoable, rfl, by decide +kernel, by decide, by decide⟩, aw_5_79, aw_5_80, aw_5_81⟩
theorem cw_LH_isActSo_29 : am_sh9 m_LH_isActSo m_LH_does 159 5 := ⟨ok_LH_does, ⟨_, rfl⟩, by decide +kernel, by decide, by decide, aw_1_193, aw_1_194⟩
theorem cw_LH_isActSo_83 : am_cv m_LH_isActSo m_CB_undo 48 0 := ⟨⟨ok_CB_undo, rfl, by decide +kernel, by decide, by decide⟩, aw_3_81, aw_3_82, aw_3_83⟩
theorem cw_LH_isActSo_130 : am_sh9 m_LH_isActSo m_LH_does 159 5 := ⟨ok_LH_does, ⟨_, rfl⟩, by decide +kernel, by decide, by decide, aw_1_193, aw_1_194⟩
theorem cw_LH_isActSo_170 : am_cs m_LH_isActSo m_LH_areAlike 204 2 := ⟨⟨ok_LH_areAlike, rfl, by decide +kernel, by decide, by decide⟩, aw_5_71, aw_5_72⟩
theorem cw_LH_isActSo_158 : am_sh9 m_LH_isActSo m_LH_does 159 5 := ⟨ok_LH_does, ⟨_, rfl⟩, by decide +kernel, by decide, by decide, aw_1_193, aw_1_194⟩
theorem cw_LH_isActSo_162 : am_cv m_LH_isActSo m_CB_undoable 178 0 := ⟨⟨ok_CB_undoable, rfl, by decide +kernel, by decide, by decide⟩, aw_5_79, aw_5_80, aw_5_81⟩
def f_LH_isActSo_122  (s : am_M) (t : am_M) (x2 : Int32) (x3 : Int32) (x4 : Int32) (y0 : Int32) : Int32 × am_M × am_M := (if y0 = 0 then ((0 : Int32), s, (f_LH_does t (11 : Int32) x2 (0 : Int32) (0 : Int32)).2) else (if (f_LH_does t (11 : Int32) x2 (0 : Int32) (0 : Int32)).1 = x4 then (if x4 = 0 then (if (f_LH_areAlike s (f_LH_does t (11 : Int32) x2 (0 : Int32) (0 : Int32)).2).1 = 0 then ((0 : Int32), (f_LH_areAlike s (f_LH_does t (11 : Int32) x2 (0 : Int32) (0 : Int32)).2).2.1, (f_LH_areAlike s (f_LH_does t (11 : Int32) x2 (0 : Int32) (0 : Int32)).2).2.2) else ((1 : Int32), (f_LH_areAlike s (f_LH_does t (11 : Int32) x2 (0 : Int32) (0 : Int32)).2).2.1, (f_LH_areAlike s (f_LH_does t (11 : Int32) x2 (0 : Int32) (0 : Int32)).2).2.2)) else (if (f_LH_does (f_LH_does t (11 : Int32) x2 (0 : Int32) (0 : Int32)).2 (10 : Int32) (0 : Int32) (0 : Int32) (0 : Int32)).1 = (f_CB_undoable s) then (if (f_LH_areAlike s (f_LH_does (f_LH_does t (11 : Int32) x2 (0 : Int32) (0 : Int32)).2 (10 : Int32) (0 : Int32) (0 : Int32) (0 : Int32)).2).1 = 0 then ((0 : Int32), (f_LH_areAlike s (f_LH_does (f_LH_does t (11 : Int32) x2 (0 : Int32) (0 : Int32)).2 (10 : Int32) (0 : Int32) (0 : Int32) (0 : Int32)).2).2.1, (f_LH_areAlike s (f_LH_does (f_LH_does t (11 : Int32) x2 (0 : Int32) (0 : Int32)).2 (10 : Int32) (0 : Int32) (0 : Int32) (0 : Int32)).2).2.2) else ((1 : Int32), (f_LH_areAlike s (f_LH_does (f_LH_does t (11 : Int32) x2 (0 : Int32) (0 : Int32)).2 (10 : Int32) (0 : Int32) (0 : Int32) (0 : Int32)).2).2.1, (f_LH_areAlike s (f_LH_does (f_LH_does t (11 : Int32) x2 (0 : Int32) (0 : Int32)).2 (10 : Int32) (0 : Int32) (0 : Int32) (0 : Int32)).2).2.2)) else ((0 : Int32), s, (f_LH_does (f_LH_does t (11 : Int32) x2 (0 : Int32) (0 : Int32)).2 (10 : Int32) (0 : Int32) (0 : Int32) (0 : Int32)).2))) else ((0 : Int32), s, (f_LH_does t (11 : Int32) x2 (0 : Int32) (0 : Int32)).2)))
def p_LH_isActSo_122  (s : am_M) (t : am_M) (x2 : Int32) (x3 : Int32) (x4 : Int32) (y0 : Int32) : Prop := p_LH_does t (11 : Int32) x2 (0 : Int32) (0 : Int32) ∧ (((y0 = 0) → True) ∧ (¬ (y0 = 0) → (((f_LH_does t (11 : Int32) x2 (0 : Int32) (0 : Int32)).1 = x4) → ((x4 = 0) → p_LH_areAlike s (f_LH_does t (11 : Int32) x2 (0 : Int32) (0 : Int32)).2 ∧ ((((f_LH_areAlike s (f_LH_does t (11 : Int32) x2 (0 : Int32) (0 : Int32)).2).1 = 0) → True) ∧ (¬ ((f_LH_areAlike s (f_LH_does t (11 : Int32) x2 (0 : Int32) (0 : Int32)).2).1 = 0) → True))) ∧ (¬ (x4 = 0) → p_LH_does (f_LH_does t (11 : Int32) x2 (0 : Int32) (0 : Int32)).2 (10 : Int32) (0 : Int32) (0 : Int32) (0 : Int32) ∧ ((((f_LH_does (f_LH_does t (11 : Int32) x2 (0 : Int32) (0 : Int32)).2 (10 : Int32) (0 : Int32) (0 : Int32) (0 : Int32)).1 = (f_CB_undoable s)) → p_LH_areAlike s (f_LH_does (f_LH_does t (11 : Int32) x2 (0 : Int32) (0 : Int32)).2 (10 : Int32) (0 : Int32) (0 : Int32) (0 : Int32)).2 ∧ ((((f_LH_areAlike s (f_LH_does (f_LH_does t (11 : Int32) x2 (0 : Int32) (0 : Int32)).2 (10 : Int32) (0 : Int32) (0 : Int32) (0 : Int32)).2).1 = 0) → True) ∧ (¬ ((f_LH_areAlike s (f_LH_does (f_LH_does t (11 : Int32) x2 (0 : Int32) (0 : Int32)).2 (10 : Int32) (0 : Int32) (0 : Int32) (0 : Int32)).2).1 = 0) → True))) ∧ (¬ ((f_LH_does (f_LH_does t (11 : Int32) x2 (0 : Int32) (0 : Int32)).2 (10 : Int32) (0 : Int32) (0 : Int32) (0 : Int32)).1 = (f_CB_undoable s)) → True)))) ∧ (¬ ((f_LH_does t (11 : Int32) x2 (0 : Int32) (0 : Int32)).1 = x4) → True)))
set_option maxRecDepth 8000 in
theorem w_LH_isActSo_122 {l : Launch} {g : am_Gl} (hg : g.2.2.2.1 = true) {ad0 : Nat → Nat}  {s : am_M} {t : am_M} {x2 : Int32} {x3 : Int32} {x4 : Int32} {y0 : Int32} {k z : Nat} (hk : k ≤ 5) (hz : z ≤ 30) (h : p_LH_isActSo_122  s t x2 x3 x4 y0) : AW l g m_LH_isActSo 414 ad0 (am_oC2 (f_LH_isActSo_122  s t x2 x3 x4 y0)) k z 414 (jn s t) 122 [(0, .ref 0), (1, .ref 207), (2, .int x2), (3, .int x3), (4, .int x4)] [.int y0] := by
  refine am_istore (lv2 := [(5, .int y0), (0, .ref 0), (1, .ref 207), (2, .int x2), (3, .int x3), (4, .int x4)]) d_LH_isActSo_122 (by decide) rfl ?_
  refine am_aload_n (j := 2) d_LH_isActSo_124 rfl rfl ?_
  refine am_bipush (v := (11 : Int32)) d_LH_isActSo_125 (by decide) ?_
  refine am_iload_n (j := 3) d_LH_isActSo_127 rfl rfl ?_
  refine am_iconst (v := (0 : Int32)) d_LH_isActSo_128 (by decide) ?_
  refine am_iconst (v := (0 : Int32)) d_LH_isActSo_129 (by decide) ?_
  obtain ⟨hc, h⟩ := h
  refine ak9_SX (as := [.ref 207, .int (11 : Int32), .int x2, .int (0 : Int32), .int (0 : Int32)]) (rest := []) d_LH_isActSo_130 cw_LH_isActSo_130 rfl (am_2P (av1 := [.ref 0, .int (11 : Int32), .int x2, .int (0 : Int32), .int (0 : Int32)]) hg rfl (fun _ => rfl) (fun _ => am_1C (ct_LH_does hg hc))) rfl rfl (Nat.le_of_ble_eq_true rfl) (by show k + 4 ≤ 4936; omega) (by show z + 24 ≤ 29616; omega) ?_
  refine am_istore (lv2 := [(6, .int (f_LH_does t (11 : Int32) x2 (0 : Int32) (0 : Int32)).1), (5, .int y0), (0, .ref 0), (1, .ref 207), (2, .int x2), (3, .int x3), (4, .int x4)]) d_LH_isActSo_133 (by decide) rfl ?_
  refine am_iload (j := 1) d_LH_isActSo_135 rfl ?_
  refine ai_eq (F := am_oC2) (tgt := 180) d_LH_isActSo_137 (by decide) (fun c => ?_) (fun c => ?_)
  · have h := h.1 c
    refine am_iconst (v := (0 : Int32)) d_LH_isActSo_180 (by decide) ?_
    exact am_iret d_LH_isActSo_181 rfl (am_bool (Or.inl rfl)).1 (by show k + 4 ≤ 4936; omega) (by show z + 24 ≤ 29616; omega) am_oC2_ok
  · have h := h.2 c
    refine am_iload (j := 0) d_LH_isActSo_140 rfl ?_
    refine am_iload (j := 6) d_LH_isActSo_142 rfl ?_
    refine aj_ne (F := am_oC2) (tgt := 180) d_LH_isActSo_144 (by decide) (fun c => ?_) (fun c => ?_)
    · have h := h.2 c
      refine am_iconst (v := (0 : Int32)) d_LH_isActSo_180 (by decide) ?_
      exact am_iret d_LH_isActSo_181 rfl (am_bool (Or.inl rfl)).1 (by show k + 4 ≤ 4936; omega) (by show z + 24 ≤ 29616; omega) am_oC2_ok
    · have h := h.1 c
      refine am_iload (j := 6) d_LH_isActSo_147 rfl ?_
      refine ai_eq (F := am_oC2) (tgt := 168) d_LH_isActSo_149 (by decide) (fun c => ?_) (fun c => ?_)
      · have h := h.1 c
        refine am_aload_n (j := 2) d_LH_isActSo_168 rfl rfl ?_
        refine am_aload_n (j := 3) d_LH_isActSo_169 rfl rfl ?_
        obtain ⟨hc, h⟩ := h
        refine ak9_S (as := [.ref 0, .ref 207]) (rest := []) d_LH_isActSo_170 cw_LH_isActSo_170 rfl (ct_LH_areAlike hg hc) rfl rfl (Nat.le_of_ble_eq_true rfl) (by show k + 4 + 4923 ≤ 4936; omega) (by show z + 24 + 29538 ≤ 29616; omega) ?_
        refine ai_eq (F := am_oC2) (tgt := 180) d_LH_isActSo_173 (by decide) (fun c => ?_) (fun c => ?_)
        · have h := h.1 c
          refine am_iconst (v := (0 : Int32)) d_LH_isActSo_180 (by decide) ?_
          exact am_iret d_LH_isActSo_181 rfl (am_bool (Or.inl rfl)).1 (by show k + 4 + 4923 ≤ 4936; omega) (by show z + 24 + 29538 ≤ 29616; omega) am_oC2_ok
        · have h := h.2 c
          refine am_iconst (v := (1 : Int32)) d_LH_isActSo_176 (by decide) ?_
          refine am_goto (tgt := 181) d_LH_isActSo_177 (by decide) ?_
          exact am_iret d_LH_isActSo_181 rfl (am_bool (Or.inr rfl)).1 (by show k + 4 + 4923 ≤ 4936; omega) (by show z + 24 + 29538 ≤ 29616; omega) am_oC2_ok
      · have h := h.2 c
        refine am_aload_n (j := 3) d_LH_isActSo_152 rfl rfl ?_
        refine am_bipush (v := (10 : Int32)) d_LH_isActSo_153 (by decide) ?_
        refine am_iconst (v := (0 : Int32)) d_LH_isActSo_155 (by decide) ?_
        refine am_iconst (v := (0 : Int32)) d_LH_isActSo_156 (by decide) ?_
        refine am_iconst (v := (0 : Int32)) d_LH_isActSo_157 (by decide) ?_
        obtain ⟨hc, h⟩ := h
        refine ak9_SX (as := [.ref 207, .int (10 : Int32), .int (0 : Int32), .int (0 : Int32), .int (0 : Int32)]) (rest := []) d_LH_isActSo_158 cw_LH_isActSo_158 rfl (am_2P (av1 := [.ref 0, .int (10 : Int32), .int (0 : Int32), .int (0 : Int32), .int (0 : Int32)]) hg rfl (fun _ => rfl) (fun _ => am_1C (ct_LH_does hg hc))) rfl rfl (Nat.le_of_ble_eq_true rfl) (by show k + 4 + 4 ≤ 4936; omega) (by show z + 24 + 24 ≤ 29616; omega) ?_
        refine am_aload_n (j := 2) d_LH_isActSo_161 rfl rfl ?_
        refine ak9_V (as := []) (rest := [.int (f_LH_does (f_LH_does t (11 : Int32) x2 (0 : Int32) (0 : Int32)).2 (10 : Int32) (0 : Int32) (0 : Int32) (0 : Int32)).1]) d_LH_isActSo_162 cw_LH_isActSo_162 rfl (am_2O hg rfl (fun _ => am_1I (ct_CB_undoable hg))) rfl rfl rc_1 (Nat.le_of_ble_eq_true rfl) (by show k + 4 + 4 + 0 ≤ 4936; omega) (by show z + 24 + 24 + 0 ≤ 29616; omega) ?_
        refine aj_ne (F := am_oC2) (tgt := 180) d_LH_isActSo_165 (by decide) (fun c => ?_) (fun c => ?_)
        · have h := h.2 c
          refine am_iconst (v := (0 : Int32)) d_LH_isActSo_180 (by decide) ?_
          exact am_iret d_LH_isActSo_181 rfl (am_bool (Or.inl rfl)).1 (by show k + 4 + 4 + 0 ≤ 4936; omega) (by show z + 24 + 24 + 0 ≤ 29616; omega) am_oC2_ok
        · have h := h.1 c
          refine am_aload_n (j := 2) d_LH_isActSo_168 rfl rfl ?_
          refine am_aload_n (j := 3) d_LH_isActSo_169 rfl rfl ?_
          obtain ⟨hc, h⟩ := h
          refine ak9_S (as := [.ref 0, .ref 207]) (rest := []) d_LH_isActSo_170 cw_LH_isActSo_170 rfl (ct_LH_areAlike hg hc) rfl rfl (Nat.le_of_ble_eq_true rfl) (by show k + 4 + 4 + 0 + 4923 ≤ 4936; omega) (by show z + 24 + 24 + 0 + 29538 ≤ 29616; omega) ?_
          refine ai_eq (F := am_oC2) (tgt := 180) d_LH_isActSo_173 (by decide) (fun c => ?_) (fun c => ?_)
          · have h := h.1 c
            refine am_iconst (v := (0 : Int32)) d_LH_isActSo_180 (by decide) ?_
            exact am_iret d_LH_isActSo_181 rfl (am_bool (Or.inl rfl)).1 (by show k + 4 + 4 + 0 + 4923 ≤ 4936; omega) (by show z + 24 + 24 + 0 + 29538 ≤ 29616; omega) am_oC2_ok
          · have h := h.2 c
            refine am_iconst (v := (1 : Int32)) d_LH_isActSo_176 (by decide) ?_
            refine am_goto (tgt := 181) d_LH_isActSo_177 (by decide) ?_
            exact am_iret d_LH_isActSo_181 rfl (am_bool (Or.inr rfl)).1 (by show k + 4 + 4 + 0 + 4923 ≤ 4936; omega) (by show z + 24 + 24 + 0 + 29538 ≤ 29616; omega) am_oC2_ok
def f_LH_isActSo_117  (s : am_M) (t : am_M) (x2 : Int32) (x3 : Int32) (x4 : Int32) : Int32 × am_M × am_M := (f_LH_isActSo_122 s t x2 x3 x4 (1 : Int32))
def p_LH_isActSo_117  (s : am_M) (t : am_M) (x2 : Int32) (x3 : Int32) (x4 : Int32) : Prop := (p_LH_isActSo_122 s t x2 x3 x4 (1 : Int32))
set_option maxRecDepth 8000 in
theorem w_LH_isActSo_117 {l : Launch} {g : am_Gl} (hg : g.2.2.2.1 = true) {ad0 : Nat → Nat}  {s : am_M} {t : am_M} {x2 : Int32} {x3 : Int32} {x4 : Int32} {k z : Nat} (hk : k ≤ 5) (hz : z ≤ 30) (h : p_LH_isActSo_117  s t x2 x3 x4) : AW l g m_LH_isActSo 414 ad0 (am_oC2 (f_LH_isActSo_117  s t x2 x3 x4)) k z 414 (jn s t) 117 [(0, .ref 0), (1, .ref 207), (2, .int x2), (3, .int x3), (4, .int x4)] [] := by
  refine am_iconst (v := (1 : Int32)) d_LH_isActSo_117 (by decide) ?_
  refine am_goto (tgt := 122) d_LH_isActSo_118 (by decide) ?_
  exact w_LH_isActSo_122 hg  (by show k ≤ 5; omega) (by show z ≤ 30; omega) h
def f_LH_isActSo_121  (s : am_M) (t : am_M) (x2 : Int32) (x3 : Int32) (x4 : Int32) : Int32 × am_M × am_M := (f_LH_isActSo_122 s t x2 x3 x4 (0 : Int32))
def p_LH_isActSo_121  (s : am_M) (t : am_M) (x2 : Int32) (x3 : Int32) (x4 : Int32) : Prop := (p_LH_isActSo_122 s t x2 x3 x4 (0 : Int32))
set_option maxRecDepth 8000 in
theorem w_LH_isActSo_121 {l : Launch} {g : am_Gl} (hg : g.2.2.2.1 = true) {ad0 : Nat → Nat}  {s : am_M} {t : am_M} {x2 : Int32} {x3 : Int32} {x4 : Int32} {k z : Nat} (hk : k ≤ 5) (hz : z ≤ 30) (h : p_LH_isActSo_121  s t x2 x3 x4) : AW l g m_LH_isActSo 414 ad0 (am_oC2 (f_LH_isActSo_121  s t x2 x3 x4)) k z 414 (jn s t) 121 [(0, .ref 0), (1, .ref 207), (2, .int x2), (3, .int x3), (4, .int x4)] [] := by
  refine am_iconst (v := (0 : Int32)) d_LH_isActSo_121 (by decide) ?_
  exact w_LH_isActSo_122 hg  (by show k ≤ 5; omega) (by show z ≤ 30; omega) h
def f_LH_isActSo_96  (s : am_M) (t : am_M) (x2 : Int32) (x3 : Int32) (x4 : Int32) (y0 : Int32) (y1 : Int32) : Int32 × am_M × am_M := (if y0 = y1 then (f_LH_isActSo_117 s t x2 x3 x4) else (f_LH_isActSo_121 s t x2 x3 x4))
def p_LH_isActSo_96  (s : am_M) (t : am_M) (x2 : Int32) (x3 : Int32) (x4 : Int32) (y0 : Int32) (y1 : Int32) : Prop := ((y0 = y1) → (p_LH_isActSo_117 s t x2 x3 x4)) ∧ (¬ (y0 = y1) → (p_LH_isActSo_121 s t x2 x3 x4))
set_option maxRecDepth 8000 in
theorem w_LH_isActSo_96 {l : Launch} {g : am_Gl} (hg : g.2.2.2.1 = true) {ad0 : Nat → Nat}  {s : am_M} {t : am_M} {x2 : Int32} {x3 : Int32} {x4 : Int32} {y0 : Int32} {y1 : Int32} {k z : Nat} (hk : k ≤ 5) (hz : z ≤ 30) (h : p_LH_isActSo_96  s t x2 x3 x4 y0 y1) : AW l g m_LH_isActSo 414 ad0 (am_oC2 (f_LH_isActSo_96  s t x2 x3 x4 y0 y1)) k z 414 (jn s t) 96 [(0, .ref 0), (1, .ref 207), (2, .int x2), (3, .int x3), (4, .int x4)] [.int y1, .int y0] := by
  refine aj_ne (F := am_oC2) (tgt := 121) d_LH_isActSo_96 (by decide) (fun c => ?_) (fun c => ?_)
  · have h := h.2 c
    exact w_LH_isActSo_121 hg  (by show k ≤ 5; omega) (by show z ≤ 30; omega) h
  · have h := h.1 c
    refine am_goto (tgt := 117) d_LH_isActSo_99 (by decide) ?_
    exact w_LH_isActSo_117 hg  (by show k ≤ 5; omega) (by show z ≤ 30; omega) h
def f_LH_isActSo_79  (s : am_M) (t : am_M) (x2 : Int32) (x3 : Int32) (x4 : Int32) (y0 : Int32) (y1 : Int32) : Int32 × am_M × am_M := (if y0 = y1 then (if (5 : Int32) ≤ x3 then (f_LH_isActSo_96 (h_CB_undo s).2.2 t x2 x3 x4 (h_CB_undo s).2.1 (4 : Int32)) else (f_LH_isActSo_96 (h_CB_undo s).2.2 t x2 x3 x4 (h_CB_undo s).2.1 x3)) else (f_LH_isActSo_121 s t x2 x3 x4))
def p_LH_isActSo_79  (s : am_M) (t : am_M) (x2 : Int32) (x3 : Int32) (x4 : Int32) (y0 : Int32) (y1 : Int32) : Prop := ((y0 = y1) → p_CB_undo s ∧ ((h_CB_undo s).1 = 0 ∧ ((((5 : Int32) ≤ x3) → (p_LH_isActSo_96 (h_CB_undo s).2.2 t x2 x3 x4 (h_CB_undo s).2.1 (4 : Int32))) ∧ (¬ ((5 : Int32) ≤ x3) → (p_LH_isActSo_96 (h_CB_undo s).2.2 t x2 x3 x4 (h_CB_undo s).2.1 x3))))) ∧ (¬ (y0 = y1) → (p_LH_isActSo_121 s t x2 x3 x4))
set_option maxRecDepth 8000 in
theorem w_LH_isActSo_79 {l : Launch} {g : am_Gl} (hg : g.2.2.2.1 = true) {ad0 : Nat → Nat}  {s : am_M} {t : am_M} {x2 : Int32} {x3 : Int32} {x4 : Int32} {y0 : Int32} {y1 : Int32} {k z : Nat} (hk : k ≤ 4) (hz : z ≤ 24) (h : p_LH_isActSo_79  s t x2 x3 x4 y0 y1) : AW l g m_LH_isActSo 414 ad0 (am_oC2 (f_LH_isActSo_79  s t x2 x3 x4 y0 y1)) k z 414 (jn s t) 79 [(0, .ref 0), (1, .ref 207), (2, .int x2), (3, .int x3), (4, .int x4)] [.int y1, .int y0] := by
  refine aj_ne (F := am_oC2) (tgt := 121) d_LH_isActSo_79 (by decide) (fun c => ?_) (fun c => ?_)
  · have h := h.2 c
    exact w_LH_isActSo_121 hg  (by show k ≤ 5; omega) (by show z ≤ 30; omega) h
  · have h := h.1 c
    refine am_aload_n (j := 0) d_LH_isActSo_82 rfl rfl ?_
    obtain ⟨hc, h⟩ := h
    obtain ⟨h0, h⟩ := h
    refine ak9_VX (as := []) (rest := []) d_LH_isActSo_83 cw_LH_isActSo_83 rfl (am_2O hg rfl (fun _ => am_1E h0 (ch_CB_undo hg hc))) rfl rfl rc_1 (Nat.le_of_ble_eq_true rfl) (by show k + 1 ≤ 4936; omega) (by show z + 6 ≤ 29616; omega) ?_
    refine am_iload_n (j := 3) d_LH_isActSo_86 rfl rfl ?_
    refine am_iconst (v := (5 : Int32)) d_LH_isActSo_87 (by decide) ?_
    refine aj_ge (F := am_oC2) (tgt := 95) d_LH_isActSo_88 (by decide) (fun c => ?_) (fun c => ?_)
    · have h := h.1 c
      refine am_iconst (v := (4 : Int32)) d_LH_isActSo_95 (by decide) ?_
      exact w_LH_isActSo_96 hg  (by show k + 1 ≤ 5; omega) (by show z + 6 ≤ 30; omega) h
    · have h := h.2 c
      refine am_iload_n (j := 3) d_LH_isActSo_91 rfl rfl ?_
      refine am_goto (tgt := 96) d_LH_isActSo_92 (by decide) ?_
      exact w_LH_isActSo_96 hg  (by show k + 1 ≤ 5; omega) (by show z + 6 ≤ 30; omega) h
def f_LH_isActSo (s : am_M) (t : am_M) (x2 : Int32) : Int32 × am_M × am_M := (if (f_LH_does s (11 : Int32) x2 (0 : Int32) (0 : Int32)).1 = (-9999999 : Int32) then (if (f_LH_does t (11 : Int32) x2 (0 : Int32) (0 : Int32)).1 = (f_LH_does s (11 : Int32) x2 (0 : Int32) (0 : Int32)).1 then ((1 : Int32), (f_LH_does s (11 : Int32) x2 (0 : Int32) (0 : Int32)).2, (f_LH_does t (11 : Int32) x2 (0 : Int32) (0 : Int32)).2) else ((0 : Int32), (f_LH_does s (11 : Int32) x2 (0 : Int32) (0 : Int32)).2, (f_LH_does t (11 : Int32) x2 (0 : Int32) (0 : Int32)).2)) else (if (f_CB_broken (f_LH_does s (11 : Int32) x2 (0 : Int32) (0 : Int32)).2).1 = 0 then (if (f_LH_does s (11 : Int32) x2 (0 : Int32) (0 : Int32)).1 = (1 : Int32) then (if (f_CB_reason (f_CB_broken (f_LH_does s (11 : Int32) x2 (0 : Int32) (0 : Int32)).2).2) = 0 then (if (5 : Int32) ≤ (f_CB_undoable s) then (f_LH_isActSo_79 (f_CB_broken (f_LH_does s (11 : Int32) x2 (0 : Int32) (0 : Int32)).2).2 t x2 (f_CB_undoable s) (f_LH_does s (11 : Int32) x2 (0 : Int32) (0 : Int32)).1 (f_CB_undoable (f_CB_broken (f_LH_does s (11 : Int32) x2 (0 : Int32) (0 : Int32)).2).2) (5 : Int32)) else (f_LH_isActSo_79 (f_CB_broken (f_LH_does s (11 : Int32) x2 (0 : Int32) (0 : Int32)).2).2 t x2 (f_CB_undoable s) (f_LH_does s (11 : Int32) x2 (0 : Int32) (0 : Int32)).1 (f_CB_undoable (f_CB_broken (f_LH_does s (11 : Int32) x2 (0 : Int32) (0 : Int32)).2).2) ((f_CB_undoable s) + (1 : Int32)))) else (f_LH_isActSo_121 (f_CB_broken (f_LH_does s (11 : Int32) x2 (0 : Int32) (0 : Int32)).2).2 t x2 (f_CB_undoable s) (f_LH_does s (11 : Int32) x2 (0 : Int32) (0 : Int32)).1)) else (if (f_CB_reason (f_CB_broken (f_LH_does s (11 : Int32) x2 (0 : Int32) (0 : Int32)).2).2) ≤ 0 then (f_LH_isActSo_121 (f_CB_broken (f_LH_does s (11 : Int32) x2 (0 : Int32) (0 : Int32)).2).2 t x2 (f_CB_undoable s) (f_LH_does s (11 : Int32) x2 (0 : Int32) (0 : Int32)).1) else (if (f_CB_undoable (f_CB_broken (f_LH_does s (11 : Int32) x2 (0 : Int32) (0 : Int32)).2).2) = (f_CB_undoable s) then (f_LH_isActSo_117 (f_CB_broken (f_LH_does s (11 : Int32) x2 (0 : Int32) (0 : Int32)).2).2 t x2 (f_CB_undoable s) (f_LH_does s (11 : Int32) x2 (0 : Int32) (0 : Int32)).1) else (f_LH_isActSo_121 (f_CB_broken (f_LH_does s (11 : Int32) x2 (0 : Int32) (0 : Int32)).2).2 t x2 (f_CB_undoable s) (f_LH_does s (11 : Int32) x2 (0 : Int32) (0 : Int32)).1)))) else (f_LH_isActSo_121 (f_CB_broken (f_LH_does s (11 : Int32) x2 (0 : Int32) (0 : Int32)).2).2 t x2 (f_CB_undoable s) (f_LH_does s (11 : Int32) x2 (0 : Int32) (0 : Int32)).1)))
def p_LH_isActSo (s : am_M) (t : am_M) (x2 : Int32) : Prop := p_LH_does s (11 : Int32) x2 (0 : Int32) (0 : Int32) ∧ ((((f_LH_does s (11 : Int32) x2 (0 : Int32) (0 : Int32)).1 = (-9999999 : Int32)) → p_LH_does t (11 : Int32) x2 (0 : Int32) (0 : Int32) ∧ ((((f_LH_does t (11 : Int32) x2 (0 : Int32) (0 : Int32)).1 = (f_LH_does s (11 : Int32) x2 (0 : Int32) (0 : Int32)).1) → True) ∧ (¬ ((f_LH_does t (11 : Int32) x2 (0 : Int32) (0 : Int32)).1 = (f_LH_does s (11 : Int32) x2 (0 : Int32) (0 : Int32)).1) → True))) ∧ (¬ ((f_LH_does s (11 : Int32) x2 (0 : Int32) (0 : Int32)).1 = (-9999999 : Int32)) → p_CB_broken (f_LH_does s (11 : Int32) x2 (0 : Int32) (0 : Int32)).2 ∧ ((((f_CB_broken (f_LH_does s (11 : Int32) x2 (0 : Int32) (0 : Int32)).2).1 = 0) → (((f_LH_does s (11 : Int32) x2 (0 : Int32) (0 : Int32)).1 = (1 : Int32)) → (((f_CB_reason (f_CB_broken (f_LH_does s (11 : Int32) x2 (0 : Int32) (0 : Int32)).2).2) = 0) → (((5 : Int32) ≤ (f_CB_undoable s)) → (p_LH_isActSo_79 (f_CB_broken (f_LH_does s (11 : Int32) x2 (0 : Int32) (0 : Int32)).2).2 t x2 (f_CB_undoable s) (f_LH_does s (11 : Int32) x2 (0 : Int32) (0 : Int32)).1 (f_CB_undoable (f_CB_broken (f_LH_does s (11 : Int32) x2 (0 : Int32) (0 : Int32)).2).2) (5 : Int32))) ∧ (¬ ((5 : Int32) ≤ (f_CB_undoable s)) → (p_LH_isActSo_79 (f_CB_broken (f_LH_does s (11 : Int32) x2 (0 : Int32) (0 : Int32)).2).2 t x2 (f_CB_undoable s) (f_LH_does s (11 : Int32) x2 (0 : Int32) (0 : Int32)).1 (f_CB_undoable (f_CB_broken (f_LH_does s (11 : Int32) x2 (0 : Int32) (0 : Int32)).2).2) ((f_CB_undoable s) + (1 : Int32))))) ∧ (¬ ((f_CB_reason (f_CB_broken (f_LH_does s (11 : Int32) x2 (0 : Int32) (0 : Int32)).2).2) = 0) → (p_LH_isActSo_121 (f_CB_broken (f_LH_does s (11 : Int32) x2 (0 : Int32) (0 : Int32)).2).2 t x2 (f_CB_undoable s) (f_LH_does s (11 : Int32) x2 (0 : Int32) (0 : Int32)).1))) ∧ (¬ ((f_LH_does s (11 : Int32) x2 (0 : Int32) (0 : Int32)).1 = (1 : Int32)) → (((f_CB_reason (f_CB_broken (f_LH_does s (11 : Int32) x2 (0 : Int32) (0 : Int32)).2).2) ≤ 0) → (p_LH_isActSo_121 (f_CB_broken (f_LH_does s (11 : Int32) x2 (0 : Int32) (0 : Int32)).2).2 t x2 (f_CB_undoable s) (f_LH_does s (11 : Int32) x2 (0 : Int32) (0 : Int32)).1)) ∧ (¬ ((f_CB_reason (f_CB_broken (f_LH_does s (11 : Int32) x2 (0 : Int32) (0 : Int32)).2).2) ≤ 0) → (((f_CB_undoable (f_CB_broken (f_LH_does s (11 : Int32) x2 (0 : Int32) (0 : Int32)).2).2) = (f_CB_undoable s)) → (p_LH_isActSo_117 (f_CB_broken (f_LH_does s (11 : Int32) x2 (0 : Int32) (0 : Int32)).2).2 t x2 (f_CB_undoable s) (f_LH_does s (11 : Int32) x2 (0 : Int32) (0 : Int32)).1)) ∧ (¬ ((f_CB_undoable (f_CB_broken (f_LH_does s (11 : Int32) x2 (0 : Int32) (0 : Int32)).2).2) = (f_CB_undoable s)) → (p_LH_isActSo_121 (f_CB_broken (f_LH_does s (11 : Int32) x2 (0 : Int32) (0 : Int32)).2).2 t x2 (f_CB_undoable s) (f_LH_does s (11 : Int32) x2 (0 : Int32) (0 : Int32)).1))))) ∧ (¬ ((f_CB_broken (f_LH_does s (11 : Int32) x2 (0 : Int32) (0 : Int32)).2).1 = 0) → (p_LH_isActSo_121 (f_CB_broken (f_LH_does s (11 : Int32) x2 (0 : Int32) (0 : Int32)).2).2 t x2 (f_CB_undoable s) (f_LH_does s (11 : Int32) x2 (0 : Int32) (0 : Int32)).1)))))
set_option maxRecDepth 8000 in
theorem w_LH_isActSo {l : Launch} {g : am_Gl} (hg : g.2.2.2.1 = true) {ad0 : Nat → Nat} {s : am_M} {t : am_M} {x2 : Int32} (h : p_LH_isActSo s t x2) : AW l g m_LH_isActSo 414 ad0 (am_oC2 (f_LH_isActSo s t x2)) 0 0 414 (jn s t) 0 [(0, .ref 0), (1, .ref 207), (2, .int x2)] [] := by
  refine am_aload_n (j := 0) d_LH_isActSo_0 rfl rfl ?_
  refine ak9_V (as := []) (rest := []) d_LH_isActSo_1 cw_LH_isActSo_1 rfl (am_2O hg rfl (fun _ => am_1I (ct_CB_undoable hg))) rfl rfl rc_1 (Nat.le_of_ble_eq_true rfl) (by show 0 + 0 ≤ 4936; omega) (by show 0 + 0 ≤ 29616; omega) ?_
  refine am_istore_n (lv2 := [(3, .int (f_CB_undoable s)), (0, .ref 0), (1, .ref 207), (2, .int x2)]) d_LH_isActSo_4 rfl (by decide) rfl ?_
  refine am_aload_n (j := 1) d_LH_isActSo_5 rfl rfl ?_
  refine am_bipush (v := (11 : Int32)) d_LH_isActSo_6 (by decide) ?_
  refine am_iload_n (j := 3) d_LH_isActSo_8 rfl rfl ?_
  refine am_iconst (v := (0 : Int32)) d_LH_isActSo_9 (by decide) ?_
  refine am_iconst (v := (0 : Int32)) d_LH_isActSo_10 (by decide) ?_
  obtain ⟨hc, h⟩ := h
  refine ak9_SX (as := [.ref 0, .int (11 : Int32), .int x2, .int (0 : Int32), .int (0 : Int32)]) (rest := []) d_LH_isActSo_11 cw_LH_isActSo_11 rfl (am_2O hg rfl (fun _ => am_1C (ct_LH_does hg hc))) rfl rfl (Nat.le_of_ble_eq_true rfl) (by show 0 + 0 + 4 ≤ 4936; omega) (by show 0 + 0 + 24 ≤ 29616; omega) ?_
  refine am_istore (lv2 := [(4, .int (f_LH_does s (11 : Int32) x2 (0 : Int32) (0 : Int32)).1), (3, .int (f_CB_undoable s)), (0, .ref 0), (1, .ref 207), (2, .int x2)]) d_LH_isActSo_14 (by decide) rfl ?_
  refine am_iload (j := 0) d_LH_isActSo_16 rfl ?_
  refine am_ldc (v := (-9999999 : Int32)) d_LH_isActSo_18 aw_3_220 ?_
  refine aj_ne (F := am_oC2) (tgt := 43) d_LH_isActSo_20 (by decide) (fun c => ?_) (fun c => ?_)
  · have h := h.2 c
    refine am_aload_n (j := 2) d_LH_isActSo_43 rfl rfl ?_
    obtain ⟨hc, h⟩ := h
    refine ak9_V (as := []) (rest := []) d_LH_isActSo_44 cw_LH_isActSo_44 rfl (am_2O hg rfl (fun _ => am_1C (ct_CB_broken hg hc))) rfl rfl rc_1 (Nat.le_of_ble_eq_true rfl) (by show 0 + 0 + 4 + 0 ≤ 4936; omega) (by show 0 + 0 + 24 + 0 ≤ 29616; omega) ?_
    refine ai_ne (F := am_oC2) (tgt := 121) d_LH_isActSo_47 (by decide) (fun c => ?_) (fun c => ?_)
    · have h := h.2 c
      refine am_sub [2, 3, 4, 1, 0] (lv2 := [(0, .ref 0), (1, .ref 207), (2, .int x2), (3, .int (f_CB_undoable s)), (4, .int (f_LH_does s (11 : Int32) x2 (0 : Int32) (0 : Int32)).1)]) rfl ?_
      exact w_LH_isActSo_121 hg  (by show 0 + 0 + 4 + 0 ≤ 5; omega) (by show 0 + 0 + 24 + 0 ≤ 30; omega) h
    · have h := h.1 c
      refine am_iload (j := 0) d_LH_isActSo_50 rfl ?_
      refine am_iconst (v := (1 : Int32)) d_LH_isActSo_52 (by decide) ?_
      refine aj_ne (F := am_oC2) (tgt := 102) d_LH_isActSo_53 (by decide) (fun c => ?_) (fun c => ?_)
      · have h := h.2 c
        refine am_aload_n (j := 2) d_LH_isActSo_102 rfl rfl ?_
        refine ak9_V (as := []) (rest := []) d_LH_isActSo_103 cw_LH_isActSo_103 rfl (am_2O hg rfl (fun _ => am_1I (ct_CB_reason hg))) rfl rfl rc_1 (Nat.le_of_ble_eq_true rfl) (by show 0 + 0 + 4 + 0 + 0 ≤ 4936; omega) (by show 0 + 0 + 24 + 0 + 0 ≤ 29616; omega) ?_
        refine ai_le (F := am_oC2) (tgt := 121) d_LH_isActSo_106 (by decide) (fun c => ?_) (fun c => ?_)
        · have h := h.1 c
          refine am_sub [2, 3, 4, 1, 0] (lv2 := [(0, .ref 0), (1, .ref 207), (2, .int x2), (3, .int (f_CB_undoable s)), (4, .int (f_LH_does s (11 : Int32) x2 (0 : Int32) (0 : Int32)).1)]) rfl ?_
          exact w_LH_isActSo_121 hg  (by show 0 + 0 + 4 + 0 + 0 ≤ 5; omega) (by show 0 + 0 + 24 + 0 + 0 ≤ 30; omega) h
        · have h := h.2 c
          refine am_aload_n (j := 2) d_LH_isActSo_109 rfl rfl ?_
          refine ak9_V (as := []) (rest := []) d_LH_isActSo_110 cw_LH_isActSo_110 rfl (am_2O hg rfl (fun _ => am_1I (ct_CB_undoable hg))) rfl rfl rc_1 (Nat.le_of_ble_eq_true rfl) (by show 0 + 0 + 4 + 0 + 0 + 0 ≤ 4936; omega) (by show 0 + 0 + 24 + 0 + 0 + 0 ≤ 29616; omega) ?_
          refine am_iload_n (j := 1) d_LH_isActSo_113 rfl rfl ?_
          refine aj_ne (F := am_oC2) (tgt := 121) d_LH_isActSo_114 (by decide) (fun c => ?_) (fun c => ?_)
          · have h := h.2 c
            refine am_sub [2, 3, 4, 1, 0] (lv2 := [(0, .ref 0), (1, .ref 207), (2, .int x2), (3, .int (f_CB_undoable s)), (4, .int (f_LH_does s (11 : Int32) x2 (0 : Int32) (0 : Int32)).1)]) rfl ?_
            exact w_LH_isActSo_121 hg  (by show 0 + 0 + 4 + 0 + 0 + 0 ≤ 5; omega) (by show 0 + 0 + 24 + 0 + 0 + 0 ≤ 30; omega) h
          · have h := h.1 c
            refine am_sub [2, 3, 4, 1, 0] (lv2 := [(0, .ref 0), (1, .ref 207), (2, .int x2), (3, .int (f_CB_undoable s)), (4, .int (f_LH_does s (11 : Int32) x2 (0 : Int32) (0 : Int32)).1)]) rfl ?_
            exact w_LH_isActSo_117 hg  (by show 0 + 0 + 4 + 0 + 0 + 0 ≤ 5; omega) (by show 0 + 0 + 24 + 0 + 0 + 0 ≤ 30; omega) h
      · have h := h.1 c
        refine am_aload_n (j := 2) d_LH_isActSo_56 rfl rfl ?_
        refine ak9_V (as := []) (rest := []) d_LH_isActSo_57 cw_LH_isActSo_57 rfl (am_2O hg rfl (fun _ => am_1I (ct_CB_reason hg))) rfl rfl rc_1 (Nat.le_of_ble_eq_true rfl) (by show 0 + 0 + 4 + 0 + 0 ≤ 4936; omega) (by show 0 + 0 + 24 + 0 + 0 ≤ 29616; omega) ?_
        refine ai_ne (F := am_oC2) (tgt := 121) d_LH_isActSo_60 (by decide) (fun c => ?_) (fun c => ?_)
        · have h := h.2 c
          refine am_sub [2, 3, 4, 1, 0] (lv2 := [(0, .ref 0), (1, .ref 207), (2, .int x2), (3, .int (f_CB_undoable s)), (4, .int (f_LH_does s (11 : Int32) x2 (0 : Int32) (0 : Int32)).1)]) rfl ?_
          exact w_LH_isActSo_121 hg  (by show 0 + 0 + 4 + 0 + 0 ≤ 5; omega) (by show 0 + 0 + 24 + 0 + 0 ≤ 30; omega) h
        · have h := h.1 c
          refine am_aload_n (j := 2) d_LH_isActSo_63 rfl rfl ?_
          refine ak9_V (as := []) (rest := []) d_LH_isActSo_64 cw_LH_isActSo_64 rfl (am_2O hg rfl (fun _ => am_1I (ct_CB_undoable hg))) rfl rfl rc_1 (Nat.le_of_ble_eq_true rfl) (by show 0 + 0 + 4 + 0 + 0 + 0 ≤ 4936; omega) (by show 0 + 0 + 24 + 0 + 0 + 0 ≤ 29616; omega) ?_
          refine am_iload_n (j := 1) d_LH_isActSo_67 rfl rfl ?_
          refine am_iconst (v := (5 : Int32)) d_LH_isActSo_68 (by decide) ?_
          refine aj_ge (F := am_oC2) (tgt := 78) d_LH_isActSo_69 (by decide) (fun c => ?_) (fun c => ?_)
          · have h := h.1 c
            refine am_iconst (v := (5 : Int32)) d_LH_isActSo_78 (by decide) ?_
            refine am_sub [2, 3, 4, 1, 0] (lv2 := [(0, .ref 0), (1, .ref 207), (2, .int x2), (3, .int (f_CB_undoable s)), (4, .int (f_LH_does s (11 : Int32) x2 (0 : Int32) (0 : Int32)).1)]) rfl ?_
            exact w_LH_isActSo_79 hg  (by show 0 + 0 + 4 + 0 + 0 + 0 ≤ 4; omega) (by show 0 + 0 + 24 + 0 + 0 + 0 ≤ 24; omega) h
          · have h := h.2 c
            refine am_iload_n (j := 1) d_LH_isActSo_72 rfl rfl ?_
            refine am_iconst (v := (1 : Int32)) d_LH_isActSo_73 (by decide) ?_
            refine am_iadd d_LH_isActSo_74 ?_
            refine am_goto (tgt := 79) d_LH_isActSo_75 (by decide) ?_
            refine am_sub [2, 3, 4, 1, 0] (lv2 := [(0, .ref 0), (1, .ref 207), (2, .int x2), (3, .int (f_CB_undoable s)), (4, .int (f_LH_does s (11 : Int32) x2 (0 : Int32) (0 : Int32)).1)]) rfl ?_
            exact w_LH_isActSo_79 hg  (by show 0 + 0 + 4 + 0 + 0 + 0 ≤ 4; omega) (by show 0 + 0 + 24 + 0 + 0 + 0 ≤ 24; omega) h
  · have h := h.1 c
    refine am_aload_n (j := 3) d_LH_isActSo_23 rfl rfl ?_
    refine am_bipush (v := (11 : Int32)) d_LH_isActSo_24 (by decide) ?_
    refine am_iload_n (j := 4) d_LH_isActSo_26 rfl rfl ?_
    refine am_iconst (v := (0 : Int32)) d_LH_isActSo_27 (by decide) ?_
    refine am_iconst (v := (0 : Int32)) d_LH_isActSo_28 (by decide) ?_
    obtain ⟨hc, h⟩ := h
    refine ak9_SX (as := [.ref 207, .int (11 : Int32), .int x2, .int (0 : Int32), .int (0 : Int32)]) (rest := []) d_LH_isActSo_29 cw_LH_isActSo_29 rfl (am_2P (av1 := [.ref 0, .int (11 : Int32), .int x2, .int (0 : Int32), .int (0 : Int32)]) hg rfl (fun _ => rfl) (fun _ => am_1C (ct_LH_does hg hc))) rfl rfl (Nat.le_of_ble_eq_true rfl) (by show 0 + 0 + 4 + 4 ≤ 4936; omega) (by show 0 + 0 + 24 + 24 ≤ 29616; omega) ?_
    refine am_iload (j := 0) d_LH_isActSo_32 rfl ?_
    refine aj_ne (F := am_oC2) (tgt := 41) d_LH_isActSo_34 (by decide) (fun c => ?_) (fun c => ?_)
    · have h := h.2 c
      refine am_iconst (v := (0 : Int32)) d_LH_isActSo_41 (by decide) ?_
      exact am_iret d_LH_isActSo_42 rfl (am_bool (Or.inl rfl)).1 (by show 0 + 0 + 4 + 4 ≤ 4936; omega) (by show 0 + 0 + 24 + 24 ≤ 29616; omega) am_oC2_ok
    · have h := h.1 c
      refine am_iconst (v := (1 : Int32)) d_LH_isActSo_37 (by decide) ?_
      refine am_goto (tgt := 42) d_LH_isActSo_38 (by decide) ?_
      exact am_iret d_LH_isActSo_42 rfl (am_bool (Or.inr rfl)).1 (by show 0 + 0 + 4 + 4 ≤ 4936; omega) (by show 0 + 0 + 24 + 24 ≤ 29616; omega) am_oC2_ok
theorem ct_LH_isActSo {l : Launch} {g : am_Gl} (hg : g.2.2.2.1 = true) {s : am_M} {t : am_M} {x2 : Int32} (h : p_LH_isActSo s t x2) : AC l g m_LH_isActSo 414 (jn s t) [.ref 0, .ref 207, .int x2] (am_oC2 (f_LH_isActSo s t x2)) := am_enter ok_LH_isActSo rfl (Nat.le_of_ble_eq_true rfl) rfl (fun ad0 => w_LH_isActSo hg h)
theorem cw_LH_isLostSo_4 : am_cs m_LH_isLostSo m_LH_low 156 2 := ⟨⟨ok_LH_low, rfl, by decide +kernel, by decide, by decide⟩, aw_1_186, aw_1_187⟩
theorem cw_LH_isLostSo_19 : am_sh9 m_LH_isLostSo m_LH_sets 163 8 := ⟨ok_LH_sets, ⟨_, rfl⟩, by decide +kernel, by decide, by decide, aw_3_221, aw_3_222⟩
theorem cw_LH_isLostSo_33 : am_sh9 m_LH_isLostSo m_LH_sets 163 8 := ⟨ok_LH_sets, ⟨_, rfl⟩, by decide +kernel, by decide, by decide, aw_3_221, aw_3_222⟩
theorem cw_LH_isLostSo_47 : am_sh9 m_LH_isLostSo m_LH_sets 163 8 := ⟨ok_LH_sets, ⟨_, rfl⟩, by decide +kernel, by decide, by decide, aw_3_221, aw_3_222⟩
theorem cw_LH_isLostSo_98 : am_sh9 m_LH_isLostSo m_LH_sets 163 8 := ⟨ok_LH_sets, ⟨_, rfl⟩, by decide +kernel, by decide, by decide, aw_3_221, aw_3_222⟩
theorem cw_LH_isLostSo_119 : am_sh9 m_LH_isLostSo m_LH_sets 163 8 := ⟨ok_LH_sets, ⟨_, rfl⟩, by decide +kernel, by decide, by decide, aw_3_221, aw_3_222⟩
theorem cw_LH_isLostSo_155 : am_sh9 m_LH_isLostSo m_LH_sets 163 8 := ⟨ok_LH_sets, ⟨_, rfl⟩, by decide +kernel, by decide, by decide, aw_3_221, aw_3_222⟩
theorem cw_LH_isLostSo_168 : am_sh9 m_LH_isLostSo m_LH_sets 163 8 := ⟨ok_LH_sets, ⟨_, rfl⟩, by decide +kernel, by decide, by decide, aw_3_221, aw_3_222⟩
theorem cw_LH_isLostSo_186 : am_sh9 m_LH_isLostSo m_LH_sets 163 8 := ⟨ok_LH_sets, ⟨_, rfl⟩, by decide +kernel, by decide, by decide, aw_3_221, aw_3_222⟩
theorem cw_LH_isLostSo_209 : am_sh9 m_LH_isLostSo m_LH_sets 163 8 := ⟨ok_LH_sets, ⟨_, rfl⟩, by decide +kernel, by decide, by decide, aw_3_221, aw_3_222⟩
theorem cw_LH_isLostSo_229 : am_sh9 m_LH_isLostSo m_LH_sets 163 8 := ⟨ok_LH_sets, ⟨_, rfl⟩, by decide +kernel, by decide, by decide, aw_3_221, aw_3_222⟩
theorem cw_LH_isLostSo_238 : am_cv m_LH_isLostSo m_CB_reason 181 0 := ⟨⟨ok_CB_reason, rfl, by decide +kernel, by decide, by decide⟩, aw_5_83, aw_5_84, aw_5_85⟩
def f_LH_isLostSo_215  (s : am_M) (t : am_M) (x2 : Int32) (x3 : Int32) (x4 : Int32) (x5 : Int32) (x6 : Int32) (x7 : Int32) (x8 : Int32) (x9 : Int32) (x10 : Int32) : Int32 × am_M × am_M := (if x10 = 0 then (if (f_LH_sets s (12 : Int32) x2 x3 (0 : Int32) (0 : Int32) (0 : Int32) (0 : Int32)).1 = x9 then (if (f_CB_reason (f_LH_sets s (12 : Int32) x2 x3 (0 : Int32) (0 : Int32) (0 : Int32) (0 : Int32)).2) = (8 : Int32) then ((1 : Int32), (f_LH_sets s (12 : Int32) x2 x3 (0 : Int32) (0 : Int32) (0 : Int32) (0 : Int32)).2, t) else ((0 : Int32), (f_LH_sets s (12 : Int32) x2 x3 (0 : Int32) (0 : Int32) (0 : Int32) (0 : Int32)).2, t)) else ((0 : Int32), (f_LH_sets s (12 : Int32) x2 x3 (0 : Int32) (0 : Int32) (0 : Int32) (0 : Int32)).2, t)) else ((1 : Int32), s, t))
def p_LH_isLostSo_215  (s : am_M) (t : am_M) (x2 : Int32) (x3 : Int32) (x4 : Int32) (x5 : Int32) (x6 : Int32) (x7 : Int32) (x8 : Int32) (x9 : Int32) (x10 : Int32) : Prop := ((x10 = 0) → p_LH_sets s (12 : Int32) x2 x3 (0 : Int32) (0 : Int32) (0 : Int32) (0 : Int32) ∧ ((((f_LH_sets s (12 : Int32) x2 x3 (0 : Int32) (0 : Int32) (0 : Int32) (0 : Int32)).1 = x9) → (((f_CB_reason (f_LH_sets s (12 : Int32) x2 x3 (0 : Int32) (0 : Int32) (0 : Int32) (0 : Int32)).2) = (8 : Int32)) → True) ∧ (¬ ((f_CB_reason (f_LH_sets s (12 : Int32) x2 x3 (0 : Int32) (0 : Int32) (0 : Int32) (0 : Int32)).2) = (8 : Int32)) → True)) ∧ (¬ ((f_LH_sets s (12 : Int32) x2 x3 (0 : Int32) (0 : Int32) (0 : Int32) (0 : Int32)).1 = x9) → True))) ∧ (¬ (x10 = 0) → True)
set_option maxRecDepth 8000 in
theorem w_LH_isLostSo_215 {l : Launch} {g : am_Gl} (hg : g.2.2.2.1 = true) {ad0 : Nat → Nat}  {s : am_M} {t : am_M} {x2 : Int32} {x3 : Int32} {x4 : Int32} {x5 : Int32} {x6 : Int32} {x7 : Int32} {x8 : Int32} {x9 : Int32} {x10 : Int32} {k z : Nat} (hk : k ≤ 144) (hz : z ≤ 864) (h : p_LH_isLostSo_215  s t x2 x3 x4 x5 x6 x7 x8 x9 x10) : AW l g m_LH_isLostSo 414 ad0 (am_oC2 (f_LH_isLostSo_215  s t x2 x3 x4 x5 x6 x7 x8 x9 x10)) k z 414 (jn s t) 215 [(0, .ref 0), (1, .ref 207), (2, .int x2), (3, .int x3), (4, .int x4), (5, .int x5), (6, .int x6), (7, .int x7), (8, .int x8), (9, .int x9), (10, .int x10)] [] := by
  refine am_iload (j := 10) d_LH_isLostSo_215 rfl ?_
  refine ai_ne (F := am_oC2) (tgt := 246) d_LH_isLostSo_217 (by decide) (fun c => ?_) (fun c => ?_)
  · have h := h.2 c
    refine am_iconst (v := (1 : Int32)) d_LH_isLostSo_246 (by decide) ?_
    refine am_goto (tgt := 251) d_LH_isLostSo_247 (by decide) ?_
    exact am_iret d_LH_isLostSo_251 rfl (am_bool (Or.inr rfl)).1 (by show k ≤ 160; omega) (by show z ≤ 960; omega) am_oC2_ok
  · have h := h.1 c
    refine am_aload_n (j := 0) d_LH_isLostSo_220 rfl rfl ?_
    refine am_bipush (v := (12 : Int32)) d_LH_isLostSo_221 (by decide) ?_
    refine am_iload_n (j := 2) d_LH_isLostSo_223 rfl rfl ?_
    refine am_iload_n (j := 3) d_LH_isLostSo_224 rfl rfl ?_
    refine am_iconst (v := (0 : Int32)) d_LH_isLostSo_225 (by decide) ?_
    refine am_iconst (v := (0 : Int32)) d_LH_isLostSo_226 (by decide) ?_
    refine am_iconst (v := (0 : Int32)) d_LH_isLostSo_227 (by decide) ?_
    refine am_iconst (v := (0 : Int32)) d_LH_isLostSo_228 (by decide) ?_
    obtain ⟨hc, h⟩ := h
    refine ak9_SX (as := [.ref 0, .int (12 : Int32), .int x2, .int x3, .int (0 : Int32), .int (0 : Int32), .int (0 : Int32), .int (0 : Int32)]) (rest := []) d_LH_isLostSo_229 cw_LH_isLostSo_229 rfl (am_2O hg rfl (fun _ => am_1C (ct_LH_sets hg hc))) rfl rfl (Nat.le_of_ble_eq_true rfl) (by show k + 16 ≤ 160; omega) (by show z + 96 ≤ 960; omega) ?_
    refine am_iload (j := 9) d_LH_isLostSo_232 rfl ?_
    refine aj_ne (F := am_oC2) (tgt := 250) d_LH_isLostSo_234 (by decide) (fun c => ?_) (fun c => ?_)
    · have h := h.2 c
      refine am_iconst (v := (0 : Int32)) d_LH_isLostSo_250 (by decide) ?_
      exact am_iret d_LH_isLostSo_251 rfl (am_bool (Or.inl rfl)).1 (by show k + 16 ≤ 160; omega) (by show z + 96 ≤ 960; omega) am_oC2_ok
    · have h := h.1 c
      refine am_aload_n (j := 0) d_LH_isLostSo_237 rfl rfl ?_
      refine ak9_V (as := []) (rest := []) d_LH_isLostSo_238 cw_LH_isLostSo_238 rfl (am_2O hg rfl (fun _ => am_1I (ct_CB_reason hg))) rfl rfl rc_1 (Nat.le_of_ble_eq_true rfl) (by show k + 16 + 0 ≤ 160; omega) (by show z + 96 + 0 ≤ 960; omega) ?_
      refine am_bipush (v := (8 : Int32)) d_LH_isLostSo_241 (by decide) ?_
      refine aj_ne (F := am_oC2) (tgt := 250) d_LH_isLostSo_243 (by decide) (fun c => ?_) (fun c => ?_)
      · have h := h.2 c
        refine am_iconst (v := (0 : Int32)) d_LH_isLostSo_250 (by decide) ?_
        exact am_iret d_LH_isLostSo_251 rfl (am_bool (Or.inl rfl)).1 (by show k + 16 + 0 ≤ 160; omega) (by show z + 96 + 0 ≤ 960; omega) am_oC2_ok
      · have h := h.1 c
        refine am_iconst (v := (1 : Int32)) d_LH_isLostSo_246 (by decide) ?_
        refine am_goto (tgt := 251) d_LH_isLostSo_247 (by decide) ?_
        exact am_iret d_LH_isLostSo_251 rfl (am_bool (Or.inr rfl)).1 (by show k + 16 + 0 ≤ 160; omega) (by show z + 96 + 0 ≤ 960; omega) am_oC2_ok
def f_LH_isLostSo_132  (s : am_M) (t : am_M) (x2 : Int32) (x3 : Int32) (x4 : Int32) (x5 : Int32) (x6 : Int32) (x7 : Int32) (y0 : Int32) : Int32 × am_M × am_M := (if ((x4 >>> ((5 : Int32) &&& 31)) &&& (3 : Int32)) ≤ 0 then (if y0 = 0 then ((0 : Int32), (f_LH_sets (f_LH_sets s (12 : Int32) x2 x3 (0 : Int32) (0 : Int32) (0 : Int32) (0 : Int32)).2 (5 : Int32) x2 x3 (0 : Int32) (0 : Int32) (0 : Int32) (0 : Int32)).2, t) else (if (f_LH_sets t (5 : Int32) x2 x3 (0 : Int32) (0 : Int32) (0 : Int32) (0 : Int32)).1 = (f_LH_sets (f_LH_sets s (12 : Int32) x2 x3 (0 : Int32) (0 : Int32) (0 : Int32) (0 : Int32)).2 (5 : Int32) x2 x3 (0 : Int32) (0 : Int32) (0 : Int32) (0 : Int32)).1 then (if (f_LH_sets (f_LH_sets s (12 : Int32) x2 x3 (0 : Int32) (0 : Int32) (0 : Int32) (0 : Int32)).2 (5 : Int32) x2 x3 (0 : Int32) (0 : Int32) (0 : Int32) (0 : Int32)).1 = (1 : Int32) then (if (f_LH_sets (f_LH_sets (f_LH_sets s (12 : Int32) x2 x3 (0 : Int32) (0 : Int32) (0 : Int32) (0 : Int32)).2 (5 : Int32) x2 x3 (0 : Int32) (0 : Int32) (0 : Int32) (0 : Int32)).2 (12 : Int32) x2 x3 (0 : Int32) (0 : Int32) (0 : Int32) (0 : Int32)).1 = 0 then (f_LH_isLostSo_215 (f_LH_sets (f_LH_sets (f_LH_sets s (12 : Int32) x2 x3 (0 : Int32) (0 : Int32) (0 : Int32) (0 : Int32)).2 (5 : Int32) x2 x3 (0 : Int32) (0 : Int32) (0 : Int32) (0 : Int32)).2 (12 : Int32) x2 x3 (0 : Int32) (0 : Int32) (0 : Int32) (0 : Int32)).2 (f_LH_sets t (5 : Int32) x2 x3 (0 : Int32) (0 : Int32) (0 : Int32) (0 : Int32)).2 x2 x3 x4 x5 x6 x7 y0 (f_LH_sets s (12 : Int32) x2 x3 (0 : Int32) (0 : Int32) (0 : Int32) (0 : Int32)).1 (f_LH_sets (f_LH_sets s (12 : Int32) x2 x3 (0 : Int32) (0 : Int32) (0 : Int32) (0 : Int32)).2 (5 : Int32) x2 x3 (0 : Int32) (0 : Int32) (0 : Int32) (0 : Int32)).1) else ((0 : Int32), (f_LH_sets (f_LH_sets (f_LH_sets s (12 : Int32) x2 x3 (0 : Int32) (0 : Int32) (0 : Int32) (0 : Int32)).2 (5 : Int32) x2 x3 (0 : Int32) (0 : Int32) (0 : Int32) (0 : Int32)).2 (12 : Int32) x2 x3 (0 : Int32) (0 : Int32) (0 : Int32) (0 : Int32)).2, (f_LH_sets t (5 : Int32) x2 x3 (0 : Int32) (0 : Int32) (0 : Int32) (0 : Int32)).2)) else (f_LH_isLostSo_215 (f_LH_sets (f_LH_sets s (12 : Int32) x2 x3 (0 : Int32) (0 : Int32) (0 : Int32) (0 : Int32)).2 (5 : Int32) x2 x3 (0 : Int32) (0 : Int32) (0 : Int32) (0 : Int32)).2 (f_LH_sets t (5 : Int32) x2 x3 (0 : Int32) (0 : Int32) (0 : Int32) (0 : Int32)).2 x2 x3 x4 x5 x6 x7 y0 (f_LH_sets s (12 : Int32) x2 x3 (0 : Int32) (0 : Int32) (0 : Int32) (0 : Int32)).1 (f_LH_sets (f_LH_sets s (12 : Int32) x2 x3 (0 : Int32) (0 : Int32) (0 : Int32) (0 : Int32)).2 (5 : Int32) x2 x3 (0 : Int32) (0 : Int32) (0 : Int32) (0 : Int32)).1)) else ((0 : Int32), (f_LH_sets (f_LH_sets s (12 : Int32) x2 x3 (0 : Int32) (0 : Int32) (0 : Int32) (0 : Int32)).2 (5 : Int32) x2 x3 (0 : Int32) (0 : Int32) (0 : Int32) (0 : Int32)).2, (f_LH_sets t (5 : Int32) x2 x3 (0 : Int32) (0 : Int32) (0 : Int32) (0 : Int32)).2))) else (y0, s, t))
def p_LH_isLostSo_132  (s : am_M) (t : am_M) (x2 : Int32) (x3 : Int32) (x4 : Int32) (x5 : Int32) (x6 : Int32) (x7 : Int32) (y0 : Int32) : Prop := ((((x4 >>> ((5 : Int32) &&& 31)) &&& (3 : Int32)) ≤ 0) → p_LH_sets s (12 : Int32) x2 x3 (0 : Int32) (0 : Int32) (0 : Int32) (0 : Int32) ∧ (p_LH_sets (f_LH_sets s (12 : Int32) x2 x3 (0 : Int32) (0 : Int32) (0 : Int32) (0 : Int32)).2 (5 : Int32) x2 x3 (0 : Int32) (0 : Int32) (0 : Int32) (0 : Int32) ∧ (((y0 = 0) → True) ∧ (¬ (y0 = 0) → p_LH_sets t (5 : Int32) x2 x3 (0 : Int32) (0 : Int32) (0 : Int32) (0 : Int32) ∧ ((((f_LH_sets t (5 : Int32) x2 x3 (0 : Int32) (0 : Int32) (0 : Int32) (0 : Int32)).1 = (f_LH_sets (f_LH_sets s (12 : Int32) x2 x3 (0 : Int32) (0 : Int32) (0 : Int32) (0 : Int32)).2 (5 : Int32) x2 x3 (0 : Int32) (0 : Int32) (0 : Int32) (0 : Int32)).1) → (((f_LH_sets (f_LH_sets s (12 : Int32) x2 x3 (0 : Int32) (0 : Int32) (0 : Int32) (0 : Int32)).2 (5 : Int32) x2 x3 (0 : Int32) (0 : Int32) (0 : Int32) (0 : Int32)).1 = (1 : Int32)) → p_LH_sets (f_LH_sets (f_LH_sets s (12 : Int32) x2 x3 (0 : Int32) (0 : Int32) (0 : Int32) (0 : Int32)).2 (5 : Int32) x2 x3 (0 : Int32) (0 : Int32) (0 : Int32) (0 : Int32)).2 (12 : Int32) x2 x3 (0 : Int32) (0 : Int32) (0 : Int32) (0 : Int32) ∧ ((((f_LH_sets (f_LH_sets (f_LH_sets s (12 : Int32) x2 x3 (0 : Int32) (0 : Int32) (0 : Int32) (0 : Int32)).2 (5 : Int32) x2 x3 (0 : Int32) (0 : Int32) (0 : Int32) (0 : Int32)).2 (12 : Int32) x2 x3 (0 : Int32) (0 : Int32) (0 : Int32) (0 : Int32)).1 = 0) → (p_LH_isLostSo_215 (f_LH_sets (f_LH_sets (f_LH_sets s (12 : Int32) x2 x3 (0 : Int32) (0 : Int32) (0 : Int32) (0 : Int32)).2 (5 : Int32) x2 x3 (0 : Int32) (0 : Int32) (0 : Int32) (0 : Int32)).2 (12 : Int32) x2 x3 (0 : Int32) (0 : Int32) (0 : Int32) (0 : Int32)).2 (f_LH_sets t (5 : Int32) x2 x3 (0 : Int32) (0 : Int32) (0 : Int32) (0 : Int32)).2 x2 x3 x4 x5 x6 x7 y0 (f_LH_sets s (12 : Int32) x2 x3 (0 : Int32) (0 : Int32) (0 : Int32) (0 : Int32)).1 (f_LH_sets (f_LH_sets s (12 : Int32) x2 x3 (0 : Int32) (0 : Int32) (0 : Int32) (0 : Int32)).2 (5 : Int32) x2 x3 (0 : Int32) (0 : Int32) (0 : Int32) (0 : Int32)).1)) ∧ (¬ ((f_LH_sets (f_LH_sets (f_LH_sets s (12 : Int32) x2 x3 (0 : Int32) (0 : Int32) (0 : Int32) (0 : Int32)).2 (5 : Int32) x2 x3 (0 : Int32) (0 : Int32) (0 : Int32) (0 : Int32)).2 (12 : Int32) x2 x3 (0 : Int32) (0 : Int32) (0 : Int32) (0 : Int32)).1 = 0) → True))) ∧ (¬ ((f_LH_sets (f_LH_sets s (12 : Int32) x2 x3 (0 : Int32) (0 : Int32) (0 : Int32) (0 : Int32)).2 (5 : Int32) x2 x3 (0 : Int32) (0 : Int32) (0 : Int32) (0 : Int32)).1 = (1 : Int32)) → (p_LH_isLostSo_215 (f_LH_sets (f_LH_sets s (12 : Int32) x2 x3 (0 : Int32) (0 : Int32) (0 : Int32) (0 : Int32)).2 (5 : Int32) x2 x3 (0 : Int32) (0 : Int32) (0 : Int32) (0 : Int32)).2 (f_LH_sets t (5 : Int32) x2 x3 (0 : Int32) (0 : Int32) (0 : Int32) (0 : Int32)).2 x2 x3 x4 x5 x6 x7 y0 (f_LH_sets s (12 : Int32) x2 x3 (0 : Int32) (0 : Int32) (0 : Int32) (0 : Int32)).1 (f_LH_sets (f_LH_sets s (12 : Int32) x2 x3 (0 : Int32) (0 : Int32) (0 : Int32) (0 : Int32)).2 (5 : Int32) x2 x3 (0 : Int32) (0 : Int32) (0 : Int32) (0 : Int32)).1))) ∧ (¬ ((f_LH_sets t (5 : Int32) x2 x3 (0 : Int32) (0 : Int32) (0 : Int32) (0 : Int32)).1 = (f_LH_sets (f_LH_sets s (12 : Int32) x2 x3 (0 : Int32) (0 : Int32) (0 : Int32) (0 : Int32)).2 (5 : Int32) x2 x3 (0 : Int32) (0 : Int32) (0 : Int32) (0 : Int32)).1) → True)))))) ∧ (¬ (((x4 >>> ((5 : Int32) &&& 31)) &&& (3 : Int32)) ≤ 0) → (y0 = 0 ∨ y0 = 1) ∧ (True))
set_option maxRecDepth 8000 in
theorem w_LH_isLostSo_132 {l : Launch} {g : am_Gl} (hg : g.2.2.2.1 = true) {ad0 : Nat → Nat}  {s : am_M} {t : am_M} {x2 : Int32} {x3 : Int32} {x4 : Int32} {x5 : Int32} {x6 : Int32} {x7 : Int32} {y0 : Int32} {k z : Nat} (hk : k ≤ 80) (hz : z ≤ 480) (h : p_LH_isLostSo_132  s t x2 x3 x4 x5 x6 x7 y0) : AW l g m_LH_isLostSo 414 ad0 (am_oC2 (f_LH_isLostSo_132  s t x2 x3 x4 x5 x6 x7 y0)) k z 414 (jn s t) 132 [(0, .ref 0), (1, .ref 207), (2, .int x2), (3, .int x3), (4, .int x4), (5, .int x5), (6, .int x6), (7, .int x7)] [.int y0] := by
  refine am_istore (lv2 := [(8, .int y0), (0, .ref 0), (1, .ref 207), (2, .int x2), (3, .int x3), (4, .int x4), (5, .int x5), (6, .int x6), (7, .int x7)]) d_LH_isLostSo_132 (by decide) rfl ?_
  refine am_iload (j := 5) d_LH_isLostSo_134 rfl ?_
  refine am_iconst (v := (5 : Int32)) d_LH_isLostSo_136 (by decide) ?_
  refine am_ishr d_LH_isLostSo_137 ?_
  refine am_iconst (v := (3 : Int32)) d_LH_isLostSo_138 (by decide) ?_
  refine am_iand d_LH_isLostSo_139 ?_
  refine ai_le (F := am_oC2) (tgt := 146) d_LH_isLostSo_140 (by decide) (fun c => ?_) (fun c => ?_)
  · have h := h.1 c
    refine am_aload_n (j := 1) d_LH_isLostSo_146 rfl rfl ?_
    refine am_bipush (v := (12 : Int32)) d_LH_isLostSo_147 (by decide) ?_
    refine am_iload_n (j := 3) d_LH_isLostSo_149 rfl rfl ?_
    refine am_iload_n (j := 4) d_LH_isLostSo_150 rfl rfl ?_
    refine am_iconst (v := (0 : Int32)) d_LH_isLostSo_151 (by decide) ?_
    refine am_iconst (v := (0 : Int32)) d_LH_isLostSo_152 (by decide) ?_
    refine am_iconst (v := (0 : Int32)) d_LH_isLostSo_153 (by decide) ?_
    refine am_iconst (v := (0 : Int32)) d_LH_isLostSo_154 (by decide) ?_
    obtain ⟨hc, h⟩ := h
    refine ak9_SX (as := [.ref 0, .int (12 : Int32), .int x2, .int x3, .int (0 : Int32), .int (0 : Int32), .int (0 : Int32), .int (0 : Int32)]) (rest := []) d_LH_isLostSo_155 cw_LH_isLostSo_155 rfl (am_2O hg rfl (fun _ => am_1C (ct_LH_sets hg hc))) rfl rfl (Nat.le_of_ble_eq_true rfl) (by show k + 16 ≤ 160; omega) (by show z + 96 ≤ 960; omega) ?_
    refine am_istore (lv2 := [(9, .int (f_LH_sets s (12 : Int32) x2 x3 (0 : Int32) (0 : Int32) (0 : Int32) (0 : Int32)).1), (8, .int y0), (0, .ref 0), (1, .ref 207), (2, .int x2), (3, .int x3), (4, .int x4), (5, .int x5), (6, .int x6), (7, .int x7)]) d_LH_isLostSo_158 (by decide) rfl ?_
    refine am_aload_n (j := 2) d_LH_isLostSo_160 rfl rfl ?_
    refine am_iconst (v := (5 : Int32)) d_LH_isLostSo_161 (by decide) ?_
    refine am_iload_n (j := 4) d_LH_isLostSo_162 rfl rfl ?_
    refine am_iload_n (j := 5) d_LH_isLostSo_163 rfl rfl ?_
    refine am_iconst (v := (0 : Int32)) d_LH_isLostSo_164 (by decide) ?_
    refine am_iconst (v := (0 : Int32)) d_LH_isLostSo_165 (by decide) ?_
    refine am_iconst (v := (0 : Int32)) d_LH_isLostSo_166 (by decide) ?_
    refine am_iconst (v := (0 : Int32)) d_LH_isLostSo_167 (by decide) ?_
    obtain ⟨hc, h⟩ := h
    refine ak9_SX (as := [.ref 0, .int (5 : Int32), .int x2, .int x3, .int (0 : Int32), .int (0 : Int32), .int (0 : Int32), .int (0 : Int32)]) (rest := []) d_LH_isLostSo_168 cw_LH_isLostSo_168 rfl (am_2O hg rfl (fun _ => am_1C (ct_LH_sets hg hc))) rfl rfl (Nat.le_of_ble_eq_true rfl) (by show k + 16 + 16 ≤ 160; omega) (by show z + 96 + 96 ≤ 960; omega) ?_
    refine am_istore (lv2 := [(10, .int (f_LH_sets (f_LH_sets s (12 : Int32) x2 x3 (0 : Int32) (0 : Int32) (0 : Int32) (0 : Int32)).2 (5 : Int32) x2 x3 (0 : Int32) (0 : Int32) (0 : Int32) (0 : Int32)).1), (9, .int (f_LH_sets s (12 : Int32) x2 x3 (0 : Int32) (0 : Int32) (0 : Int32) (0 : Int32)).1), (8, .int y0), (0, .ref 0), (1, .ref 207), (2, .int x2), (3, .int x3), (4, .int x4), (5, .int x5), (6, .int x6), (7, .int x7)]) d_LH_isLostSo_171 (by decide) rfl ?_
    refine am_iload (j := 2) d_LH_isLostSo_173 rfl ?_
    refine ai_eq (F := am_oC2) (tgt := 250) d_LH_isLostSo_175 (by decide) (fun c => ?_) (fun c => ?_)
    · have h := h.1 c
      refine am_iconst (v := (0 : Int32)) d_LH_isLostSo_250 (by decide) ?_
      exact am_iret d_LH_isLostSo_251 rfl (am_bool (Or.inl rfl)).1 (by show k + 16 + 16 ≤ 160; omega) (by show z + 96 + 96 ≤ 960; omega) am_oC2_ok
    · have h := h.2 c
      refine am_aload_n (j := 4) d_LH_isLostSo_178 rfl rfl ?_
      refine am_iconst (v := (5 : Int32)) d_LH_isLostSo_179 (by decide) ?_
      refine am_iload_n (j := 5) d_LH_isLostSo_180 rfl rfl ?_
      refine am_iload_n (j := 6) d_LH_isLostSo_181 rfl rfl ?_
      refine am_iconst (v := (0 : Int32)) d_LH_isLostSo_182 (by decide) ?_
      refine am_iconst (v := (0 : Int32)) d_LH_isLostSo_183 (by decide) ?_
      refine am_iconst (v := (0 : Int32)) d_LH_isLostSo_184 (by decide) ?_
      refine am_iconst (v := (0 : Int32)) d_LH_isLostSo_185 (by decide) ?_
      obtain ⟨hc, h⟩ := h
      refine ak9_SX (as := [.ref 207, .int (5 : Int32), .int x2, .int x3, .int (0 : Int32), .int (0 : Int32), .int (0 : Int32), .int (0 : Int32)]) (rest := []) d_LH_isLostSo_186 cw_LH_isLostSo_186 rfl (am_2P (av1 := [.ref 0, .int (5 : Int32), .int x2, .int x3, .int (0 : Int32), .int (0 : Int32), .int (0 : Int32), .int (0 : Int32)]) hg rfl (fun _ => rfl) (fun _ => am_1C (ct_LH_sets hg hc))) rfl rfl (Nat.le_of_ble_eq_true rfl) (by show k + 16 + 16 + 16 ≤ 160; omega) (by show z + 96 + 96 + 96 ≤ 960; omega) ?_
      refine am_iload (j := 0) d_LH_isLostSo_189 rfl ?_
      refine aj_ne (F := am_oC2) (tgt := 250) d_LH_isLostSo_191 (by decide) (fun c => ?_) (fun c => ?_)
      · have h := h.2 c
        refine am_iconst (v := (0 : Int32)) d_LH_isLostSo_250 (by decide) ?_
        exact am_iret d_LH_isLostSo_251 rfl (am_bool (Or.inl rfl)).1 (by show k + 16 + 16 + 16 ≤ 160; omega) (by show z + 96 + 96 + 96 ≤ 960; omega) am_oC2_ok
      · have h := h.1 c
        refine am_iload (j := 0) d_LH_isLostSo_194 rfl ?_
        refine am_iconst (v := (1 : Int32)) d_LH_isLostSo_196 (by decide) ?_
        refine aj_ne (F := am_oC2) (tgt := 215) d_LH_isLostSo_197 (by decide) (fun c => ?_) (fun c => ?_)
        · have h := h.2 c
          refine am_sub [3, 4, 5, 6, 7, 8, 9, 10, 2, 1, 0] (lv2 := [(0, .ref 0), (1, .ref 207), (2, .int x2), (3, .int x3), (4, .int x4), (5, .int x5), (6, .int x6), (7, .int x7), (8, .int y0), (9, .int (f_LH_sets s (12 : Int32) x2 x3 (0 : Int32) (0 : Int32) (0 : Int32) (0 : Int32)).1), (10, .int (f_LH_sets (f_LH_sets s (12 : Int32) x2 x3 (0 : Int32) (0 : Int32) (0 : Int32) (0 : Int32)).2 (5 : Int32) x2 x3 (0 : Int32) (0 : Int32) (0 : Int32) (0 : Int32)).1)]) rfl ?_
          exact w_LH_isLostSo_215 hg  (by show k + 16 + 16 + 16 ≤ 144; omega) (by show z + 96 + 96 + 96 ≤ 864; omega) h
        · have h := h.1 c
          refine am_aload_n (j := 3) d_LH_isLostSo_200 rfl rfl ?_
          refine am_bipush (v := (12 : Int32)) d_LH_isLostSo_201 (by decide) ?_
          refine am_iload_n (j := 5) d_LH_isLostSo_203 rfl rfl ?_
          refine am_iload_n (j := 6) d_LH_isLostSo_204 rfl rfl ?_
          refine am_iconst (v := (0 : Int32)) d_LH_isLostSo_205 (by decide) ?_
          refine am_iconst (v := (0 : Int32)) d_LH_isLostSo_206 (by decide) ?_
          refine am_iconst (v := (0 : Int32)) d_LH_isLostSo_207 (by decide) ?_
          refine am_iconst (v := (0 : Int32)) d_LH_isLostSo_208 (by decide) ?_
          obtain ⟨hc, h⟩ := h
          refine ak9_SX (as := [.ref 0, .int (12 : Int32), .int x2, .int x3, .int (0 : Int32), .int (0 : Int32), .int (0 : Int32), .int (0 : Int32)]) (rest := []) d_LH_isLostSo_209 cw_LH_isLostSo_209 rfl (am_2O hg rfl (fun _ => am_1C (ct_LH_sets hg hc))) rfl rfl (Nat.le_of_ble_eq_true rfl) (by show k + 16 + 16 + 16 + 16 ≤ 160; omega) (by show z + 96 + 96 + 96 + 96 ≤ 960; omega) ?_
          refine ai_ne (F := am_oC2) (tgt := 250) d_LH_isLostSo_212 (by decide) (fun c => ?_) (fun c => ?_)
          · have h := h.2 c
            refine am_iconst (v := (0 : Int32)) d_LH_isLostSo_250 (by decide) ?_
            exact am_iret d_LH_isLostSo_251 rfl (am_bool (Or.inl rfl)).1 (by show k + 16 + 16 + 16 + 16 ≤ 160; omega) (by show z + 96 + 96 + 96 + 96 ≤ 960; omega) am_oC2_ok
          · have h := h.1 c
            refine am_sub [3, 4, 5, 6, 7, 8, 9, 10, 2, 1, 0] (lv2 := [(0, .ref 0), (1, .ref 207), (2, .int x2), (3, .int x3), (4, .int x4), (5, .int x5), (6, .int x6), (7, .int x7), (8, .int y0), (9, .int (f_LH_sets s (12 : Int32) x2 x3 (0 : Int32) (0 : Int32) (0 : Int32) (0 : Int32)).1), (10, .int (f_LH_sets (f_LH_sets s (12 : Int32) x2 x3 (0 : Int32) (0 : Int32) (0 : Int32) (0 : Int32)).2 (5 : Int32) x2 x3 (0 : Int32) (0 : Int32) (0 : Int32) (0 : Int32)).1)]) rfl ?_
            exact w_LH_isLostSo_215 hg  (by show k + 16 + 16 + 16 + 16 ≤ 144; omega) (by show z + 96 + 96 + 96 + 96 ≤ 864; omega) h
  · have h := h.2 c
    refine am_iload (j := 0) d_LH_isLostSo_143 rfl ?_
    obtain ⟨hz, h⟩ := h
    exact am_iret d_LH_isLostSo_145 rfl (am_bool hz).1 (by show k ≤ 160; omega) (by show z ≤ 960; omega) am_oC2_ok
def f_LH_isLostSo_127  (s : am_M) (t : am_M) (x2 : Int32) (x3 : Int32) (x4 : Int32) (x5 : Int32) (x6 : Int32) (x7 : Int32) : Int32 × am_M × am_M := (f_LH_isLostSo_132 s t x2 x3 x4 x5 x6 x7 (1 : Int32))
def p_LH_isLostSo_127  (s : am_M) (t : am_M) (x2 : Int32) (x3 : Int32) (x4 : Int32) (x5 : Int32) (x6 : Int32) (x7 : Int32) : Prop := (p_LH_isLostSo_132 s t x2 x3 x4 x5 x6 x7 (1 : Int32))
set_option maxRecDepth 8000 in
theorem w_LH_isLostSo_127 {l : Launch} {g : am_Gl} (hg : g.2.2.2.1 = true) {ad0 : Nat → Nat}  {s : am_M} {t : am_M} {x2 : Int32} {x3 : Int32} {x4 : Int32} {x5 : Int32} {x6 : Int32} {x7 : Int32} {k z : Nat} (hk : k ≤ 80) (hz : z ≤ 480) (h : p_LH_isLostSo_127  s t x2 x3 x4 x5 x6 x7) : AW l g m_LH_isLostSo 414 ad0 (am_oC2 (f_LH_isLostSo_127  s t x2 x3 x4 x5 x6 x7)) k z 414 (jn s t) 127 [(0, .ref 0), (1, .ref 207), (2, .int x2), (3, .int x3), (4, .int x4), (5, .int x5), (6, .int x6), (7, .int x7)] [] := by
  refine am_iconst (v := (1 : Int32)) d_LH_isLostSo_127 (by decide) ?_
  refine am_goto (tgt := 132) d_LH_isLostSo_128 (by decide) ?_
  exact w_LH_isLostSo_132 hg  (by show k ≤ 80; omega) (by show z ≤ 480; omega) h
def f_LH_isLostSo_131  (s : am_M) (t : am_M) (x2 : Int32) (x3 : Int32) (x4 : Int32) (x5 : Int32) (x6 : Int32) (x7 : Int32) : Int32 × am_M × am_M := (f_LH_isLostSo_132 s t x2 x3 x4 x5 x6 x7 (0 : Int32))
def p_LH_isLostSo_131  (s : am_M) (t : am_M) (x2 : Int32) (x3 : Int32) (x4 : Int32) (x5 : Int32) (x6 : Int32) (x7 : Int32) : Prop := (p_LH_isLostSo_132 s t x2 x3 x4 x5 x6 x7 (0 : Int32))
set_option maxRecDepth 8000 in
theorem w_LH_isLostSo_131 {l : Launch} {g : am_Gl} (hg : g.2.2.2.1 = true) {ad0 : Nat → Nat}  {s : am_M} {t : am_M} {x2 : Int32} {x3 : Int32} {x4 : Int32} {x5 : Int32} {x6 : Int32} {x7 : Int32} {k z : Nat} (hk : k ≤ 80) (hz : z ≤ 480) (h : p_LH_isLostSo_131  s t x2 x3 x4 x5 x6 x7) : AW l g m_LH_isLostSo 414 ad0 (am_oC2 (f_LH_isLostSo_131  s t x2 x3 x4 x5 x6 x7)) k z 414 (jn s t) 131 [(0, .ref 0), (1, .ref 207), (2, .int x2), (3, .int x3), (4, .int x4), (5, .int x5), (6, .int x6), (7, .int x7)] [] := by
  refine am_iconst (v := (0 : Int32)) d_LH_isLostSo_131 (by decide) ?_
  exact w_LH_isLostSo_132 hg  (by show k ≤ 80; omega) (by show z ≤ 480; omega) h
def f_LH_isLostSo_104  (s : am_M) (t : am_M) (x2 : Int32) (x3 : Int32) (x4 : Int32) (x5 : Int32) (x6 : Int32) (x7 : Int32) : Int32 × am_M × am_M := (if x7 = 0 then (if (f_LH_sets s (11 : Int32) x2 x3 (-1 : Int32) x5 (0 : Int32) (0 : Int32)).1 = x6 then (f_LH_isLostSo_127 (f_LH_sets s (11 : Int32) x2 x3 (-1 : Int32) x5 (0 : Int32) (0 : Int32)).2 t x2 x3 x4 x5 x6 x7) else (f_LH_isLostSo_131 (f_LH_sets s (11 : Int32) x2 x3 (-1 : Int32) x5 (0 : Int32) (0 : Int32)).2 t x2 x3 x4 x5 x6 x7)) else (f_LH_isLostSo_127 s t x2 x3 x4 x5 x6 x7))
def p_LH_isLostSo_104  (s : am_M) (t : am_M) (x2 : Int32) (x3 : Int32) (x4 : Int32) (x5 : Int32) (x6 : Int32) (x7 : Int32) : Prop := ((x7 = 0) → p_LH_sets s (11 : Int32) x2 x3 (-1 : Int32) x5 (0 : Int32) (0 : Int32) ∧ ((((f_LH_sets s (11 : Int32) x2 x3 (-1 : Int32) x5 (0 : Int32) (0 : Int32)).1 = x6) → (p_LH_isLostSo_127 (f_LH_sets s (11 : Int32) x2 x3 (-1 : Int32) x5 (0 : Int32) (0 : Int32)).2 t x2 x3 x4 x5 x6 x7)) ∧ (¬ ((f_LH_sets s (11 : Int32) x2 x3 (-1 : Int32) x5 (0 : Int32) (0 : Int32)).1 = x6) → (p_LH_isLostSo_131 (f_LH_sets s (11 : Int32) x2 x3 (-1 : Int32) x5 (0 : Int32) (0 : Int32)).2 t x2 x3 x4 x5 x6 x7)))) ∧ (¬ (x7 = 0) → (p_LH_isLostSo_127 s t x2 x3 x4 x5 x6 x7))
set_option maxRecDepth 8000 in
theorem w_LH_isLostSo_104 {l : Launch} {g : am_Gl} (hg : g.2.2.2.1 = true) {ad0 : Nat → Nat}  {s : am_M} {t : am_M} {x2 : Int32} {x3 : Int32} {x4 : Int32} {x5 : Int32} {x6 : Int32} {x7 : Int32} {k z : Nat} (hk : k ≤ 64) (hz : z ≤ 384) (h : p_LH_isLostSo_104  s t x2 x3 x4 x5 x6 x7) : AW l g m_LH_isLostSo 414 ad0 (am_oC2 (f_LH_isLostSo_104  s t x2 x3 x4 x5 x6 x7)) k z 414 (jn s t) 104 [(0, .ref 0), (1, .ref 207), (2, .int x2), (3, .int x3), (4, .int x4), (5, .int x5), (6, .int x6), (7, .int x7)] [] := by
  refine am_iload (j := 7) d_LH_isLostSo_104 rfl ?_
  refine ai_ne (F := am_oC2) (tgt := 127) d_LH_isLostSo_106 (by decide) (fun c => ?_) (fun c => ?_)
  · have h := h.2 c
    exact w_LH_isLostSo_127 hg  (by show k ≤ 80; omega) (by show z ≤ 480; omega) h
  · have h := h.1 c
    refine am_aload_n (j := 0) d_LH_isLostSo_109 rfl rfl ?_
    refine am_bipush (v := (11 : Int32)) d_LH_isLostSo_110 (by decide) ?_
    refine am_iload_n (j := 2) d_LH_isLostSo_112 rfl rfl ?_
    refine am_iload_n (j := 3) d_LH_isLostSo_113 rfl rfl ?_
    refine am_iconst (v := (-1 : Int32)) d_LH_isLostSo_114 (by decide) ?_
    refine am_iload (j := 5) d_LH_isLostSo_115 rfl ?_
    refine am_iconst (v := (0 : Int32)) d_LH_isLostSo_117 (by decide) ?_
    refine am_iconst (v := (0 : Int32)) d_LH_isLostSo_118 (by decide) ?_
    obtain ⟨hc, h⟩ := h
    refine ak9_SX (as := [.ref 0, .int (11 : Int32), .int x2, .int x3, .int (-1 : Int32), .int x5, .int (0 : Int32), .int (0 : Int32)]) (rest := []) d_LH_isLostSo_119 cw_LH_isLostSo_119 rfl (am_2O hg rfl (fun _ => am_1C (ct_LH_sets hg hc))) rfl rfl (Nat.le_of_ble_eq_true rfl) (by show k + 16 ≤ 160; omega) (by show z + 96 ≤ 960; omega) ?_
    refine am_iload (j := 6) d_LH_isLostSo_122 rfl ?_
    refine aj_ne (F := am_oC2) (tgt := 131) d_LH_isLostSo_124 (by decide) (fun c => ?_) (fun c => ?_)
    · have h := h.2 c
      exact w_LH_isLostSo_131 hg  (by show k + 16 ≤ 80; omega) (by show z + 96 ≤ 480; omega) h
    · have h := h.1 c
      exact w_LH_isLostSo_127 hg  (by show k + 16 ≤ 80; omega) (by show z + 96 ≤ 480; omega) h
def f_LH_isLostSo_79  (s : am_M) (t : am_M) (x2 : Int32) (x3 : Int32) (x4 : Int32) (x5 : Int32) (x6 : Int32) (x7 : Int32) (y0 : Int32) (y1 : Int32) : Int32 × am_M × am_M := (if y0 = y1 then (if x7 = (1 : Int32) then (if (f_LH_sets s (11 : Int32) x2 x3 (-1 : Int32) x5 (0 : Int32) (0 : Int32)).1 = 0 then (f_LH_isLostSo_104 (f_LH_sets s (11 : Int32) x2 x3 (-1 : Int32) x5 (0 : Int32) (0 : Int32)).2 t x2 x3 x4 x5 x6 x7) else (f_LH_isLostSo_131 (f_LH_sets s (11 : Int32) x2 x3 (-1 : Int32) x5 (0 : Int32) (0 : Int32)).2 t x2 x3 x4 x5 x6 x7)) else (f_LH_isLostSo_104 s t x2 x3 x4 x5 x6 x7)) else (f_LH_isLostSo_131 s t x2 x3 x4 x5 x6 x7))
def p_LH_isLostSo_79  (s : am_M) (t : am_M) (x2 : Int32) (x3 : Int32) (x4 : Int32) (x5 : Int32) (x6 : Int32) (x7 : Int32) (y0 : Int32) (y1 : Int32) : Prop := ((y0 = y1) → ((x7 = (1 : Int32)) → p_LH_sets s (11 : Int32) x2 x3 (-1 : Int32) x5 (0 : Int32) (0 : Int32) ∧ ((((f_LH_sets s (11 : Int32) x2 x3 (-1 : Int32) x5 (0 : Int32) (0 : Int32)).1 = 0) → (p_LH_isLostSo_104 (f_LH_sets s (11 : Int32) x2 x3 (-1 : Int32) x5 (0 : Int32) (0 : Int32)).2 t x2 x3 x4 x5 x6 x7)) ∧ (¬ ((f_LH_sets s (11 : Int32) x2 x3 (-1 : Int32) x5 (0 : Int32) (0 : Int32)).1 = 0) → (p_LH_isLostSo_131 (f_LH_sets s (11 : Int32) x2 x3 (-1 : Int32) x5 (0 : Int32) (0 : Int32)).2 t x2 x3 x4 x5 x6 x7)))) ∧ (¬ (x7 = (1 : Int32)) → (p_LH_isLostSo_104 s t x2 x3 x4 x5 x6 x7))) ∧ (¬ (y0 = y1) → (p_LH_isLostSo_131 s t x2 x3 x4 x5 x6 x7))
set_option maxRecDepth 8000 in
theorem w_LH_isLostSo_79 {l : Launch} {g : am_Gl} (hg : g.2.2.2.1 = true) {ad0 : Nat → Nat}  {s : am_M} {t : am_M} {x2 : Int32} {x3 : Int32} {x4 : Int32} {x5 : Int32} {x6 : Int32} {x7 : Int32} {y0 : Int32} {y1 : Int32} {k z : Nat} (hk : k ≤ 48) (hz : z ≤ 288) (h : p_LH_isLostSo_79  s t x2 x3 x4 x5 x6 x7 y0 y1) : AW l g m_LH_isLostSo 414 ad0 (am_oC2 (f_LH_isLostSo_79  s t x2 x3 x4 x5 x6 x7 y0 y1)) k z 414 (jn s t) 79 [(0, .ref 0), (1, .ref 207), (2, .int x2), (3, .int x3), (4, .int x4), (5, .int x5), (6, .int x6), (7, .int x7)] [.int y1, .int y0] := by
  refine aj_ne (F := am_oC2) (tgt := 131) d_LH_isLostSo_79 (by decide) (fun c => ?_) (fun c => ?_)
  · have h := h.2 c
    exact w_LH_isLostSo_131 hg  (by show k ≤ 80; omega) (by show z ≤ 480; omega) h
  · have h := h.1 c
    refine am_iload (j := 7) d_LH_isLostSo_82 rfl ?_
    refine am_iconst (v := (1 : Int32)) d_LH_isLostSo_84 (by decide) ?_
    refine aj_ne (F := am_oC2) (tgt := 104) d_LH_isLostSo_85 (by decide) (fun c => ?_) (fun c => ?_)
    · have h := h.2 c
      exact w_LH_isLostSo_104 hg  (by show k ≤ 64; omega) (by show z ≤ 384; omega) h
    · have h := h.1 c
      refine am_aload_n (j := 0) d_LH_isLostSo_88 rfl rfl ?_
      refine am_bipush (v := (11 : Int32)) d_LH_isLostSo_89 (by decide) ?_
      refine am_iload_n (j := 2) d_LH_isLostSo_91 rfl rfl ?_
      refine am_iload_n (j := 3) d_LH_isLostSo_92 rfl rfl ?_
      refine am_iconst (v := (-1 : Int32)) d_LH_isLostSo_93 (by decide) ?_
      refine am_iload (j := 5) d_LH_isLostSo_94 rfl ?_
      refine am_iconst (v := (0 : Int32)) d_LH_isLostSo_96 (by decide) ?_
      refine am_iconst (v := (0 : Int32)) d_LH_isLostSo_97 (by decide) ?_
      obtain ⟨hc, h⟩ := h
      refine ak9_SX (as := [.ref 0, .int (11 : Int32), .int x2, .int x3, .int (-1 : Int32), .int x5, .int (0 : Int32), .int (0 : Int32)]) (rest := []) d_LH_isLostSo_98 cw_LH_isLostSo_98 rfl (am_2O hg rfl (fun _ => am_1C (ct_LH_sets hg hc))) rfl rfl (Nat.le_of_ble_eq_true rfl) (by show k + 16 ≤ 160; omega) (by show z + 96 ≤ 960; omega) ?_
      refine ai_ne (F := am_oC2) (tgt := 131) d_LH_isLostSo_101 (by decide) (fun c => ?_) (fun c => ?_)
      · have h := h.2 c
        exact w_LH_isLostSo_131 hg  (by show k + 16 ≤ 80; omega) (by show z + 96 ≤ 480; omega) h
      · have h := h.1 c
        exact w_LH_isLostSo_104 hg  (by show k + 16 ≤ 64; omega) (by show z + 96 ≤ 384; omega) h
def f_LH_isLostSo_67  (s : am_M) (t : am_M) (x2 : Int32) (x3 : Int32) (x4 : Int32) (x5 : Int32) (x6 : Int32) (x7 : Int32) (y0 : Int32) : Int32 × am_M × am_M := (if x7 = (-9999999 : Int32) then (f_LH_isLostSo_79 s t x2 x3 x4 x5 x6 x7 y0 (1 : Int32)) else (f_LH_isLostSo_79 s t x2 x3 x4 x5 x6 x7 y0 (0 : Int32)))
def p_LH_isLostSo_67  (s : am_M) (t : am_M) (x2 : Int32) (x3 : Int32) (x4 : Int32) (x5 : Int32) (x6 : Int32) (x7 : Int32) (y0 : Int32) : Prop := ((x7 = (-9999999 : Int32)) → (p_LH_isLostSo_79 s t x2 x3 x4 x5 x6 x7 y0 (1 : Int32))) ∧ (¬ (x7 = (-9999999 : Int32)) → (p_LH_isLostSo_79 s t x2 x3 x4 x5 x6 x7 y0 (0 : Int32)))
set_option maxRecDepth 8000 in
theorem w_LH_isLostSo_67 {l : Launch} {g : am_Gl} (hg : g.2.2.2.1 = true) {ad0 : Nat → Nat}  {s : am_M} {t : am_M} {x2 : Int32} {x3 : Int32} {x4 : Int32} {x5 : Int32} {x6 : Int32} {x7 : Int32} {y0 : Int32} {k z : Nat} (hk : k ≤ 48) (hz : z ≤ 288) (h : p_LH_isLostSo_67  s t x2 x3 x4 x5 x6 x7 y0) : AW l g m_LH_isLostSo 414 ad0 (am_oC2 (f_LH_isLostSo_67  s t x2 x3 x4 x5 x6 x7 y0)) k z 414 (jn s t) 67 [(0, .ref 0), (1, .ref 207), (2, .int x2), (3, .int x3), (4, .int x4), (5, .int x5), (6, .int x6), (7, .int x7)] [.int y0] := by
  refine am_iload (j := 7) d_LH_isLostSo_67 rfl ?_
  refine am_ldc (v := (-9999999 : Int32)) d_LH_isLostSo_69 aw_3_220 ?_
  refine aj_ne (F := am_oC2) (tgt := 78) d_LH_isLostSo_71 (by decide) (fun c => ?_) (fun c => ?_)
  · have h := h.2 c
    refine am_iconst (v := (0 : Int32)) d_LH_isLostSo_78 (by decide) ?_
    exact w_LH_isLostSo_79 hg  (by show k ≤ 48; omega) (by show z ≤ 288; omega) h
  · have h := h.1 c
    refine am_iconst (v := (1 : Int32)) d_LH_isLostSo_74 (by decide) ?_
    refine am_goto (tgt := 79) d_LH_isLostSo_75 (by decide) ?_
    exact w_LH_isLostSo_79 hg  (by show k ≤ 48; omega) (by show z ≤ 288; omega) h
def f_LH_isLostSo (s : am_M) (t : am_M) (x2 : Int32) (x3 : Int32) (x4 : Int32) : Int32 × am_M × am_M := (if (f_LH_sets t (4 : Int32) x2 x3 (-1 : Int32) (f_LH_low s x4 (12 : Int32)) (0 : Int32) (0 : Int32)).1 = (f_LH_sets (f_LH_sets s (11 : Int32) x2 x3 (-1 : Int32) (f_LH_low s x4 (12 : Int32)) (0 : Int32) (0 : Int32)).2 (4 : Int32) x2 x3 (-1 : Int32) (f_LH_low s x4 (12 : Int32)) (0 : Int32) (0 : Int32)).1 then (if (f_LH_sets s (11 : Int32) x2 x3 (-1 : Int32) (f_LH_low s x4 (12 : Int32)) (0 : Int32) (0 : Int32)).1 = (-9999999 : Int32) then (f_LH_isLostSo_67 (f_LH_sets (f_LH_sets s (11 : Int32) x2 x3 (-1 : Int32) (f_LH_low s x4 (12 : Int32)) (0 : Int32) (0 : Int32)).2 (4 : Int32) x2 x3 (-1 : Int32) (f_LH_low s x4 (12 : Int32)) (0 : Int32) (0 : Int32)).2 (f_LH_sets t (4 : Int32) x2 x3 (-1 : Int32) (f_LH_low s x4 (12 : Int32)) (0 : Int32) (0 : Int32)).2 x2 x3 x4 (f_LH_low s x4 (12 : Int32)) (f_LH_sets s (11 : Int32) x2 x3 (-1 : Int32) (f_LH_low s x4 (12 : Int32)) (0 : Int32) (0 : Int32)).1 (f_LH_sets (f_LH_sets s (11 : Int32) x2 x3 (-1 : Int32) (f_LH_low s x4 (12 : Int32)) (0 : Int32) (0 : Int32)).2 (4 : Int32) x2 x3 (-1 : Int32) (f_LH_low s x4 (12 : Int32)) (0 : Int32) (0 : Int32)).1 (1 : Int32)) else (f_LH_isLostSo_67 (f_LH_sets (f_LH_sets s (11 : Int32) x2 x3 (-1 : Int32) (f_LH_low s x4 (12 : Int32)) (0 : Int32) (0 : Int32)).2 (4 : Int32) x2 x3 (-1 : Int32) (f_LH_low s x4 (12 : Int32)) (0 : Int32) (0 : Int32)).2 (f_LH_sets t (4 : Int32) x2 x3 (-1 : Int32) (f_LH_low s x4 (12 : Int32)) (0 : Int32) (0 : Int32)).2 x2 x3 x4 (f_LH_low s x4 (12 : Int32)) (f_LH_sets s (11 : Int32) x2 x3 (-1 : Int32) (f_LH_low s x4 (12 : Int32)) (0 : Int32) (0 : Int32)).1 (f_LH_sets (f_LH_sets s (11 : Int32) x2 x3 (-1 : Int32) (f_LH_low s x4 (12 : Int32)) (0 : Int32) (0 : Int32)).2 (4 : Int32) x2 x3 (-1 : Int32) (f_LH_low s x4 (12 : Int32)) (0 : Int32) (0 : Int32)).1 (0 : Int32))) else (f_LH_isLostSo_131 (f_LH_sets (f_LH_sets s (11 : Int32) x2 x3 (-1 : Int32) (f_LH_low s x4 (12 : Int32)) (0 : Int32) (0 : Int32)).2 (4 : Int32) x2 x3 (-1 : Int32) (f_LH_low s x4 (12 : Int32)) (0 : Int32) (0 : Int32)).2 (f_LH_sets t (4 : Int32) x2 x3 (-1 : Int32) (f_LH_low s x4 (12 : Int32)) (0 : Int32) (0 : Int32)).2 x2 x3 x4 (f_LH_low s x4 (12 : Int32)) (f_LH_sets s (11 : Int32) x2 x3 (-1 : Int32) (f_LH_low s x4 (12 : Int32)) (0 : Int32) (0 : Int32)).1 (f_LH_sets (f_LH_sets s (11 : Int32) x2 x3 (-1 : Int32) (f_LH_low s x4 (12 : Int32)) (0 : Int32) (0 : Int32)).2 (4 : Int32) x2 x3 (-1 : Int32) (f_LH_low s x4 (12 : Int32)) (0 : Int32) (0 : Int32)).1))
def p_LH_isLostSo (s : am_M) (t : am_M) (x2 : Int32) (x3 : Int32) (x4 : Int32) : Prop := p_LH_low s x4 (12 : Int32) ∧ (p_LH_sets s (11 : Int32) x2 x3 (-1 : Int32) (f_LH_low s x4 (12 : Int32)) (0 : Int32) (0 : Int32) ∧ (p_LH_sets (f_LH_sets s (11 : Int32) x2 x3 (-1 : Int32) (f_LH_low s x4 (12 : Int32)) (0 : Int32) (0 : Int32)).2 (4 : Int32) x2 x3 (-1 : Int32) (f_LH_low s x4 (12 : Int32)) (0 : Int32) (0 : Int32) ∧ (p_LH_sets t (4 : Int32) x2 x3 (-1 : Int32) (f_LH_low s x4 (12 : Int32)) (0 : Int32) (0 : Int32) ∧ ((((f_LH_sets t (4 : Int32) x2 x3 (-1 : Int32) (f_LH_low s x4 (12 : Int32)) (0 : Int32) (0 : Int32)).1 = (f_LH_sets (f_LH_sets s (11 : Int32) x2 x3 (-1 : Int32) (f_LH_low s x4 (12 : Int32)) (0 : Int32) (0 : Int32)).2 (4 : Int32) x2 x3 (-1 : Int32) (f_LH_low s x4 (12 : Int32)) (0 : Int32) (0 : Int32)).1) → (((f_LH_sets s (11 : Int32) x2 x3 (-1 : Int32) (f_LH_low s x4 (12 : Int32)) (0 : Int32) (0 : Int32)).1 = (-9999999 : Int32)) → (p_LH_isLostSo_67 (f_LH_sets (f_LH_sets s (11 : Int32) x2 x3 (-1 : Int32) (f_LH_low s x4 (12 : Int32)) (0 : Int32) (0 : Int32)).2 (4 : Int32) x2 x3 (-1 : Int32) (f_LH_low s x4 (12 : Int32)) (0 : Int32) (0 : Int32)).2 (f_LH_sets t (4 : Int32) x2 x3 (-1 : Int32) (f_LH_low s x4 (12 : Int32)) (0 : Int32) (0 : Int32)).2 x2 x3 x4 (f_LH_low s x4 (12 : Int32)) (f_LH_sets s (11 : Int32) x2 x3 (-1 : Int32) (f_LH_low s x4 (12 : Int32)) (0 : Int32) (0 : Int32)).1 (f_LH_sets (f_LH_sets s (11 : Int32) x2 x3 (-1 : Int32) (f_LH_low s x4 (12 : Int32)) (0 : Int32) (0 : Int32)).2 (4 : Int32) x2 x3 (-1 : Int32) (f_LH_low s x4 (12 : Int32)) (0 : Int32) (0 : Int32)).1 (1 : Int32))) ∧ (¬ ((f_LH_sets s (11 : Int32) x2 x3 (-1 : Int32) (f_LH_low s x4 (12 : Int32)) (0 : Int32) (0 : Int32)).1 = (-9999999 : Int32)) → (p_LH_isLostSo_67 (f_LH_sets (f_LH_sets s (11 : Int32) x2 x3 (-1 : Int32) (f_LH_low s x4 (12 : Int32)) (0 : Int32) (0 : Int32)).2 (4 : Int32) x2 x3 (-1 : Int32) (f_LH_low s x4 (12 : Int32)) (0 : Int32) (0 : Int32)).2 (f_LH_sets t (4 : Int32) x2 x3 (-1 : Int32) (f_LH_low s x4 (12 : Int32)) (0 : Int32) (0 : Int32)).2 x2 x3 x4 (f_LH_low s x4 (12 : Int32)) (f_LH_sets s (11 : Int32) x2 x3 (-1 : Int32) (f_LH_low s x4 (12 : Int32)) (0 : Int32) (0 : Int32)).1 (f_LH_sets (f_LH_sets s (11 : Int32) x2 x3 (-1 : Int32) (f_LH_low s x4 (12 : Int32)) (0 : Int32) (0 : Int32)).2 (4 : Int32) x2 x3 (-1 : Int32) (f_LH_low s x4 (12 : Int32)) (0 : Int32) (0 : Int32)).1 (0 : Int32)))) ∧ (¬ ((f_LH_sets t (4 : Int32) x2 x3 (-1 : Int32) (f_LH_low s x4 (12 : Int32)) (0 : Int32) (0 : Int32)).1 = (f_LH_sets (f_LH_sets s (11 : Int32) x2 x3 (-1 : Int32) (f_LH_low s x4 (12 : Int32)) (0 : Int32) (0 : Int32)).2 (4 : Int32) x2 x3 (-1 : Int32) (f_LH_low s x4 (12 : Int32)) (0 : Int32) (0 : Int32)).1) → (p_LH_isLostSo_131 (f_LH_sets (f_LH_sets s (11 : Int32) x2 x3 (-1 : Int32) (f_LH_low s x4 (12 : Int32)) (0 : Int32) (0 : Int32)).2 (4 : Int32) x2 x3 (-1 : Int32) (f_LH_low s x4 (12 : Int32)) (0 : Int32) (0 : Int32)).2 (f_LH_sets t (4 : Int32) x2 x3 (-1 : Int32) (f_LH_low s x4 (12 : Int32)) (0 : Int32) (0 : Int32)).2 x2 x3 x4 (f_LH_low s x4 (12 : Int32)) (f_LH_sets s (11 : Int32) x2 x3 (-1 : Int32) (f_LH_low s x4 (12 : Int32)) (0 : Int32) (0 : Int32)).1 (f_LH_sets (f_LH_sets s (11 : Int32) x2 x3 (-1 : Int32) (f_LH_low s x4 (12 : Int32)) (0 : Int32) (0 : Int32)).2 (4 : Int32) x2 x3 (-1 : Int32) (f_LH_low s x4 (12 : Int32)) (0 : Int32) (0 : Int32)).1))))))
set_option maxRecDepth 8000 in
theorem w_LH_isLostSo {l : Launch} {g : am_Gl} (hg : g.2.2.2.1 = true) {ad0 : Nat → Nat} {s : am_M} {t : am_M} {x2 : Int32} {x3 : Int32} {x4 : Int32} (h : p_LH_isLostSo s t x2 x3 x4) : AW l g m_LH_isLostSo 414 ad0 (am_oC2 (f_LH_isLostSo s t x2 x3 x4)) 0 0 414 (jn s t) 0 [(0, .ref 0), (1, .ref 207), (2, .int x2), (3, .int x3), (4, .int x4)] [] := by
  refine am_iload (j := 4) d_LH_isLostSo_0 rfl ?_
  refine am_bipush (v := (12 : Int32)) d_LH_isLostSo_2 (by decide) ?_
  obtain ⟨hc, h⟩ := h
  refine ak9_S (as := [.int x4, .int (12 : Int32)]) (rest := []) d_LH_isLostSo_4 cw_LH_isLostSo_4 rfl (am_2O hg rfl (fun _ => am_1I (ct_LH_low hg hc))) rfl rfl (Nat.le_of_ble_eq_true rfl) (by show 0 + 0 ≤ 160; omega) (by show 0 + 0 ≤ 960; omega) ?_
  refine am_istore (lv2 := [(5, .int (f_LH_low s x4 (12 : Int32))), (0, .ref 0), (1, .ref 207), (2, .int x2), (3, .int x3), (4, .int x4)]) d_LH_isLostSo_7 (by decide) rfl ?_
  refine am_aload_n (j := 1) d_LH_isLostSo_9 rfl rfl ?_
  refine am_bipush (v := (11 : Int32)) d_LH_isLostSo_10 (by decide) ?_
  refine am_iload_n (j := 3) d_LH_isLostSo_12 rfl rfl ?_
  refine am_iload_n (j := 4) d_LH_isLostSo_13 rfl rfl ?_
  refine am_iconst (v := (-1 : Int32)) d_LH_isLostSo_14 (by decide) ?_
  refine am_iload (j := 0) d_LH_isLostSo_15 rfl ?_
  refine am_iconst (v := (0 : Int32)) d_LH_isLostSo_17 (by decide) ?_
  refine am_iconst (v := (0 : Int32)) d_LH_isLostSo_18 (by decide) ?_
  obtain ⟨hc, h⟩ := h
  refine ak9_SX (as := [.ref 0, .int (11 : Int32), .int x2, .int x3, .int (-1 : Int32), .int (f_LH_low s x4 (12 : Int32)), .int (0 : Int32), .int (0 : Int32)]) (rest := []) d_LH_isLostSo_19 cw_LH_isLostSo_19 rfl (am_2O hg rfl (fun _ => am_1C (ct_LH_sets hg hc))) rfl rfl (Nat.le_of_ble_eq_true rfl) (by show 0 + 0 + 16 ≤ 160; omega) (by show 0 + 0 + 96 ≤ 960; omega) ?_
  refine am_istore (lv2 := [(6, .int (f_LH_sets s (11 : Int32) x2 x3 (-1 : Int32) (f_LH_low s x4 (12 : Int32)) (0 : Int32) (0 : Int32)).1), (5, .int (f_LH_low s x4 (12 : Int32))), (0, .ref 0), (1, .ref 207), (2, .int x2), (3, .int x3), (4, .int x4)]) d_LH_isLostSo_22 (by decide) rfl ?_
  refine am_aload_n (j := 2) d_LH_isLostSo_24 rfl rfl ?_
  refine am_iconst (v := (4 : Int32)) d_LH_isLostSo_25 (by decide) ?_
  refine am_iload_n (j := 4) d_LH_isLostSo_26 rfl rfl ?_
  refine am_iload_n (j := 5) d_LH_isLostSo_27 rfl rfl ?_
  refine am_iconst (v := (-1 : Int32)) d_LH_isLostSo_28 (by decide) ?_
  refine am_iload (j := 1) d_LH_isLostSo_29 rfl ?_
  refine am_iconst (v := (0 : Int32)) d_LH_isLostSo_31 (by decide) ?_
  refine am_iconst (v := (0 : Int32)) d_LH_isLostSo_32 (by decide) ?_
  obtain ⟨hc, h⟩ := h
  refine ak9_SX (as := [.ref 0, .int (4 : Int32), .int x2, .int x3, .int (-1 : Int32), .int (f_LH_low s x4 (12 : Int32)), .int (0 : Int32), .int (0 : Int32)]) (rest := []) d_LH_isLostSo_33 cw_LH_isLostSo_33 rfl (am_2O hg rfl (fun _ => am_1C (ct_LH_sets hg hc))) rfl rfl (Nat.le_of_ble_eq_true rfl) (by show 0 + 0 + 16 + 16 ≤ 160; omega) (by show 0 + 0 + 96 + 96 ≤ 960; omega) ?_
  refine am_istore (lv2 := [(7, .int (f_LH_sets (f_LH_sets s (11 : Int32) x2 x3 (-1 : Int32) (f_LH_low s x4 (12 : Int32)) (0 : Int32) (0 : Int32)).2 (4 : Int32) x2 x3 (-1 : Int32) (f_LH_low s x4 (12 : Int32)) (0 : Int32) (0 : Int32)).1), (6, .int (f_LH_sets s (11 : Int32) x2 x3 (-1 : Int32) (f_LH_low s x4 (12 : Int32)) (0 : Int32) (0 : Int32)).1), (5, .int (f_LH_low s x4 (12 : Int32))), (0, .ref 0), (1, .ref 207), (2, .int x2), (3, .int x3), (4, .int x4)]) d_LH_isLostSo_36 (by decide) rfl ?_
  refine am_aload_n (j := 4) d_LH_isLostSo_38 rfl rfl ?_
  refine am_iconst (v := (4 : Int32)) d_LH_isLostSo_39 (by decide) ?_
  refine am_iload_n (j := 5) d_LH_isLostSo_40 rfl rfl ?_
  refine am_iload_n (j := 6) d_LH_isLostSo_41 rfl rfl ?_
  refine am_iconst (v := (-1 : Int32)) d_LH_isLostSo_42 (by decide) ?_
  refine am_iload (j := 2) d_LH_isLostSo_43 rfl ?_
  refine am_iconst (v := (0 : Int32)) d_LH_isLostSo_45 (by decide) ?_
  refine am_iconst (v := (0 : Int32)) d_LH_isLostSo_46 (by decide) ?_
  obtain ⟨hc, h⟩ := h
  refine ak9_SX (as := [.ref 207, .int (4 : Int32), .int x2, .int x3, .int (-1 : Int32), .int (f_LH_low s x4 (12 : Int32)), .int (0 : Int32), .int (0 : Int32)]) (rest := []) d_LH_isLostSo_47 cw_LH_isLostSo_47 rfl (am_2P (av1 := [.ref 0, .int (4 : Int32), .int x2, .int x3, .int (-1 : Int32), .int (f_LH_low s x4 (12 : Int32)), .int (0 : Int32), .int (0 : Int32)]) hg rfl (fun _ => rfl) (fun _ => am_1C (ct_LH_sets hg hc))) rfl rfl (Nat.le_of_ble_eq_true rfl) (by show 0 + 0 + 16 + 16 + 16 ≤ 160; omega) (by show 0 + 0 + 96 + 96 + 96 ≤ 960; omega) ?_
  refine am_iload (j := 0) d_LH_isLostSo_50 rfl ?_
  refine aj_ne (F := am_oC2) (tgt := 131) d_LH_isLostSo_52 (by decide) (fun c => ?_) (fun c => ?_)
  · have h := h.2 c
    refine am_sub [3, 4, 5, 6, 7, 2, 1, 0] (lv2 := [(0, .ref 0), (1, .ref 207), (2, .int x2), (3, .int x3), (4, .int x4), (5, .int (f_LH_low s x4 (12 : Int32))), (6, .int (f_LH_sets s (11 : Int32) x2 x3 (-1 : Int32) (f_LH_low s x4 (12 : Int32)) (0 : Int32) (0 : Int32)).1), (7, .int (f_LH_sets (f_LH_sets s (11 : Int32) x2 x3 (-1 : Int32) (f_LH_low s x4 (12 : Int32)) (0 : Int32) (0 : Int32)).2 (4 : Int32) x2 x3 (-1 : Int32) (f_LH_low s x4 (12 : Int32)) (0 : Int32) (0 : Int32)).1)]) rfl ?_
    exact w_LH_isLostSo_131 hg  (by show 0 + 0 + 16 + 16 + 16 ≤ 80; omega) (by show 0 + 0 + 96 + 96 + 96 ≤ 480; omega) h
  · have h := h.1 c
    refine am_iload (j := 1) d_LH_isLostSo_55 rfl ?_
    refine am_ldc (v := (-9999999 : Int32)) d_LH_isLostSo_57 aw_3_220 ?_
    refine aj_ne (F := am_oC2) (tgt := 66) d_LH_isLostSo_59 (by decide) (fun c => ?_) (fun c => ?_)
    · have h := h.2 c
      refine am_iconst (v := (0 : Int32)) d_LH_isLostSo_66 (by decide) ?_
      refine am_sub [3, 4, 5, 6, 7, 2, 1, 0] (lv2 := [(0, .ref 0), (1, .ref 207), (2, .int x2), (3, .int x3), (4, .int x4), (5, .int (f_LH_low s x4 (12 : Int32))), (6, .int (f_LH_sets s (11 : Int32) x2 x3 (-1 : Int32) (f_LH_low s x4 (12 : Int32)) (0 : Int32) (0 : Int32)).1), (7, .int (f_LH_sets (f_LH_sets s (11 : Int32) x2 x3 (-1 : Int32) (f_LH_low s x4 (12 : Int32)) (0 : Int32) (0 : Int32)).2 (4 : Int32) x2 x3 (-1 : Int32) (f_LH_low s x4 (12 : Int32)) (0 : Int32) (0 : Int32)).1)]) rfl ?_
      exact w_LH_isLostSo_67 hg  (by show 0 + 0 + 16 + 16 + 16 ≤ 48; omega) (by show 0 + 0 + 96 + 96 + 96 ≤ 288; omega) h
    · have h := h.1 c
      refine am_iconst (v := (1 : Int32)) d_LH_isLostSo_62 (by decide) ?_
      refine am_goto (tgt := 67) d_LH_isLostSo_63 (by decide) ?_
      refine am_sub [3, 4, 5, 6, 7, 2, 1, 0] (lv2 := [(0, .ref 0), (1, .ref 207), (2, .int x2), (3, .int x3), (4, .int x4), (5, .int (f_LH_low s x4 (12 : Int32))), (6, .int (f_LH_sets s (11 : Int32) x2 x3 (-1 : Int32) (f_LH_low s x4 (12 : Int32)) (0 : Int32) (0 : Int32)).1), (7, .int (f_LH_sets (f_LH_sets s (11 : Int32) x2 x3 (-1 : Int32) (f_LH_low s x4 (12 : Int32)) (0 : Int32) (0 : Int32)).2 (4 : Int32) x2 x3 (-1 : Int32) (f_LH_low s x4 (12 : Int32)) (0 : Int32) (0 : Int32)).1)]) rfl ?_
      exact w_LH_isLostSo_67 hg  (by show 0 + 0 + 16 + 16 + 16 ≤ 48; omega) (by show 0 + 0 + 96 + 96 + 96 ≤ 288; omega) h
theorem ct_LH_isLostSo {l : Launch} {g : am_Gl} (hg : g.2.2.2.1 = true) {s : am_M} {t : am_M} {x2 : Int32} {x3 : Int32} {x4 : Int32} (h : p_LH_isLostSo s t x2 x3 x4) : AC l g m_LH_isLostSo 414 (jn s t) [.ref 0, .ref 207, .int x2, .int x3, .int x4] (am_oC2 (f_LH_isLostSo s t x2 x3 x4)) := am_enter ok_LH_isLostSo rfl (Nat.le_of_ble_eq_true rfl) rfl (fun ad0 => w_LH_isLostSo hg h)
end

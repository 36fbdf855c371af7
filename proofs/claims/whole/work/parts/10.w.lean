noncomputable section
theorem cw_LA_addAct_3 : am_cv m_LA_addAct m_CB_addAct 132 0 := ⟨⟨ok_CB_addAct, rfl, by decide +kernel, by decide, by decide⟩, aw_5_139, aw_5_140, aw_5_141⟩
theorem hd_LA_addAct_3 : am_hd m_LA_addAct 3 (am_exn 3) 11 := ⟨[], ⟨0, 8, 11, 13⟩, [], rfl, by decide, rfl, by decide, aw_2_31, by decide +kernel, fun z h => absurd h List.not_mem_nil⟩
def f_LA_addAct  (s : am_M)  : Int32 × am_M := (if (f_CB_addAct s).1 = 0 then ((0 : Int32), (am_set (f_CB_addAct s).2.2 262 ((0 : Int32)).toNatClampNeg (f_CB_addAct s).2.1)) else ((1 : Int32), (f_CB_addAct s).2.2))
def p_LA_addAct  (s : am_M)  : Prop := ((f_CB_addAct s).1 = 0 ∨ (f_CB_addAct s).1 = 3) ∧ ((((f_CB_addAct s).1 = 0) → vp_in (0 : Int32) 1 ∧ (True)) ∧ (¬ ((f_CB_addAct s).1 = 0) → True))
set_option maxRecDepth 8000 in
theorem w_LA_addAct {l : Launch} {g : am_Gl} (hg : g.2.2.2.1 = true) {ad0 : Nat → Nat} {s : am_M}  (h : p_LA_addAct s ) : AW l g m_LA_addAct 263 ad0 (am_oC (f_LA_addAct s )) 0 0 263 s 0 [(0, .ref 0), (1, .ref 262)] [] := by
  refine am_aload_n (j := 1) d_LA_addAct_0 rfl rfl ?_
  refine am_iconst (v := (0 : Int32)) d_LA_addAct_1 (by decide) ?_
  refine am_aload_n (j := 0) d_LA_addAct_2 rfl rfl ?_
  obtain ⟨hz, h⟩ := h
  refine am_caseN (F := am_oC) (q := (f_CB_addAct s).1) (c := 0) (fun c0 => ?_) (fun c0 => ?_)
  · have h := h.1 c0
    refine ak_EH (as := []) (rest := [.int (0 : Int32), .ref 262]) d_LA_addAct_3 cw_LA_addAct_3 rfl (ct_CB_addAct hg) rfl rfl (by decide) sh_0 rfl (Nat.le_of_ble_eq_true rfl) (by decide) (by decide) (fun n => absurd c0 n) (fun _ => ?_)
    refine am_i2l d_LA_addAct_6 ?_
    obtain ⟨hv, h⟩ := h
    refine am_last (y := (f_CB_addAct s).2.1) d_LA_addAct_7 (by decide) sh_262 hv ?_
    refine am_goto (tgt := 14) d_LA_addAct_8 (by decide) ?_
    refine am_iconst (v := (0 : Int32)) d_LA_addAct_14 (by decide) ?_
    exact am_iret d_LA_addAct_15 rfl rfl (by decide) (by decide) am_oC_ok
  · have h := h.2 c0
    have c1 : (f_CB_addAct s).1 = 3 := by rcases hz with z | z <;> first | exact z | exact absurd z c0
    refine ak_EH (as := []) (rest := [.int (0 : Int32), .ref 262]) d_LA_addAct_3 cw_LA_addAct_3 rfl (ct_CB_addAct hg) rfl rfl (by decide) sh_0 rfl (Nat.le_of_ble_eq_true rfl) (by decide) (by decide) (fun _ => ⟨11, by rw [c1]; exact hd_LA_addAct_3, fun q9 => ?_⟩) (fun n => absurd n c0)
    refine am_astoreS_n (lv2 := [(2, .retAddr q9), (0, .ref 0), (1, .ref 262)]) d_LA_addAct_11 rfl (by decide) rfl ?_
    refine am_iconst (v := (1 : Int32)) d_LA_addAct_12 (by decide) ?_
    exact am_iret d_LA_addAct_13 rfl rfl (by decide) (by decide) am_oC_ok
theorem ct_LA_addAct {l : Launch} {g : am_Gl} (hg : g.2.2.2.1 = true) {s : am_M}  (h : p_LA_addAct s ) : AC l g m_LA_addAct 263 s [.ref 0, .ref 262] (am_oC (f_LA_addAct s )) := am_enterH ok_LA_addAct rfl rfl (Nat.le_of_ble_eq_true rfl) rfl (fun ad0 => w_LA_addAct hg h)
theorem cw_LA_addLink_7 : am_cv m_LA_addLink m_CB_addLink 23 3 := ⟨⟨ok_CB_addLink, rfl, by decide +kernel, by decide, by decide⟩, aw_2_170, aw_2_171, aw_2_172⟩
theorem hd_LA_addLink_1 : am_hd m_LA_addLink 7 (am_exn 1) 15 := ⟨[], ⟨0, 12, 15, 19⟩, [⟨0, 12, 19, 21⟩, ⟨0, 12, 23, 13⟩], rfl, by decide, rfl, by decide, aw_2_106, by decide +kernel, fun z h => absurd h List.not_mem_nil⟩
theorem hd_LA_addLink_2 : am_hd m_LA_addLink 7 (am_exn 2) 19 := ⟨[⟨0, 12, 15, 19⟩], ⟨0, 12, 19, 21⟩, [⟨0, 12, 23, 13⟩], rfl, by decide, rfl, by decide, aw_2_107, by decide +kernel, List.forall_mem_cons.mpr ⟨Or.inr ⟨by decide, "java/lang/IndexOutOfBoundsException", aw_2_106, by decide⟩, fun z h => absurd h List.not_mem_nil⟩⟩
theorem hd_LA_addLink_3 : am_hd m_LA_addLink 7 (am_exn 3) 23 := ⟨[⟨0, 12, 15, 19⟩, ⟨0, 12, 19, 21⟩], ⟨0, 12, 23, 13⟩, [], rfl, by decide, rfl, by decide, aw_2_31, by decide +kernel, List.forall_mem_cons.mpr ⟨Or.inr ⟨by decide, "java/lang/IndexOutOfBoundsException", aw_2_106, by decide⟩, List.forall_mem_cons.mpr ⟨Or.inr ⟨by decide, "java/lang/IllegalArgumentException", aw_2_107, by decide⟩, fun z h => absurd h List.not_mem_nil⟩⟩⟩
def f_LA_addLink  (s : am_M) (x1 : Int32) (x2 : Int32) (x3 : Int32) : Int32 × am_M := (if (f_CB_addLink s x1 x2 x3).1 = 0 then ((0 : Int32), (am_set (f_CB_addLink s x1 x2 x3).2.2 262 ((0 : Int32)).toNatClampNeg (f_CB_addLink s x1 x2 x3).2.1)) else (if (f_CB_addLink s x1 x2 x3).1 = 1 then ((1 : Int32), (f_CB_addLink s x1 x2 x3).2.2) else (if (f_CB_addLink s x1 x2 x3).1 = 2 then ((2 : Int32), (f_CB_addLink s x1 x2 x3).2.2) else ((3 : Int32), (f_CB_addLink s x1 x2 x3).2.2))))
def p_LA_addLink  (s : am_M) (x1 : Int32) (x2 : Int32) (x3 : Int32) : Prop := p_CB_addLink s x1 x2 x3 ∧ (((f_CB_addLink s x1 x2 x3).1 = 0 ∨ (f_CB_addLink s x1 x2 x3).1 = 1 ∨ (f_CB_addLink s x1 x2 x3).1 = 2 ∨ (f_CB_addLink s x1 x2 x3).1 = 3) ∧ ((((f_CB_addLink s x1 x2 x3).1 = 0) → vp_in (0 : Int32) 1 ∧ (True)) ∧ (¬ ((f_CB_addLink s x1 x2 x3).1 = 0) → (((f_CB_addLink s x1 x2 x3).1 = 1) → True) ∧ (¬ ((f_CB_addLink s x1 x2 x3).1 = 1) → (((f_CB_addLink s x1 x2 x3).1 = 2) → True) ∧ (¬ ((f_CB_addLink s x1 x2 x3).1 = 2) → True)))))
set_option maxRecDepth 8000 in
theorem w_LA_addLink {l : Launch} {g : am_Gl} (hg : g.2.2.2.1 = true) {ad0 : Nat → Nat} {s : am_M} {x1 : Int32} {x2 : Int32} {x3 : Int32} (h : p_LA_addLink s x1 x2 x3) : AW l g m_LA_addLink 263 ad0 (am_oC (f_LA_addLink s x1 x2 x3)) 0 0 263 s 0 [(0, .ref 0), (1, .int x1), (2, .int x2), (3, .int x3), (4, .ref 262)] [] := by
  refine am_aload (j := 4) d_LA_addLink_0 rfl ?_
  refine am_iconst (v := (0 : Int32)) d_LA_addLink_2 (by decide) ?_
  refine am_aload_n (j := 0) d_LA_addLink_3 rfl rfl ?_
  refine am_iload_n (j := 1) d_LA_addLink_4 rfl rfl ?_
  refine am_iload_n (j := 2) d_LA_addLink_5 rfl rfl ?_
  refine am_iload_n (j := 3) d_LA_addLink_6 rfl rfl ?_
  obtain ⟨hc, h⟩ := h
  obtain ⟨hz, h⟩ := h
  refine am_caseN (F := am_oC) (q := (f_CB_addLink s x1 x2 x3).1) (c := 0) (fun c0 => ?_) (fun c0 => ?_)
  · have h := h.1 c0
    refine ak_EH (as := [.int x1, .int x2, .int x3]) (rest := [.int (0 : Int32), .ref 262]) d_LA_addLink_7 cw_LA_addLink_7 rfl (ct_CB_addLink hg hc) rfl rfl (by decide) sh_0 rfl (Nat.le_of_ble_eq_true rfl) (by decide) (by decide) (fun n => absurd c0 n) (fun _ => ?_)
    refine am_i2l d_LA_addLink_10 ?_
    obtain ⟨hv, h⟩ := h
    refine am_last (y := (f_CB_addLink s x1 x2 x3).2.1) d_LA_addLink_11 (by decide) sh_262 hv ?_
    refine am_goto (tgt := 27) d_LA_addLink_12 (by decide) ?_
    refine am_iconst (v := (0 : Int32)) d_LA_addLink_27 (by decide) ?_
    exact am_iret d_LA_addLink_28 rfl rfl (by decide) (by decide) am_oC_ok
  · have h := h.2 c0
    refine am_caseN (F := am_oC) (q := (f_CB_addLink s x1 x2 x3).1) (c := 1) (fun c1 => ?_) (fun c1 => ?_)
    · have h := h.1 c1
      refine ak_EH (as := [.int x1, .int x2, .int x3]) (rest := [.int (0 : Int32), .ref 262]) d_LA_addLink_7 cw_LA_addLink_7 rfl (ct_CB_addLink hg hc) rfl rfl (by decide) sh_0 rfl (Nat.le_of_ble_eq_true rfl) (by decide) (by decide) (fun _ => ⟨15, by rw [c1]; exact hd_LA_addLink_1, fun q9 => ?_⟩) (fun n => absurd n c0)
      refine am_astoreS (lv2 := [(5, .retAddr q9), (0, .ref 0), (1, .int x1), (2, .int x2), (3, .int x3), (4, .ref 262)]) d_LA_addLink_15 (by decide) rfl ?_
      refine am_iconst (v := (1 : Int32)) d_LA_addLink_17 (by decide) ?_
      exact am_iret d_LA_addLink_18 rfl rfl (by decide) (by decide) am_oC_ok
    · have h := h.2 c1
      refine am_caseN (F := am_oC) (q := (f_CB_addLink s x1 x2 x3).1) (c := 2) (fun c2 => ?_) (fun c2 => ?_)
      · have h := h.1 c2
        refine ak_EH (as := [.int x1, .int x2, .int x3]) (rest := [.int (0 : Int32), .ref 262]) d_LA_addLink_7 cw_LA_addLink_7 rfl (ct_CB_addLink hg hc) rfl rfl (by decide) sh_0 rfl (Nat.le_of_ble_eq_true rfl) (by decide) (by decide) (fun _ => ⟨19, by rw [c2]; exact hd_LA_addLink_2, fun q9 => ?_⟩) (fun n => absurd n c0)
        refine am_astoreS (lv2 := [(5, .retAddr q9), (0, .ref 0), (1, .int x1), (2, .int x2), (3, .int x3), (4, .ref 262)]) d_LA_addLink_19 (by decide) rfl ?_
        refine am_iconst (v := (2 : Int32)) d_LA_addLink_21 (by decide) ?_
        exact am_iret d_LA_addLink_22 rfl rfl (by decide) (by decide) am_oC_ok
      · have h := h.2 c2
        have c3 : (f_CB_addLink s x1 x2 x3).1 = 3 := by rcases hz with z | z | z | z <;> first | exact z | exact absurd z c0 | exact absurd z c1 | exact absurd z c2
        refine ak_EH (as := [.int x1, .int x2, .int x3]) (rest := [.int (0 : Int32), .ref 262]) d_LA_addLink_7 cw_LA_addLink_7 rfl (ct_CB_addLink hg hc) rfl rfl (by decide) sh_0 rfl (Nat.le_of_ble_eq_true rfl) (by decide) (by decide) (fun _ => ⟨23, by rw [c3]; exact hd_LA_addLink_3, fun q9 => ?_⟩) (fun n => absurd n c0)
        refine am_astoreS (lv2 := [(5, .retAddr q9), (0, .ref 0), (1, .int x1), (2, .int x2), (3, .int x3), (4, .ref 262)]) d_LA_addLink_23 (by decide) rfl ?_
        refine am_iconst (v := (3 : Int32)) d_LA_addLink_25 (by decide) ?_
        exact am_iret d_LA_addLink_26 rfl rfl (by decide) (by decide) am_oC_ok
theorem ct_LA_addLink {l : Launch} {g : am_Gl} (hg : g.2.2.2.1 = true) {s : am_M} {x1 : Int32} {x2 : Int32} {x3 : Int32} (h : p_LA_addLink s x1 x2 x3) : AC l g m_LA_addLink 263 s [.ref 0, .int x1, .int x2, .int x3, .ref 262] (am_oC (f_LA_addLink s x1 x2 x3)) := am_enterH ok_LA_addLink rfl rfl (Nat.le_of_ble_eq_true rfl) rfl (fun ad0 => w_LA_addLink hg h)
theorem cw_LA_addNumber_7 : am_cv m_LA_addNumber m_CB_addNumber 15 3 := ⟨⟨ok_CB_addNumber, rfl, by decide +kernel, by decide, by decide⟩, aw_2_108, aw_2_109, aw_2_110⟩
theorem hd_LA_addNumber_1 : am_hd m_LA_addNumber 7 (am_exn 1) 15 := ⟨[], ⟨0, 12, 15, 19⟩, [⟨0, 12, 19, 21⟩, ⟨0, 12, 23, 13⟩], rfl, by decide, rfl, by decide, aw_2_106, by decide +kernel, fun z h => absurd h List.not_mem_nil⟩
theorem hd_LA_addNumber_2 : am_hd m_LA_addNumber 7 (am_exn 2) 19 := ⟨[⟨0, 12, 15, 19⟩], ⟨0, 12, 19, 21⟩, [⟨0, 12, 23, 13⟩], rfl, by decide, rfl, by decide, aw_2_107, by decide +kernel, List.forall_mem_cons.mpr ⟨Or.inr ⟨by decide, "java/lang/IndexOutOfBoundsException", aw_2_106, by decide⟩, fun z h => absurd h List.not_mem_nil⟩⟩
theorem hd_LA_addNumber_3 : am_hd m_LA_addNumber 7 (am_exn 3) 23 := ⟨[⟨0, 12, 15, 19⟩, ⟨0, 12, 19, 21⟩], ⟨0, 12, 23, 13⟩, [], rfl, by decide, rfl, by decide, aw_2_31, by decide +kernel, List.forall_mem_cons.mpr ⟨Or.inr ⟨by decide, "java/lang/IndexOutOfBoundsException", aw_2_106, by decide⟩, List.forall_mem_cons.mpr ⟨Or.inr ⟨by decide, "java/lang/IllegalArgumentException", aw_2_107, by decide⟩, fun z h => absurd h List.not_mem_nil⟩⟩⟩
def f_LA_addNumber  (s : am_M) (x1 : Int32) (x2 : Int32) (x3 : Int32) : Int32 × am_M := (if (f_CB_addNumber s x1 x2 x3).1 = 0 then ((0 : Int32), (am_set (f_CB_addNumber s x1 x2 x3).2.2 262 ((0 : Int32)).toNatClampNeg (f_CB_addNumber s x1 x2 x3).2.1)) else (if (f_CB_addNumber s x1 x2 x3).1 = 1 then ((1 : Int32), (f_CB_addNumber s x1 x2 x3).2.2) else (if (f_CB_addNumber s x1 x2 x3).1 = 2 then ((2 : Int32), (f_CB_addNumber s x1 x2 x3).2.2) else ((3 : Int32), (f_CB_addNumber s x1 x2 x3).2.2))))
def p_LA_addNumber  (s : am_M) (x1 : Int32) (x2 : Int32) (x3 : Int32) : Prop := p_CB_addNumber s x1 x2 x3 ∧ (((f_CB_addNumber s x1 x2 x3).1 = 0 ∨ (f_CB_addNumber s x1 x2 x3).1 = 1 ∨ (f_CB_addNumber s x1 x2 x3).1 = 2 ∨ (f_CB_addNumber s x1 x2 x3).1 = 3) ∧ ((((f_CB_addNumber s x1 x2 x3).1 = 0) → vp_in (0 : Int32) 1 ∧ (True)) ∧ (¬ ((f_CB_addNumber s x1 x2 x3).1 = 0) → (((f_CB_addNumber s x1 x2 x3).1 = 1) → True) ∧ (¬ ((f_CB_addNumber s x1 x2 x3).1 = 1) → (((f_CB_addNumber s x1 x2 x3).1 = 2) → True) ∧ (¬ ((f_CB_addNumber s x1 x2 x3).1 = 2) → True)))))
set_option maxRecDepth 8000 in
theorem w_LA_addNumber {l : Launch} {g : am_Gl} (hg : g.2.2.2.1 = true) {ad0 : Nat → Nat} {s : am_M} {x1 : Int32} {x2 : Int32} {x3 : Int32} (h : p_LA_addNumber s x1 x2 x3) : AW l g m_LA_addNumber 263 ad0 (am_oC (f_LA_addNumber s x1 x2 x3)) 0 0 263 s 0 [(0, .ref 0), (1, .int x1), (2, .int x2), (3, .int x3), (4, .ref 262)] [] := by
  refine am_aload (j := 4) d_LA_addNumber_0 rfl ?_
  refine am_iconst (v := (0 : Int32)) d_LA_addNumber_2 (by decide) ?_
  refine am_aload_n (j := 0) d_LA_addNumber_3 rfl rfl ?_
  refine am_iload_n (j := 1) d_LA_addNumber_4 rfl rfl ?_
  refine am_iload_n (j := 2) d_LA_addNumber_5 rfl rfl ?_
  refine am_iload_n (j := 3) d_LA_addNumber_6 rfl rfl ?_
  obtain ⟨hc, h⟩ := h
  obtain ⟨hz, h⟩ := h
  refine am_caseN (F := am_oC) (q := (f_CB_addNumber s x1 x2 x3).1) (c := 0) (fun c0 => ?_) (fun c0 => ?_)
  · have h := h.1 c0
    refine ak_EH (as := [.int x1, .int x2, .int x3]) (rest := [.int (0 : Int32), .ref 262]) d_LA_addNumber_7 cw_LA_addNumber_7 rfl (ct_CB_addNumber hg hc) rfl rfl (by decide) sh_0 rfl (Nat.le_of_ble_eq_true rfl) (by decide) (by decide) (fun n => absurd c0 n) (fun _ => ?_)
    refine am_i2l d_LA_addNumber_10 ?_
    obtain ⟨hv, h⟩ := h
    refine am_last (y := (f_CB_addNumber s x1 x2 x3).2.1) d_LA_addNumber_11 (by decide) sh_262 hv ?_
    refine am_goto (tgt := 27) d_LA_addNumber_12 (by decide) ?_
    refine am_iconst (v := (0 : Int32)) d_LA_addNumber_27 (by decide) ?_
    exact am_iret d_LA_addNumber_28 rfl rfl (by decide) (by decide) am_oC_ok
  · have h := h.2 c0
    refine am_caseN (F := am_oC) (q := (f_CB_addNumber s x1 x2 x3).1) (c := 1) (fun c1 => ?_) (fun c1 => ?_)
    · have h := h.1 c1
      refine ak_EH (as := [.int x1, .int x2, .int x3]) (rest := [.int (0 : Int32), .ref 262]) d_LA_addNumber_7 cw_LA_addNumber_7 rfl (ct_CB_addNumber hg hc) rfl rfl (by decide) sh_0 rfl (Nat.le_of_ble_eq_true rfl) (by decide) (by decide) (fun _ => ⟨15, by rw [c1]; exact hd_LA_addNumber_1, fun q9 => ?_⟩) (fun n => absurd n c0)
      refine am_astoreS (lv2 := [(5, .retAddr q9), (0, .ref 0), (1, .int x1), (2, .int x2), (3, .int x3), (4, .ref 262)]) d_LA_addNumber_15 (by decide) rfl ?_
      refine am_iconst (v := (1 : Int32)) d_LA_addNumber_17 (by decide) ?_
      exact am_iret d_LA_addNumber_18 rfl rfl (by decide) (by decide) am_oC_ok
    · have h := h.2 c1
      refine am_caseN (F := am_oC) (q := (f_CB_addNumber s x1 x2 x3).1) (c := 2) (fun c2 => ?_) (fun c2 => ?_)
      · have h := h.1 c2
        refine ak_EH (as := [.int x1, .int x2, .int x3]) (rest := [.int (0 : Int32), .ref 262]) d_LA_addNumber_7 cw_LA_addNumber_7 rfl (ct_CB_addNumber hg hc) rfl rfl (by decide) sh_0 rfl (Nat.le_of_ble_eq_true rfl) (by decide) (by decide) (fun _ => ⟨19, by rw [c2]; exact hd_LA_addNumber_2, fun q9 => ?_⟩) (fun n => absurd n c0)
        refine am_astoreS (lv2 := [(5, .retAddr q9), (0, .ref 0), (1, .int x1), (2, .int x2), (3, .int x3), (4, .ref 262)]) d_LA_addNumber_19 (by decide) rfl ?_
        refine am_iconst (v := (2 : Int32)) d_LA_addNumber_21 (by decide) ?_
        exact am_iret d_LA_addNumber_22 rfl rfl (by decide) (by decide) am_oC_ok
      · have h := h.2 c2
        have c3 : (f_CB_addNumber s x1 x2 x3).1 = 3 := by rcases hz with z | z | z | z <;> first | exact z | exact absurd z c0 | exact absurd z c1 | exact absurd z c2
        refine ak_EH (as := [.int x1, .int x2, .int x3]) (rest := [.int (0 : Int32), .ref 262]) d_LA_addNumber_7 cw_LA_addNumber_7 rfl (ct_CB_addNumber hg hc) rfl rfl (by decide) sh_0 rfl (Nat.le_of_ble_eq_true rfl) (by decide) (by decide) (fun _ => ⟨23, by rw [c3]; exact hd_LA_addNumber_3, fun q9 => ?_⟩) (fun n => absurd n c0)
        refine am_astoreS (lv2 := [(5, .retAddr q9), (0, .ref 0), (1, .int x1), (2, .int x2), (3, .int x3), (4, .ref 262)]) d_LA_addNumber_23 (by decide) rfl ?_
        refine am_iconst (v := (3 : Int32)) d_LA_addNumber_25 (by decide) ?_
        exact am_iret d_LA_addNumber_26 rfl rfl (by decide) (by decide) am_oC_ok
theorem ct_LA_addNumber {l : Launch} {g : am_Gl} (hg : g.2.2.2.1 = true) {s : am_M} {x1 : Int32} {x2 : Int32} {x3 : Int32} (h : p_LA_addNumber s x1 x2 x3) : AC l g m_LA_addNumber 263 s [.ref 0, .int x1, .int x2, .int x3, .ref 262] (am_oC (f_LA_addNumber s x1 x2 x3)) := am_enterH ok_LA_addNumber rfl rfl (Nat.le_of_ble_eq_true rfl) rfl (fun ad0 => w_LA_addNumber hg h)
theorem cw_LA_addReckoned_11 : am_cv m_LA_addReckoned m_CB_addReckoned 26 5 := ⟨⟨ok_CB_addReckoned, rfl, by decide +kernel, by decide, by decide⟩, aw_2_185, aw_2_186, aw_2_187⟩
theorem hd_LA_addReckoned_1 : am_hd m_LA_addReckoned 11 (am_exn 1) 19 := ⟨[], ⟨0, 16, 19, 19⟩, [⟨0, 16, 23, 21⟩, ⟨0, 16, 27, 13⟩], rfl, by decide, rfl, by decide, aw_2_106, by decide +kernel, fun z h => absurd h List.not_mem_nil⟩
theorem hd_LA_addReckoned_2 : am_hd m_LA_addReckoned 11 (am_exn 2) 23 := ⟨[⟨0, 16, 19, 19⟩], ⟨0, 16, 23, 21⟩, [⟨0, 16, 27, 13⟩], rfl, by decide, rfl, by decide, aw_2_107, by decide +kernel, List.forall_mem_cons.mpr ⟨Or.inr ⟨by decide, "java/lang/IndexOutOfBoundsException", aw_2_106, by decide⟩, fun z h => absurd h List.not_mem_nil⟩⟩
theorem hd_LA_addReckoned_3 : am_hd m_LA_addReckoned 11 (am_exn 3) 27 := ⟨[⟨0, 16, 19, 19⟩, ⟨0, 16, 23, 21⟩], ⟨0, 16, 27, 13⟩, [], rfl, by decide, rfl, by decide, aw_2_31, by decide +kernel, List.forall_mem_cons.mpr ⟨Or.inr ⟨by decide, "java/lang/IndexOutOfBoundsException", aw_2_106, by decide⟩, List.forall_mem_cons.mpr ⟨Or.inr ⟨by decide, "java/lang/IllegalArgumentException", aw_2_107, by decide⟩, fun z h => absurd h List.not_mem_nil⟩⟩⟩
def f_LA_addReckoned  (s : am_M) (x1 : Int32) (x2 : Int32) (x3 : Int32) (x4 : Int32) (x5 : Int32) : Int32 × am_M := (if (f_CB_addReckoned s x1 x2 x3 x4 x5).1 = 0 then ((0 : Int32), (am_set (f_CB_addReckoned s x1 x2 x3 x4 x5).2.2 262 ((0 : Int32)).toNatClampNeg (f_CB_addReckoned s x1 x2 x3 x4 x5).2.1)) else (if (f_CB_addReckoned s x1 x2 x3 x4 x5).1 = 1 then ((1 : Int32), (f_CB_addReckoned s x1 x2 x3 x4 x5).2.2) else (if (f_CB_addReckoned s x1 x2 x3 x4 x5).1 = 2 then ((2 : Int32), (f_CB_addReckoned s x1 x2 x3 x4 x5).2.2) else ((3 : Int32), (f_CB_addReckoned s x1 x2 x3 x4 x5).2.2))))
def p_LA_addReckoned  (s : am_M) (x1 : Int32) (x2 : Int32) (x3 : Int32) (x4 : Int32) (x5 : Int32) : Prop := p_CB_addReckoned s x1 x2 x3 x4 x5 ∧ (((f_CB_addReckoned s x1 x2 x3 x4 x5).1 = 0 ∨ (f_CB_addReckoned s x1 x2 x3 x4 x5).1 = 1 ∨ (f_CB_addReckoned s x1 x2 x3 x4 x5).1 = 2 ∨ (f_CB_addReckoned s x1 x2 x3 x4 x5).1 = 3) ∧ ((((f_CB_addReckoned s x1 x2 x3 x4 x5).1 = 0) → vp_in (0 : Int32) 1 ∧ (True)) ∧ (¬ ((f_CB_addReckoned s x1 x2 x3 x4 x5).1 = 0) → (((f_CB_addReckoned s x1 x2 x3 x4 x5).1 = 1) → True) ∧ (¬ ((f_CB_addReckoned s x1 x2 x3 x4 x5).1 = 1) → (((f_CB_addReckoned s x1 x2 x3 x4 x5).1 = 2) → True) ∧ (¬ ((f_CB_addReckoned s x1 x2 x3 x4 x5).1 = 2) → True)))))
set_option maxRecDepth 8000 in
theorem w_LA_addReckoned {l : Launch} {g : am_Gl} (hg : g.2.2.2.1 = true) {ad0 : Nat → Nat} {s : am_M} {x1 : Int32} {x2 : Int32} {x3 : Int32} {x4 : Int32} {x5 : Int32} (h : p_LA_addReckoned s x1 x2 x3 x4 x5) : AW l g m_LA_addReckoned 263 ad0 (am_oC (f_LA_addReckoned s x1 x2 x3 x4 x5)) 0 0 263 s 0 [(0, .ref 0), (1, .int x1), (2, .int x2), (3, .int x3), (4, .int x4), (5, .int x5), (6, .ref 262)] [] := by
  refine am_aload (j := 6) d_LA_addReckoned_0 rfl ?_
  refine am_iconst (v := (0 : Int32)) d_LA_addReckoned_2 (by decide) ?_
  refine am_aload_n (j := 0) d_LA_addReckoned_3 rfl rfl ?_
  refine am_iload_n (j := 1) d_LA_addReckoned_4 rfl rfl ?_
  refine am_iload_n (j := 2) d_LA_addReckoned_5 rfl rfl ?_
  refine am_iload_n (j := 3) d_LA_addReckoned_6 rfl rfl ?_
  refine am_iload (j := 4) d_LA_addReckoned_7 rfl ?_
  refine am_iload (j := 5) d_LA_addReckoned_9 rfl ?_
  obtain ⟨hc, h⟩ := h
  obtain ⟨hz, h⟩ := h
  refine am_caseN (F := am_oC) (q := (f_CB_addReckoned s x1 x2 x3 x4 x5).1) (c := 0) (fun c0 => ?_) (fun c0 => ?_)
  · have h := h.1 c0
    refine ak_EH (as := [.int x1, .int x2, .int x3, .int x4, .int x5]) (rest := [.int (0 : Int32), .ref 262]) d_LA_addReckoned_11 cw_LA_addReckoned_11 rfl (ct_CB_addReckoned hg hc) rfl rfl (by decide) sh_0 rfl (Nat.le_of_ble_eq_true rfl) (by decide) (by decide) (fun n => absurd c0 n) (fun _ => ?_)
    refine am_i2l d_LA_addReckoned_14 ?_
    obtain ⟨hv, h⟩ := h
    refine am_last (y := (f_CB_addReckoned s x1 x2 x3 x4 x5).2.1) d_LA_addReckoned_15 (by decide) sh_262 hv ?_
    refine am_goto (tgt := 31) d_LA_addReckoned_16 (by decide) ?_
    refine am_iconst (v := (0 : Int32)) d_LA_addReckoned_31 (by decide) ?_
    exact am_iret d_LA_addReckoned_32 rfl rfl (by decide) (by decide) am_oC_ok
  · have h := h.2 c0
    refine am_caseN (F := am_oC) (q := (f_CB_addReckoned s x1 x2 x3 x4 x5).1) (c := 1) (fun c1 => ?_) (fun c1 => ?_)
    · have h := h.1 c1
      refine ak_EH (as := [.int x1, .int x2, .int x3, .int x4, .int x5]) (rest := [.int (0 : Int32), .ref 262]) d_LA_addReckoned_11 cw_LA_addReckoned_11 rfl (ct_CB_addReckoned hg hc) rfl rfl (by decide) sh_0 rfl (Nat.le_of_ble_eq_true rfl) (by decide) (by decide) (fun _ => ⟨19, by rw [c1]; exact hd_LA_addReckoned_1, fun q9 => ?_⟩) (fun n => absurd n c0)
      refine am_astoreS (lv2 := [(7, .retAddr q9), (0, .ref 0), (1, .int x1), (2, .int x2), (3, .int x3), (4, .int x4), (5, .int x5), (6, .ref 262)]) d_LA_addReckoned_19 (by decide) rfl ?_
      refine am_iconst (v := (1 : Int32)) d_LA_addReckoned_21 (by decide) ?_
      exact am_iret d_LA_addReckoned_22 rfl rfl (by decide) (by decide) am_oC_ok
    · have h := h.2 c1
      refine am_caseN (F := am_oC) (q := (f_CB_addReckoned s x1 x2 x3 x4 x5).1) (c := 2) (fun c2 => ?_) (fun c2 => ?_)
      · have h := h.1 c2
        refine ak_EH (as := [.int x1, .int x2, .int x3, .int x4, .int x5]) (rest := [.int (0 : Int32), .ref 262]) d_LA_addReckoned_11 cw_LA_addReckoned_11 rfl (ct_CB_addReckoned hg hc) rfl rfl (by decide) sh_0 rfl (Nat.le_of_ble_eq_true rfl) (by decide) (by decide) (fun _ => ⟨23, by rw [c2]; exact hd_LA_addReckoned_2, fun q9 => ?_⟩) (fun n => absurd n c0)
        refine am_astoreS (lv2 := [(7, .retAddr q9), (0, .ref 0), (1, .int x1), (2, .int x2), (3, .int x3), (4, .int x4), (5, .int x5), (6, .ref 262)]) d_LA_addReckoned_23 (by decide) rfl ?_
        refine am_iconst (v := (2 : Int32)) d_LA_addReckoned_25 (by decide) ?_
        exact am_iret d_LA_addReckoned_26 rfl rfl (by decide) (by decide) am_oC_ok
      · have h := h.2 c2
        have c3 : (f_CB_addReckoned s x1 x2 x3 x4 x5).1 = 3 := by rcases hz with z | z | z | z <;> first | exact z | exact absurd z c0 | exact absurd z c1 | exact absurd z c2
        refine ak_EH (as := [.int x1, .int x2, .int x3, .int x4, .int x5]) (rest := [.int (0 : Int32), .ref 262]) d_LA_addReckoned_11 cw_LA_addReckoned_11 rfl (ct_CB_addReckoned hg hc) rfl rfl (by decide) sh_0 rfl (Nat.le_of_ble_eq_true rfl) (by decide) (by decide) (fun _ => ⟨27, by rw [c3]; exact hd_LA_addReckoned_3, fun q9 => ?_⟩) (fun n => absurd n c0)
        refine am_astoreS (lv2 := [(7, .retAddr q9), (0, .ref 0), (1, .int x1), (2, .int x2), (3, .int x3), (4, .int x4), (5, .int x5), (6, .ref 262)]) d_LA_addReckoned_27 (by decide) rfl ?_
        refine am_iconst (v := (3 : Int32)) d_LA_addReckoned_29 (by decide) ?_
        exact am_iret d_LA_addReckoned_30 rfl rfl (by decide) (by decide) am_oC_ok
theorem ct_LA_addReckoned {l : Launch} {g : am_Gl} (hg : g.2.2.2.1 = true) {s : am_M} {x1 : Int32} {x2 : Int32} {x3 : Int32} {x4 : Int32} {x5 : Int32} (h : p_LA_addReckoned s x1 x2 x3 x4 x5) : AC l g m_LA_addReckoned 263 s [.ref 0, .int x1, .int x2, .int x3, .int x4, .int x5, .ref 262] (am_oC (f_LA_addReckoned s x1 x2 x3 x4 x5)) := am_enterH ok_LA_addReckoned rfl rfl (Nat.le_of_ble_eq_true rfl) rfl (fun ad0 => w_LA_addReckoned hg h)
theorem cw_LA_addRule_11 : am_cv m_LA_addRule m_CB_addRule 60 5 := ⟨⟨ok_CB_addRule, rfl, by decide +kernel, by decide, by decide⟩, aw_3_207, aw_3_208, aw_3_209⟩
theorem hd_LA_addRule_1 : am_hd m_LA_addRule 11 (am_exn 1) 19 := ⟨[], ⟨0, 16, 19, 19⟩, [⟨0, 16, 23, 21⟩, ⟨0, 16, 27, 13⟩], rfl, by decide, rfl, by decide, aw_2_106, by decide +kernel, fun z h => absurd h List.not_mem_nil⟩
theorem hd_LA_addRule_2 : am_hd m_LA_addRule 11 (am_exn 2) 23 := ⟨[⟨0, 16, 19, 19⟩], ⟨0, 16, 23, 21⟩, [⟨0, 16, 27, 13⟩], rfl, by decide, rfl, by decide, aw_2_107, by decide +kernel, List.forall_mem_cons.mpr ⟨Or.inr ⟨by decide, "java/lang/IndexOutOfBoundsException", aw_2_106, by decide⟩, fun z h => absurd h List.not_mem_nil⟩⟩
theorem hd_LA_addRule_3 : am_hd m_LA_addRule 11 (am_exn 3) 27 := ⟨[⟨0, 16, 19, 19⟩, ⟨0, 16, 23, 21⟩], ⟨0, 16, 27, 13⟩, [], rfl, by decide, rfl, by decide, aw_2_31, by decide +kernel, List.forall_mem_cons.mpr ⟨Or.inr ⟨by decide, "java/lang/IndexOutOfBoundsException", aw_2_106, by decide⟩, List.forall_mem_cons.mpr ⟨Or.inr ⟨by decide, "java/lang/IllegalArgumentException", aw_2_107, by decide⟩, fun z h => absurd h List.not_mem_nil⟩⟩⟩
def f_LA_addRule  (s : am_M) (x1 : Int32) (x2 : Int32) (x3 : Int32) (x4 : Int32) (x5 : Int32) : Int32 × am_M := (if (f_CB_addRule s x1 x2 x3 x4 x5).1 = 0 then ((0 : Int32), (am_set (f_CB_addRule s x1 x2 x3 x4 x5).2.2 262 ((0 : Int32)).toNatClampNeg (f_CB_addRule s x1 x2 x3 x4 x5).2.1)) else (if (f_CB_addRule s x1 x2 x3 x4 x5).1 = 1 then ((1 : Int32), (f_CB_addRule s x1 x2 x3 x4 x5).2.2) else (if (f_CB_addRule s x1 x2 x3 x4 x5).1 = 2 then ((2 : Int32), (f_CB_addRule s x1 x2 x3 x4 x5).2.2) else ((3 : Int32), (f_CB_addRule s x1 x2 x3 x4 x5).2.2))))
def p_LA_addRule  (s : am_M) (x1 : Int32) (x2 : Int32) (x3 : Int32) (x4 : Int32) (x5 : Int32) : Prop := p_CB_addRule s x1 x2 x3 x4 x5 ∧ (((f_CB_addRule s x1 x2 x3 x4 x5).1 = 0 ∨ (f_CB_addRule s x1 x2 x3 x4 x5).1 = 1 ∨ (f_CB_addRule s x1 x2 x3 x4 x5).1 = 2 ∨ (f_CB_addRule s x1 x2 x3 x4 x5).1 = 3) ∧ ((((f_CB_addRule s x1 x2 x3 x4 x5).1 = 0) → vp_in (0 : Int32) 1 ∧ (True)) ∧ (¬ ((f_CB_addRule s x1 x2 x3 x4 x5).1 = 0) → (((f_CB_addRule s x1 x2 x3 x4 x5).1 = 1) → True) ∧ (¬ ((f_CB_addRule s x1 x2 x3 x4 x5).1 = 1) → (((f_CB_addRule s x1 x2 x3 x4 x5).1 = 2) → True) ∧ (¬ ((f_CB_addRule s x1 x2 x3 x4 x5).1 = 2) → True)))))
set_option maxRecDepth 8000 in
theorem w_LA_addRule {l : Launch} {g : am_Gl} (hg : g.2.2.2.1 = true) {ad0 : Nat → Nat} {s : am_M} {x1 : Int32} {x2 : Int32} {x3 : Int32} {x4 : Int32} {x5 : Int32} (h : p_LA_addRule s x1 x2 x3 x4 x5) : AW l g m_LA_addRule 263 ad0 (am_oC (f_LA_addRule s x1 x2 x3 x4 x5)) 0 0 263 s 0 [(0, .ref 0), (1, .int x1), (2, .int x2), (3, .int x3), (4, .int x4), (5, .int x5), (6, .ref 262)] [] := by
  refine am_aload (j := 6) d_LA_addRule_0 rfl ?_
  refine am_iconst (v := (0 : Int32)) d_LA_addRule_2 (by decide) ?_
  refine am_aload_n (j := 0) d_LA_addRule_3 rfl rfl ?_
  refine am_iload_n (j := 1) d_LA_addRule_4 rfl rfl ?_
  refine am_iload_n (j := 2) d_LA_addRule_5 rfl rfl ?_
  refine am_iload_n (j := 3) d_LA_addRule_6 rfl rfl ?_
  refine am_iload (j := 4) d_LA_addRule_7 rfl ?_
  refine am_iload (j := 5) d_LA_addRule_9 rfl ?_
  obtain ⟨hc, h⟩ := h
  obtain ⟨hz, h⟩ := h
  refine am_caseN (F := am_oC) (q := (f_CB_addRule s x1 x2 x3 x4 x5).1) (c := 0) (fun c0 => ?_) (fun c0 => ?_)
  · have h := h.1 c0
    refine ak_EH (as := [.int x1, .int x2, .int x3, .int x4, .int x5]) (rest := [.int (0 : Int32), .ref 262]) d_LA_addRule_11 cw_LA_addRule_11 rfl (ct_CB_addRule hg hc) rfl rfl (by decide) sh_0 rfl (Nat.le_of_ble_eq_true rfl) (by decide) (by decide) (fun n => absurd c0 n) (fun _ => ?_)
    refine am_i2l d_LA_addRule_14 ?_
    obtain ⟨hv, h⟩ := h
    refine am_last (y := (f_CB_addRule s x1 x2 x3 x4 x5).2.1) d_LA_addRule_15 (by decide) sh_262 hv ?_
    refine am_goto (tgt := 31) d_LA_addRule_16 (by decide) ?_
    refine am_iconst (v := (0 : Int32)) d_LA_addRule_31 (by decide) ?_
    exact am_iret d_LA_addRule_32 rfl rfl (by decide) (by decide) am_oC_ok
  · have h := h.2 c0
    refine am_caseN (F := am_oC) (q := (f_CB_addRule s x1 x2 x3 x4 x5).1) (c := 1) (fun c1 => ?_) (fun c1 => ?_)
    · have h := h.1 c1
      refine ak_EH (as := [.int x1, .int x2, .int x3, .int x4, .int x5]) (rest := [.int (0 : Int32), .ref 262]) d_LA_addRule_11 cw_LA_addRule_11 rfl (ct_CB_addRule hg hc) rfl rfl (by decide) sh_0 rfl (Nat.le_of_ble_eq_true rfl) (by decide) (by decide) (fun _ => ⟨19, by rw [c1]; exact hd_LA_addRule_1, fun q9 => ?_⟩) (fun n => absurd n c0)
      refine am_astoreS (lv2 := [(7, .retAddr q9), (0, .ref 0), (1, .int x1), (2, .int x2), (3, .int x3), (4, .int x4), (5, .int x5), (6, .ref 262)]) d_LA_addRule_19 (by decide) rfl ?_
      refine am_iconst (v := (1 : Int32)) d_LA_addRule_21 (by decide) ?_
      exact am_iret d_LA_addRule_22 rfl rfl (by decide) (by decide) am_oC_ok
    · have h := h.2 c1
      refine am_caseN (F := am_oC) (q := (f_CB_addRule s x1 x2 x3 x4 x5).1) (c := 2) (fun c2 => ?_) (fun c2 => ?_)
      · have h := h.1 c2
        refine ak_EH (as := [.int x1, .int x2, .int x3, .int x4, .int x5]) (rest := [.int (0 : Int32), .ref 262]) d_LA_addRule_11 cw_LA_addRule_11 rfl (ct_CB_addRule hg hc) rfl rfl (by decide) sh_0 rfl (Nat.le_of_ble_eq_true rfl) (by decide) (by decide) (fun _ => ⟨23, by rw [c2]; exact hd_LA_addRule_2, fun q9 => ?_⟩) (fun n => absurd n c0)
        refine am_astoreS (lv2 := [(7, .retAddr q9), (0, .ref 0), (1, .int x1), (2, .int x2), (3, .int x3), (4, .int x4), (5, .int x5), (6, .ref 262)]) d_LA_addRule_23 (by decide) rfl ?_
        refine am_iconst (v := (2 : Int32)) d_LA_addRule_25 (by decide) ?_
        exact am_iret d_LA_addRule_26 rfl rfl (by decide) (by decide) am_oC_ok
      · have h := h.2 c2
        have c3 : (f_CB_addRule s x1 x2 x3 x4 x5).1 = 3 := by rcases hz with z | z | z | z <;> first | exact z | exact absurd z c0 | exact absurd z c1 | exact absurd z c2
        refine ak_EH (as := [.int x1, .int x2, .int x3, .int x4, .int x5]) (rest := [.int (0 : Int32), .ref 262]) d_LA_addRule_11 cw_LA_addRule_11 rfl (ct_CB_addRule hg hc) rfl rfl (by decide) sh_0 rfl (Nat.le_of_ble_eq_true rfl) (by decide) (by decide) (fun _ => ⟨27, by rw [c3]; exact hd_LA_addRule_3, fun q9 => ?_⟩) (fun n => absurd n c0)
        refine am_astoreS (lv2 := [(7, .retAddr q9), (0, .ref 0), (1, .int x1), (2, .int x2), (3, .int x3), (4, .int x4), (5, .int x5), (6, .ref 262)]) d_LA_addRule_27 (by decide) rfl ?_
        refine am_iconst (v := (3 : Int32)) d_LA_addRule_29 (by decide) ?_
        exact am_iret d_LA_addRule_30 rfl rfl (by decide) (by decide) am_oC_ok
theorem ct_LA_addRule {l : Launch} {g : am_Gl} (hg : g.2.2.2.1 = true) {s : am_M} {x1 : Int32} {x2 : Int32} {x3 : Int32} {x4 : Int32} {x5 : Int32} (h : p_LA_addRule s x1 x2 x3 x4 x5) : AC l g m_LA_addRule 263 s [.ref 0, .int x1, .int x2, .int x3, .int x4, .int x5, .ref 262] (am_oC (f_LA_addRule s x1 x2 x3 x4 x5)) := am_enterH ok_LA_addRule rfl rfl (Nat.le_of_ble_eq_true rfl) rfl (fun ad0 => w_LA_addRule hg h)
theorem cw_LA_addTable_3 : am_cv m_LA_addTable m_CB_addTable 7 0 := ⟨⟨ok_CB_addTable, rfl, by decide +kernel, by decide, by decide⟩, aw_2_32, aw_2_33, aw_2_34⟩
theorem hd_LA_addTable_3 : am_hd m_LA_addTable 3 (am_exn 3) 11 := ⟨[], ⟨0, 8, 11, 13⟩, [], rfl, by decide, rfl, by decide, aw_2_31, by decide +kernel, fun z h => absurd h List.not_mem_nil⟩
def f_LA_addTable  (s : am_M)  : Int32 × am_M := (if (f_CB_addTable s).1 = 0 then ((0 : Int32), (am_set (f_CB_addTable s).2.2 262 ((0 : Int32)).toNatClampNeg (f_CB_addTable s).2.1)) else ((1 : Int32), (f_CB_addTable s).2.2))
def p_LA_addTable  (s : am_M)  : Prop := ((f_CB_addTable s).1 = 0 ∨ (f_CB_addTable s).1 = 3) ∧ ((((f_CB_addTable s).1 = 0) → vp_in (0 : Int32) 1 ∧ (True)) ∧ (¬ ((f_CB_addTable s).1 = 0) → True))
set_option maxRecDepth 8000 in
theorem w_LA_addTable {l : Launch} {g : am_Gl} (hg : g.2.2.2.1 = true) {ad0 : Nat → Nat} {s : am_M}  (h : p_LA_addTable s ) : AW l g m_LA_addTable 263 ad0 (am_oC (f_LA_addTable s )) 0 0 263 s 0 [(0, .ref 0), (1, .ref 262)] [] := by
  refine am_aload_n (j := 1) d_LA_addTable_0 rfl rfl ?_
  refine am_iconst (v := (0 : Int32)) d_LA_addTable_1 (by decide) ?_
  refine am_aload_n (j := 0) d_LA_addTable_2 rfl rfl ?_
  obtain ⟨hz, h⟩ := h
  refine am_caseN (F := am_oC) (q := (f_CB_addTable s).1) (c := 0) (fun c0 => ?_) (fun c0 => ?_)
  · have h := h.1 c0
    refine ak_EH (as := []) (rest := [.int (0 : Int32), .ref 262]) d_LA_addTable_3 cw_LA_addTable_3 rfl (ct_CB_addTable hg) rfl rfl (by decide) sh_0 rfl (Nat.le_of_ble_eq_true rfl) (by decide) (by decide) (fun n => absurd c0 n) (fun _ => ?_)
    refine am_i2l d_LA_addTable_6 ?_
    obtain ⟨hv, h⟩ := h
    refine am_last (y := (f_CB_addTable s).2.1) d_LA_addTable_7 (by decide) sh_262 hv ?_
    refine am_goto (tgt := 14) d_LA_addTable_8 (by decide) ?_
    refine am_iconst (v := (0 : Int32)) d_LA_addTable_14 (by decide) ?_
    exact am_iret d_LA_addTable_15 rfl rfl (by decide) (by decide) am_oC_ok
  · have h := h.2 c0
    have c1 : (f_CB_addTable s).1 = 3 := by rcases hz with z | z <;> first | exact z | exact absurd z c0
    refine ak_EH (as := []) (rest := [.int (0 : Int32), .ref 262]) d_LA_addTable_3 cw_LA_addTable_3 rfl (ct_CB_addTable hg) rfl rfl (by decide) sh_0 rfl (Nat.le_of_ble_eq_true rfl) (by decide) (by decide) (fun _ => ⟨11, by rw [c1]; exact hd_LA_addTable_3, fun q9 => ?_⟩) (fun n => absurd n c0)
    refine am_astoreS_n (lv2 := [(2, .retAddr q9), (0, .ref 0), (1, .ref 262)]) d_LA_addTable_11 rfl (by decide) rfl ?_
    refine am_iconst (v := (1 : Int32)) d_LA_addTable_12 (by decide) ?_
    exact am_iret d_LA_addTable_13 rfl rfl (by decide) (by decide) am_oC_ok
theorem ct_LA_addTable {l : Launch} {g : am_Gl} (hg : g.2.2.2.1 = true) {s : am_M}  (h : p_LA_addTable s ) : AC l g m_LA_addTable 263 s [.ref 0, .ref 262] (am_oC (f_LA_addTable s )) := am_enterH ok_LA_addTable rfl rfl (Nat.le_of_ble_eq_true rfl) rfl (fun ad0 => w_LA_addTable hg h)
theorem cw_LA_answer_7 : am_cv m_LA_answer m_CB_answer 120 3 := ⟨⟨ok_CB_answer, rfl, by decide +kernel, by decide, by decide⟩, aw_5_96, aw_5_97, aw_5_98⟩
theorem hd_LA_answer_1 : am_hd m_LA_answer 7 (am_exn 1) 15 := ⟨[], ⟨0, 12, 15, 19⟩, [], rfl, by decide, rfl, by decide, aw_2_106, by decide +kernel, fun z h => absurd h List.not_mem_nil⟩
def f_LA_answer  (s : am_M) (x1 : Int32) (x2 : Int32) (x3 : Int32) : Int32 × am_M := (if (f_CB_answer s x1 x2 x3).1 = 0 then ((0 : Int32), (am_set (f_CB_answer s x1 x2 x3).2.2 262 ((0 : Int32)).toNatClampNeg (f_CB_answer s x1 x2 x3).2.1)) else ((1 : Int32), (f_CB_answer s x1 x2 x3).2.2))
def p_LA_answer  (s : am_M) (x1 : Int32) (x2 : Int32) (x3 : Int32) : Prop := p_CB_answer s x1 x2 x3 ∧ (((f_CB_answer s x1 x2 x3).1 = 0 ∨ (f_CB_answer s x1 x2 x3).1 = 1) ∧ ((((f_CB_answer s x1 x2 x3).1 = 0) → vp_in (0 : Int32) 1 ∧ (True)) ∧ (¬ ((f_CB_answer s x1 x2 x3).1 = 0) → True)))
set_option maxRecDepth 8000 in
theorem w_LA_answer {l : Launch} {g : am_Gl} (hg : g.2.2.2.1 = true) {ad0 : Nat → Nat} {s : am_M} {x1 : Int32} {x2 : Int32} {x3 : Int32} (h : p_LA_answer s x1 x2 x3) : AW l g m_LA_answer 263 ad0 (am_oC (f_LA_answer s x1 x2 x3)) 0 0 263 s 0 [(0, .ref 0), (1, .int x1), (2, .int x2), (3, .int x3), (4, .ref 262)] [] := by
  refine am_aload (j := 4) d_LA_answer_0 rfl ?_
  refine am_iconst (v := (0 : Int32)) d_LA_answer_2 (by decide) ?_
  refine am_aload_n (j := 0) d_LA_answer_3 rfl rfl ?_
  refine am_iload_n (j := 1) d_LA_answer_4 rfl rfl ?_
  refine am_iload_n (j := 2) d_LA_answer_5 rfl rfl ?_
  refine am_iload_n (j := 3) d_LA_answer_6 rfl rfl ?_
  obtain ⟨hc, h⟩ := h
  obtain ⟨hz, h⟩ := h
  refine am_caseN (F := am_oC) (q := (f_CB_answer s x1 x2 x3).1) (c := 0) (fun c0 => ?_) (fun c0 => ?_)
  · have h := h.1 c0
    refine ak_EH (as := [.int x1, .int x2, .int x3]) (rest := [.int (0 : Int32), .ref 262]) d_LA_answer_7 cw_LA_answer_7 rfl (ct_CB_answer hg hc) rfl rfl (by decide) sh_0 rfl (Nat.le_of_ble_eq_true rfl) (by decide) (by decide) (fun n => absurd c0 n) (fun _ => ?_)
    refine am_i2l d_LA_answer_10 ?_
    obtain ⟨hv, h⟩ := h
    refine am_last (y := (f_CB_answer s x1 x2 x3).2.1) d_LA_answer_11 (by decide) sh_262 hv ?_
    refine am_goto (tgt := 19) d_LA_answer_12 (by decide) ?_
    refine am_iconst (v := (0 : Int32)) d_LA_answer_19 (by decide) ?_
    exact am_iret d_LA_answer_20 rfl rfl (by decide) (by decide) am_oC_ok
  · have h := h.2 c0
    have c1 : (f_CB_answer s x1 x2 x3).1 = 1 := by rcases hz with z | z <;> first | exact z | exact absurd z c0
    refine ak_EH (as := [.int x1, .int x2, .int x3]) (rest := [.int (0 : Int32), .ref 262]) d_LA_answer_7 cw_LA_answer_7 rfl (ct_CB_answer hg hc) rfl rfl (by decide) sh_0 rfl (Nat.le_of_ble_eq_true rfl) (by decide) (by decide) (fun _ => ⟨15, by rw [c1]; exact hd_LA_answer_1, fun q9 => ?_⟩) (fun n => absurd n c0)
    refine am_astoreS (lv2 := [(5, .retAddr q9), (0, .ref 0), (1, .int x1), (2, .int x2), (3, .int x3), (4, .ref 262)]) d_LA_answer_15 (by decide) rfl ?_
    refine am_iconst (v := (1 : Int32)) d_LA_answer_17 (by decide) ?_
    exact am_iret d_LA_answer_18 rfl rfl (by decide) (by decide) am_oC_ok
theorem ct_LA_answer {l : Launch} {g : am_Gl} (hg : g.2.2.2.1 = true) {s : am_M} {x1 : Int32} {x2 : Int32} {x3 : Int32} (h : p_LA_answer s x1 x2 x3) : AC l g m_LA_answer 263 s [.ref 0, .int x1, .int x2, .int x3, .ref 262] (am_oC (f_LA_answer s x1 x2 x3)) := am_enterH ok_LA_answer rfl rfl (Nat.le_of_ble_eq_true rfl) rfl (fun ad0 => w_LA_answer hg h)
theorem cw_LA_answers_4 : am_cv m_LA_answers m_CB_answers 114 1 := ⟨⟨ok_CB_answers, rfl, by decide +kernel, by decide, by decide⟩, aw_5_81, aw_5_82, aw_5_83⟩
theorem hd_LA_answers_1 : am_hd m_LA_answers 4 (am_exn 1) 12 := ⟨[], ⟨0, 9, 12, 19⟩, [], rfl, by decide, rfl, by decide, aw_2_106, by decide +kernel, fun z h => absurd h List.not_mem_nil⟩
def f_LA_answers  (s : am_M) (x1 : Int32) : Int32 × am_M := (if (f_CB_answers s x1).1 = 0 then ((0 : Int32), (am_set (f_CB_answers s x1).2.2 262 ((0 : Int32)).toNatClampNeg (f_CB_answers s x1).2.1)) else ((1 : Int32), (f_CB_answers s x1).2.2))
def p_LA_answers  (s : am_M) (x1 : Int32) : Prop := p_CB_answers s x1 ∧ (((f_CB_answers s x1).1 = 0 ∨ (f_CB_answers s x1).1 = 1) ∧ ((((f_CB_answers s x1).1 = 0) → vp_in (0 : Int32) 1 ∧ (True)) ∧ (¬ ((f_CB_answers s x1).1 = 0) → True)))
set_option maxRecDepth 8000 in
theorem w_LA_answers {l : Launch} {g : am_Gl} (hg : g.2.2.2.1 = true) {ad0 : Nat → Nat} {s : am_M} {x1 : Int32} (h : p_LA_answers s x1) : AW l g m_LA_answers 263 ad0 (am_oC (f_LA_answers s x1)) 0 0 263 s 0 [(0, .ref 0), (1, .int x1), (2, .ref 262)] [] := by
  refine am_aload_n (j := 2) d_LA_answers_0 rfl rfl ?_
  refine am_iconst (v := (0 : Int32)) d_LA_answers_1 (by decide) ?_
  refine am_aload_n (j := 0) d_LA_answers_2 rfl rfl ?_
  refine am_iload_n (j := 1) d_LA_answers_3 rfl rfl ?_
  obtain ⟨hc, h⟩ := h
  obtain ⟨hz, h⟩ := h
  refine am_caseN (F := am_oC) (q := (f_CB_answers s x1).1) (c := 0) (fun c0 => ?_) (fun c0 => ?_)
  · have h := h.1 c0
    refine ak_EH (as := [.int x1]) (rest := [.int (0 : Int32), .ref 262]) d_LA_answers_4 cw_LA_answers_4 rfl (ct_CB_answers hg hc) rfl rfl (by decide) sh_0 rfl (Nat.le_of_ble_eq_true rfl) (by decide) (by decide) (fun n => absurd c0 n) (fun _ => ?_)
    refine am_i2l d_LA_answers_7 ?_
    obtain ⟨hv, h⟩ := h
    refine am_last (y := (f_CB_answers s x1).2.1) d_LA_answers_8 (by decide) sh_262 hv ?_
    refine am_goto (tgt := 15) d_LA_answers_9 (by decide) ?_
    refine am_iconst (v := (0 : Int32)) d_LA_answers_15 (by decide) ?_
    exact am_iret d_LA_answers_16 rfl rfl (by decide) (by decide) am_oC_ok
  · have h := h.2 c0
    have c1 : (f_CB_answers s x1).1 = 1 := by rcases hz with z | z <;> first | exact z | exact absurd z c0
    refine ak_EH (as := [.int x1]) (rest := [.int (0 : Int32), .ref 262]) d_LA_answers_4 cw_LA_answers_4 rfl (ct_CB_answers hg hc) rfl rfl (by decide) sh_0 rfl (Nat.le_of_ble_eq_true rfl) (by decide) (by decide) (fun _ => ⟨12, by rw [c1]; exact hd_LA_answers_1, fun q9 => ?_⟩) (fun n => absurd n c0)
    refine am_astoreS_n (lv2 := [(3, .retAddr q9), (0, .ref 0), (1, .int x1), (2, .ref 262)]) d_LA_answers_12 rfl (by decide) rfl ?_
    refine am_iconst (v := (1 : Int32)) d_LA_answers_13 (by decide) ?_
    exact am_iret d_LA_answers_14 rfl rfl (by decide) (by decide) am_oC_ok
theorem ct_LA_answers {l : Launch} {g : am_Gl} (hg : g.2.2.2.1 = true) {s : am_M} {x1 : Int32} (h : p_LA_answers s x1) : AC l g m_LA_answers 263 s [.ref 0, .int x1, .ref 262] (am_oC (f_LA_answers s x1)) := am_enterH ok_LA_answers rfl rfl (Nat.le_of_ble_eq_true rfl) rfl (fun ad0 => w_LA_answers hg h)
theorem cw_LA_ask_5 : am_cv m_LA_ask m_CB_ask 102 2 := ⟨⟨ok_CB_ask, rfl, by decide +kernel, by decide, by decide⟩, aw_4_149, aw_4_150, aw_4_151⟩
theorem hd_LA_ask_1 : am_hd m_LA_ask 5 (am_exn 1) 13 := ⟨[], ⟨0, 10, 13, 19⟩, [⟨0, 10, 17, 21⟩, ⟨0, 10, 21, 13⟩], rfl, by decide, rfl, by decide, aw_2_106, by decide +kernel, fun z h => absurd h List.not_mem_nil⟩
theorem hd_LA_ask_2 : am_hd m_LA_ask 5 (am_exn 2) 17 := ⟨[⟨0, 10, 13, 19⟩], ⟨0, 10, 17, 21⟩, [⟨0, 10, 21, 13⟩], rfl, by decide, rfl, by decide, aw_2_107, by decide +kernel, List.forall_mem_cons.mpr ⟨Or.inr ⟨by decide, "java/lang/IndexOutOfBoundsException", aw_2_106, by decide⟩, fun z h => absurd h List.not_mem_nil⟩⟩
theorem hd_LA_ask_3 : am_hd m_LA_ask 5 (am_exn 3) 21 := ⟨[⟨0, 10, 13, 19⟩, ⟨0, 10, 17, 21⟩], ⟨0, 10, 21, 13⟩, [], rfl, by decide, rfl, by decide, aw_2_31, by decide +kernel, List.forall_mem_cons.mpr ⟨Or.inr ⟨by decide, "java/lang/IndexOutOfBoundsException", aw_2_106, by decide⟩, List.forall_mem_cons.mpr ⟨Or.inr ⟨by decide, "java/lang/IllegalArgumentException", aw_2_107, by decide⟩, fun z h => absurd h List.not_mem_nil⟩⟩⟩
def f_LA_ask  (s : am_M) (x1 : Int32) (x2 : Int32) : Int32 × am_M := (if (f_CB_ask s x1 x2).1 = 0 then ((0 : Int32), (am_set (f_CB_ask s x1 x2).2.2 262 ((0 : Int32)).toNatClampNeg (f_CB_ask s x1 x2).2.1)) else (if (f_CB_ask s x1 x2).1 = 1 then ((1 : Int32), (f_CB_ask s x1 x2).2.2) else (if (f_CB_ask s x1 x2).1 = 2 then ((2 : Int32), (f_CB_ask s x1 x2).2.2) else ((3 : Int32), (f_CB_ask s x1 x2).2.2))))
def p_LA_ask  (s : am_M) (x1 : Int32) (x2 : Int32) : Prop := p_CB_ask s x1 x2 ∧ (((f_CB_ask s x1 x2).1 = 0 ∨ (f_CB_ask s x1 x2).1 = 1 ∨ (f_CB_ask s x1 x2).1 = 2 ∨ (f_CB_ask s x1 x2).1 = 3) ∧ ((((f_CB_ask s x1 x2).1 = 0) → vp_in (0 : Int32) 1 ∧ (True)) ∧ (¬ ((f_CB_ask s x1 x2).1 = 0) → (((f_CB_ask s x1 x2).1 = 1) → True) ∧ (¬ ((f_CB_ask s x1 x2).1 = 1) → (((f_CB_ask s x1 x2).1 = 2) → True) ∧ (¬ ((f_CB_ask s x1 x2).1 = 2) → True)))))
set_option maxRecDepth 8000 in
theorem w_LA_ask {l : Launch} {g : am_Gl} (hg : g.2.2.2.1 = true) {ad0 : Nat → Nat} {s : am_M} {x1 : Int32} {x2 : Int32} (h : p_LA_ask s x1 x2) : AW l g m_LA_ask 263 ad0 (am_oC (f_LA_ask s x1 x2)) 0 0 263 s 0 [(0, .ref 0), (1, .int x1), (2, .int x2), (3, .ref 262)] [] := by
  refine am_aload_n (j := 3) d_LA_ask_0 rfl rfl ?_
  refine am_iconst (v := (0 : Int32)) d_LA_ask_1 (by decide) ?_
  refine am_aload_n (j := 0) d_LA_ask_2 rfl rfl ?_
  refine am_iload_n (j := 1) d_LA_ask_3 rfl rfl ?_
  refine am_iload_n (j := 2) d_LA_ask_4 rfl rfl ?_
  obtain ⟨hc, h⟩ := h
  obtain ⟨hz, h⟩ := h
  refine am_caseN (F := am_oC) (q := (f_CB_ask s x1 x2).1) (c := 0) (fun c0 => ?_) (fun c0 => ?_)
  · have h := h.1 c0
    refine ak_EH (as := [.int x1, .int x2]) (rest := [.int (0 : Int32), .ref 262]) d_LA_ask_5 cw_LA_ask_5 rfl (ct_CB_ask hg hc) rfl rfl (by decide) sh_0 rfl (Nat.le_of_ble_eq_true rfl) (by decide) (by decide) (fun n => absurd c0 n) (fun _ => ?_)
    refine am_i2l d_LA_ask_8 ?_
    obtain ⟨hv, h⟩ := h
    refine am_last (y := (f_CB_ask s x1 x2).2.1) d_LA_ask_9 (by decide) sh_262 hv ?_
    refine am_goto (tgt := 25) d_LA_ask_10 (by decide) ?_
    refine am_iconst (v := (0 : Int32)) d_LA_ask_25 (by decide) ?_
    exact am_iret d_LA_ask_26 rfl rfl (by decide) (by decide) am_oC_ok
  · have h := h.2 c0
    refine am_caseN (F := am_oC) (q := (f_CB_ask s x1 x2).1) (c := 1) (fun c1 => ?_) (fun c1 => ?_)
    · have h := h.1 c1
      refine ak_EH (as := [.int x1, .int x2]) (rest := [.int (0 : Int32), .ref 262]) d_LA_ask_5 cw_LA_ask_5 rfl (ct_CB_ask hg hc) rfl rfl (by decide) sh_0 rfl (Nat.le_of_ble_eq_true rfl) (by decide) (by decide) (fun _ => ⟨13, by rw [c1]; exact hd_LA_ask_1, fun q9 => ?_⟩) (fun n => absurd n c0)
      refine am_astoreS (lv2 := [(4, .retAddr q9), (0, .ref 0), (1, .int x1), (2, .int x2), (3, .ref 262)]) d_LA_ask_13 (by decide) rfl ?_
      refine am_iconst (v := (1 : Int32)) d_LA_ask_15 (by decide) ?_
      exact am_iret d_LA_ask_16 rfl rfl (by decide) (by decide) am_oC_ok
    · have h := h.2 c1
      refine am_caseN (F := am_oC) (q := (f_CB_ask s x1 x2).1) (c := 2) (fun c2 => ?_) (fun c2 => ?_)
      · have h := h.1 c2
        refine ak_EH (as := [.int x1, .int x2]) (rest := [.int (0 : Int32), .ref 262]) d_LA_ask_5 cw_LA_ask_5 rfl (ct_CB_ask hg hc) rfl rfl (by decide) sh_0 rfl (Nat.le_of_ble_eq_true rfl) (by decide) (by decide) (fun _ => ⟨17, by rw [c2]; exact hd_LA_ask_2, fun q9 => ?_⟩) (fun n => absurd n c0)
        refine am_astoreS (lv2 := [(4, .retAddr q9), (0, .ref 0), (1, .int x1), (2, .int x2), (3, .ref 262)]) d_LA_ask_17 (by decide) rfl ?_
        refine am_iconst (v := (2 : Int32)) d_LA_ask_19 (by decide) ?_
        exact am_iret d_LA_ask_20 rfl rfl (by decide) (by decide) am_oC_ok
      · have h := h.2 c2
        have c3 : (f_CB_ask s x1 x2).1 = 3 := by rcases hz with z | z | z | z <;> first | exact z | exact absurd z c0 | exact absurd z c1 | exact absurd z c2
        refine ak_EH (as := [.int x1, .int x2]) (rest := [.int (0 : Int32), .ref 262]) d_LA_ask_5 cw_LA_ask_5 rfl (ct_CB_ask hg hc) rfl rfl (by decide) sh_0 rfl (Nat.le_of_ble_eq_true rfl) (by decide) (by decide) (fun _ => ⟨21, by rw [c3]; exact hd_LA_ask_3, fun q9 => ?_⟩) (fun n => absurd n c0)
        refine am_astoreS (lv2 := [(4, .retAddr q9), (0, .ref 0), (1, .int x1), (2, .int x2), (3, .ref 262)]) d_LA_ask_21 (by decide) rfl ?_
        refine am_iconst (v := (3 : Int32)) d_LA_ask_23 (by decide) ?_
        exact am_iret d_LA_ask_24 rfl rfl (by decide) (by decide) am_oC_ok
theorem ct_LA_ask {l : Launch} {g : am_Gl} (hg : g.2.2.2.1 = true) {s : am_M} {x1 : Int32} {x2 : Int32} (h : p_LA_ask s x1 x2) : AC l g m_LA_ask 263 s [.ref 0, .int x1, .int x2, .ref 262] (am_oC (f_LA_ask s x1 x2)) := am_enterH ok_LA_ask rfl rfl (Nat.le_of_ble_eq_true rfl) rfl (fun ad0 => w_LA_ask hg h)
theorem cw_LA_askCross_9 : am_cv m_LA_askCross m_CB_askCross 111 4 := ⟨⟨ok_CB_askCross, rfl, by decide +kernel, by decide, by decide⟩, aw_5_74, aw_5_75, aw_5_76⟩
theorem hd_LA_askCross_1 : am_hd m_LA_askCross 9 (am_exn 1) 17 := ⟨[], ⟨0, 14, 17, 19⟩, [⟨0, 14, 21, 21⟩, ⟨0, 14, 25, 13⟩], rfl, by decide, rfl, by decide, aw_2_106, by decide +kernel, fun z h => absurd h List.not_mem_nil⟩
theorem hd_LA_askCross_2 : am_hd m_LA_askCross 9 (am_exn 2) 21 := ⟨[⟨0, 14, 17, 19⟩], ⟨0, 14, 21, 21⟩, [⟨0, 14, 25, 13⟩], rfl, by decide, rfl, by decide, aw_2_107, by decide +kernel, List.forall_mem_cons.mpr ⟨Or.inr ⟨by decide, "java/lang/IndexOutOfBoundsException", aw_2_106, by decide⟩, fun z h => absurd h List.not_mem_nil⟩⟩
theorem hd_LA_askCross_3 : am_hd m_LA_askCross 9 (am_exn 3) 25 := ⟨[⟨0, 14, 17, 19⟩, ⟨0, 14, 21, 21⟩], ⟨0, 14, 25, 13⟩, [], rfl, by decide, rfl, by decide, aw_2_31, by decide +kernel, List.forall_mem_cons.mpr ⟨Or.inr ⟨by decide, "java/lang/IndexOutOfBoundsException", aw_2_106, by decide⟩, List.forall_mem_cons.mpr ⟨Or.inr ⟨by decide, "java/lang/IllegalArgumentException", aw_2_107, by decide⟩, fun z h => absurd h List.not_mem_nil⟩⟩⟩
def f_LA_askCross  (s : am_M) (x1 : Int32) (x2 : Int32) (x3 : Int32) (x4 : Int32) : Int32 × am_M := (if (f_CB_askCross s x1 x2 x3 x4).1 = 0 then ((0 : Int32), (am_set (f_CB_askCross s x1 x2 x3 x4).2.2 262 ((0 : Int32)).toNatClampNeg (f_CB_askCross s x1 x2 x3 x4).2.1)) else (if (f_CB_askCross s x1 x2 x3 x4).1 = 1 then ((1 : Int32), (f_CB_askCross s x1 x2 x3 x4).2.2) else (if (f_CB_askCross s x1 x2 x3 x4).1 = 2 then ((2 : Int32), (f_CB_askCross s x1 x2 x3 x4).2.2) else ((3 : Int32), (f_CB_askCross s x1 x2 x3 x4).2.2))))
def p_LA_askCross  (s : am_M) (x1 : Int32) (x2 : Int32) (x3 : Int32) (x4 : Int32) : Prop := p_CB_askCross s x1 x2 x3 x4 ∧ (((f_CB_askCross s x1 x2 x3 x4).1 = 0 ∨ (f_CB_askCross s x1 x2 x3 x4).1 = 1 ∨ (f_CB_askCross s x1 x2 x3 x4).1 = 2 ∨ (f_CB_askCross s x1 x2 x3 x4).1 = 3) ∧ ((((f_CB_askCross s x1 x2 x3 x4).1 = 0) → vp_in (0 : Int32) 1 ∧ (True)) ∧ (¬ ((f_CB_askCross s x1 x2 x3 x4).1 = 0) → (((f_CB_askCross s x1 x2 x3 x4).1 = 1) → True) ∧ (¬ ((f_CB_askCross s x1 x2 x3 x4).1 = 1) → (((f_CB_askCross s x1 x2 x3 x4).1 = 2) → True) ∧ (¬ ((f_CB_askCross s x1 x2 x3 x4).1 = 2) → True)))))
set_option maxRecDepth 8000 in
theorem w_LA_askCross {l : Launch} {g : am_Gl} (hg : g.2.2.2.1 = true) {ad0 : Nat → Nat} {s : am_M} {x1 : Int32} {x2 : Int32} {x3 : Int32} {x4 : Int32} (h : p_LA_askCross s x1 x2 x3 x4) : AW l g m_LA_askCross 263 ad0 (am_oC (f_LA_askCross s x1 x2 x3 x4)) 0 0 263 s 0 [(0, .ref 0), (1, .int x1), (2, .int x2), (3, .int x3), (4, .int x4), (5, .ref 262)] [] := by
  refine am_aload (j := 5) d_LA_askCross_0 rfl ?_
  refine am_iconst (v := (0 : Int32)) d_LA_askCross_2 (by decide) ?_
  refine am_aload_n (j := 0) d_LA_askCross_3 rfl rfl ?_
  refine am_iload_n (j := 1) d_LA_askCross_4 rfl rfl ?_
  refine am_iload_n (j := 2) d_LA_askCross_5 rfl rfl ?_
  refine am_iload_n (j := 3) d_LA_askCross_6 rfl rfl ?_
  refine am_iload (j := 4) d_LA_askCross_7 rfl ?_
  obtain ⟨hc, h⟩ := h
  obtain ⟨hz, h⟩ := h
  refine am_caseN (F := am_oC) (q := (f_CB_askCross s x1 x2 x3 x4).1) (c := 0) (fun c0 => ?_) (fun c0 => ?_)
  · have h := h.1 c0
    refine ak_EH (as := [.int x1, .int x2, .int x3, .int x4]) (rest := [.int (0 : Int32), .ref 262]) d_LA_askCross_9 cw_LA_askCross_9 rfl (ct_CB_askCross hg hc) rfl rfl (by decide) sh_0 rfl (Nat.le_of_ble_eq_true rfl) (by decide) (by decide) (fun n => absurd c0 n) (fun _ => ?_)
    refine am_i2l d_LA_askCross_12 ?_
    obtain ⟨hv, h⟩ := h
    refine am_last (y := (f_CB_askCross s x1 x2 x3 x4).2.1) d_LA_askCross_13 (by decide) sh_262 hv ?_
    refine am_goto (tgt := 29) d_LA_askCross_14 (by decide) ?_
    refine am_iconst (v := (0 : Int32)) d_LA_askCross_29 (by decide) ?_
    exact am_iret d_LA_askCross_30 rfl rfl (by decide) (by decide) am_oC_ok
  · have h := h.2 c0
    refine am_caseN (F := am_oC) (q := (f_CB_askCross s x1 x2 x3 x4).1) (c := 1) (fun c1 => ?_) (fun c1 => ?_)
    · have h := h.1 c1
      refine ak_EH (as := [.int x1, .int x2, .int x3, .int x4]) (rest := [.int (0 : Int32), .ref 262]) d_LA_askCross_9 cw_LA_askCross_9 rfl (ct_CB_askCross hg hc) rfl rfl (by decide) sh_0 rfl (Nat.le_of_ble_eq_true rfl) (by decide) (by decide) (fun _ => ⟨17, by rw [c1]; exact hd_LA_askCross_1, fun q9 => ?_⟩) (fun n => absurd n c0)
      refine am_astoreS (lv2 := [(6, .retAddr q9), (0, .ref 0), (1, .int x1), (2, .int x2), (3, .int x3), (4, .int x4), (5, .ref 262)]) d_LA_askCross_17 (by decide) rfl ?_
      refine am_iconst (v := (1 : Int32)) d_LA_askCross_19 (by decide) ?_
      exact am_iret d_LA_askCross_20 rfl rfl (by decide) (by decide) am_oC_ok
    · have h := h.2 c1
      refine am_caseN (F := am_oC) (q := (f_CB_askCross s x1 x2 x3 x4).1) (c := 2) (fun c2 => ?_) (fun c2 => ?_)
      · have h := h.1 c2
        refine ak_EH (as := [.int x1, .int x2, .int x3, .int x4]) (rest := [.int (0 : Int32), .ref 262]) d_LA_askCross_9 cw_LA_askCross_9 rfl (ct_CB_askCross hg hc) rfl rfl (by decide) sh_0 rfl (Nat.le_of_ble_eq_true rfl) (by decide) (by decide) (fun _ => ⟨21, by rw [c2]; exact hd_LA_askCross_2, fun q9 => ?_⟩) (fun n => absurd n c0)
        refine am_astoreS (lv2 := [(6, .retAddr q9), (0, .ref 0), (1, .int x1), (2, .int x2), (3, .int x3), (4, .int x4), (5, .ref 262)]) d_LA_askCross_21 (by decide) rfl ?_
        refine am_iconst (v := (2 : Int32)) d_LA_askCross_23 (by decide) ?_
        exact am_iret d_LA_askCross_24 rfl rfl (by decide) (by decide) am_oC_ok
      · have h := h.2 c2
        have c3 : (f_CB_askCross s x1 x2 x3 x4).1 = 3 := by rcases hz with z | z | z | z <;> first | exact z | exact absurd z c0 | exact absurd z c1 | exact absurd z c2
        refine ak_EH (as := [.int x1, .int x2, .int x3, .int x4]) (rest := [.int (0 : Int32), .ref 262]) d_LA_askCross_9 cw_LA_askCross_9 rfl (ct_CB_askCross hg hc) rfl rfl (by decide) sh_0 rfl (Nat.le_of_ble_eq_true rfl) (by decide) (by decide) (fun _ => ⟨25, by rw [c3]; exact hd_LA_askCross_3, fun q9 => ?_⟩) (fun n => absurd n c0)
        refine am_astoreS (lv2 := [(6, .retAddr q9), (0, .ref 0), (1, .int x1), (2, .int x2), (3, .int x3), (4, .int x4), (5, .ref 262)]) d_LA_askCross_25 (by decide) rfl ?_
        refine am_iconst (v := (3 : Int32)) d_LA_askCross_27 (by decide) ?_
        exact am_iret d_LA_askCross_28 rfl rfl (by decide) (by decide) am_oC_ok
theorem ct_LA_askCross {l : Launch} {g : am_Gl} (hg : g.2.2.2.1 = true) {s : am_M} {x1 : Int32} {x2 : Int32} {x3 : Int32} {x4 : Int32} (h : p_LA_askCross s x1 x2 x3 x4) : AC l g m_LA_askCross 263 s [.ref 0, .int x1, .int x2, .int x3, .int x4, .ref 262] (am_oC (f_LA_askCross s x1 x2 x3 x4)) := am_enterH ok_LA_askCross rfl rfl (Nat.le_of_ble_eq_true rfl) rfl (fun ad0 => w_LA_askCross hg h)
theorem cw_LA_askGroups_7 : am_cv m_LA_askGroups m_CB_askGroups 108 3 := ⟨⟨ok_CB_askGroups, rfl, by decide +kernel, by decide, by decide⟩, aw_5_63, aw_5_64, aw_5_65⟩
theorem hd_LA_askGroups_1 : am_hd m_LA_askGroups 7 (am_exn 1) 15 := ⟨[], ⟨0, 12, 15, 19⟩, [⟨0, 12, 19, 21⟩, ⟨0, 12, 23, 13⟩], rfl, by decide, rfl, by decide, aw_2_106, by decide +kernel, fun z h => absurd h List.not_mem_nil⟩
theorem hd_LA_askGroups_2 : am_hd m_LA_askGroups 7 (am_exn 2) 19 := ⟨[⟨0, 12, 15, 19⟩], ⟨0, 12, 19, 21⟩, [⟨0, 12, 23, 13⟩], rfl, by decide, rfl, by decide, aw_2_107, by decide +kernel, List.forall_mem_cons.mpr ⟨Or.inr ⟨by decide, "java/lang/IndexOutOfBoundsException", aw_2_106, by decide⟩, fun z h => absurd h List.not_mem_nil⟩⟩
theorem hd_LA_askGroups_3 : am_hd m_LA_askGroups 7 (am_exn 3) 23 := ⟨[⟨0, 12, 15, 19⟩, ⟨0, 12, 19, 21⟩], ⟨0, 12, 23, 13⟩, [], rfl, by decide, rfl, by decide, aw_2_31, by decide +kernel, List.forall_mem_cons.mpr ⟨Or.inr ⟨by decide, "java/lang/IndexOutOfBoundsException", aw_2_106, by decide⟩, List.forall_mem_cons.mpr ⟨Or.inr ⟨by decide, "java/lang/IllegalArgumentException", aw_2_107, by decide⟩, fun z h => absurd h List.not_mem_nil⟩⟩⟩
def f_LA_askGroups  (s : am_M) (x1 : Int32) (x2 : Int32) (x3 : Int32) : Int32 × am_M := (if (f_CB_askGroups s x1 x2 x3).1 = 0 then ((0 : Int32), (am_set (f_CB_askGroups s x1 x2 x3).2.2 262 ((0 : Int32)).toNatClampNeg (f_CB_askGroups s x1 x2 x3).2.1)) else (if (f_CB_askGroups s x1 x2 x3).1 = 1 then ((1 : Int32), (f_CB_askGroups s x1 x2 x3).2.2) else (if (f_CB_askGroups s x1 x2 x3).1 = 2 then ((2 : Int32), (f_CB_askGroups s x1 x2 x3).2.2) else ((3 : Int32), (f_CB_askGroups s x1 x2 x3).2.2))))
def p_LA_askGroups  (s : am_M) (x1 : Int32) (x2 : Int32) (x3 : Int32) : Prop := p_CB_askGroups s x1 x2 x3 ∧ (((f_CB_askGroups s x1 x2 x3).1 = 0 ∨ (f_CB_askGroups s x1 x2 x3).1 = 1 ∨ (f_CB_askGroups s x1 x2 x3).1 = 2 ∨ (f_CB_askGroups s x1 x2 x3).1 = 3) ∧ ((((f_CB_askGroups s x1 x2 x3).1 = 0) → vp_in (0 : Int32) 1 ∧ (True)) ∧ (¬ ((f_CB_askGroups s x1 x2 x3).1 = 0) → (((f_CB_askGroups s x1 x2 x3).1 = 1) → True) ∧ (¬ ((f_CB_askGroups s x1 x2 x3).1 = 1) → (((f_CB_askGroups s x1 x2 x3).1 = 2) → True) ∧ (¬ ((f_CB_askGroups s x1 x2 x3).1 = 2) → True)))))
set_option maxRecDepth 8000 in
theorem w_LA_askGroups {l : Launch} {g : am_Gl} (hg : g.2.2.2.1 = true) {ad0 : Nat → Nat} {s : am_M} {x1 : Int32} {x2 : Int32} {x3 : Int32} (h : p_LA_askGroups s x1 x2 x3) : AW l g m_LA_askGroups 263 ad0 (am_oC (f_LA_askGroups s x1 x2 x3)) 0 0 263 s 0 [(0, .ref 0), (1, .int x1), (2, .int x2), (3, .int x3), (4, .ref 262)] [] := by
  refine am_aload (j := 4) d_LA_askGroups_0 rfl ?_
  refine am_iconst (v := (0 : Int32)) d_LA_askGroups_2 (by decide) ?_
  refine am_aload_n (j := 0) d_LA_askGroups_3 rfl rfl ?_
  refine am_iload_n (j := 1) d_LA_askGroups_4 rfl rfl ?_
  refine am_iload_n (j := 2) d_LA_askGroups_5 rfl rfl ?_
  refine am_iload_n (j := 3) d_LA_askGroups_6 rfl rfl ?_
  obtain ⟨hc, h⟩ := h
  obtain ⟨hz, h⟩ := h
  refine am_caseN (F := am_oC) (q := (f_CB_askGroups s x1 x2 x3).1) (c := 0) (fun c0 => ?_) (fun c0 => ?_)
  · have h := h.1 c0
    refine ak_EH (as := [.int x1, .int x2, .int x3]) (rest := [.int (0 : Int32), .ref 262]) d_LA_askGroups_7 cw_LA_askGroups_7 rfl (ct_CB_askGroups hg hc) rfl rfl (by decide) sh_0 rfl (Nat.le_of_ble_eq_true rfl) (by decide) (by decide) (fun n => absurd c0 n) (fun _ => ?_)
    refine am_i2l d_LA_askGroups_10 ?_
    obtain ⟨hv, h⟩ := h
    refine am_last (y := (f_CB_askGroups s x1 x2 x3).2.1) d_LA_askGroups_11 (by decide) sh_262 hv ?_
    refine am_goto (tgt := 27) d_LA_askGroups_12 (by decide) ?_
    refine am_iconst (v := (0 : Int32)) d_LA_askGroups_27 (by decide) ?_
    exact am_iret d_LA_askGroups_28 rfl rfl (by decide) (by decide) am_oC_ok
  · have h := h.2 c0
    refine am_caseN (F := am_oC) (q := (f_CB_askGroups s x1 x2 x3).1) (c := 1) (fun c1 => ?_) (fun c1 => ?_)
    · have h := h.1 c1
      refine ak_EH (as := [.int x1, .int x2, .int x3]) (rest := [.int (0 : Int32), .ref 262]) d_LA_askGroups_7 cw_LA_askGroups_7 rfl (ct_CB_askGroups hg hc) rfl rfl (by decide) sh_0 rfl (Nat.le_of_ble_eq_true rfl) (by decide) (by decide) (fun _ => ⟨15, by rw [c1]; exact hd_LA_askGroups_1, fun q9 => ?_⟩) (fun n => absurd n c0)
      refine am_astoreS (lv2 := [(5, .retAddr q9), (0, .ref 0), (1, .int x1), (2, .int x2), (3, .int x3), (4, .ref 262)]) d_LA_askGroups_15 (by decide) rfl ?_
      refine am_iconst (v := (1 : Int32)) d_LA_askGroups_17 (by decide) ?_
      exact am_iret d_LA_askGroups_18 rfl rfl (by decide) (by decide) am_oC_ok
    · have h := h.2 c1
      refine am_caseN (F := am_oC) (q := (f_CB_askGroups s x1 x2 x3).1) (c := 2) (fun c2 => ?_) (fun c2 => ?_)
      · have h := h.1 c2
        refine ak_EH (as := [.int x1, .int x2, .int x3]) (rest := [.int (0 : Int32), .ref 262]) d_LA_askGroups_7 cw_LA_askGroups_7 rfl (ct_CB_askGroups hg hc) rfl rfl (by decide) sh_0 rfl (Nat.le_of_ble_eq_true rfl) (by decide) (by decide) (fun _ => ⟨19, by rw [c2]; exact hd_LA_askGroups_2, fun q9 => ?_⟩) (fun n => absurd n c0)
        refine am_astoreS (lv2 := [(5, .retAddr q9), (0, .ref 0), (1, .int x1), (2, .int x2), (3, .int x3), (4, .ref 262)]) d_LA_askGroups_19 (by decide) rfl ?_
        refine am_iconst (v := (2 : Int32)) d_LA_askGroups_21 (by decide) ?_
        exact am_iret d_LA_askGroups_22 rfl rfl (by decide) (by decide) am_oC_ok
      · have h := h.2 c2
        have c3 : (f_CB_askGroups s x1 x2 x3).1 = 3 := by rcases hz with z | z | z | z <;> first | exact z | exact absurd z c0 | exact absurd z c1 | exact absurd z c2
        refine ak_EH (as := [.int x1, .int x2, .int x3]) (rest := [.int (0 : Int32), .ref 262]) d_LA_askGroups_7 cw_LA_askGroups_7 rfl (ct_CB_askGroups hg hc) rfl rfl (by decide) sh_0 rfl (Nat.le_of_ble_eq_true rfl) (by decide) (by decide) (fun _ => ⟨23, by rw [c3]; exact hd_LA_askGroups_3, fun q9 => ?_⟩) (fun n => absurd n c0)
        refine am_astoreS (lv2 := [(5, .retAddr q9), (0, .ref 0), (1, .int x1), (2, .int x2), (3, .int x3), (4, .ref 262)]) d_LA_askGroups_23 (by decide) rfl ?_
        refine am_iconst (v := (3 : Int32)) d_LA_askGroups_25 (by decide) ?_
        exact am_iret d_LA_askGroups_26 rfl rfl (by decide) (by decide) am_oC_ok
theorem ct_LA_askGroups {l : Launch} {g : am_Gl} (hg : g.2.2.2.1 = true) {s : am_M} {x1 : Int32} {x2 : Int32} {x3 : Int32} (h : p_LA_askGroups s x1 x2 x3) : AC l g m_LA_askGroups 263 s [.ref 0, .int x1, .int x2, .int x3, .ref 262] (am_oC (f_LA_askGroups s x1 x2 x3)) := am_enterH ok_LA_askGroups rfl rfl (Nat.le_of_ble_eq_true rfl) rfl (fun ad0 => w_LA_askGroups hg h)
theorem cw_LA_cell_7 : am_cv m_LA_cell m_CB_cell 93 3 := ⟨⟨ok_CB_cell, rfl, by decide +kernel, by decide, by decide⟩, aw_4_126, aw_4_127, aw_4_128⟩
theorem hd_LA_cell_1 : am_hd m_LA_cell 7 (am_exn 1) 15 := ⟨[], ⟨0, 12, 15, 19⟩, [], rfl, by decide, rfl, by decide, aw_2_106, by decide +kernel, fun z h => absurd h List.not_mem_nil⟩
def f_LA_cell  (s : am_M) (x1 : Int32) (x2 : Int32) (x3 : Int32) : Int32 × am_M := (if (f_CB_cell s x1 x2 x3).1 = 0 then ((0 : Int32), (am_set (f_CB_cell s x1 x2 x3).2.2 262 ((0 : Int32)).toNatClampNeg (f_CB_cell s x1 x2 x3).2.1)) else ((1 : Int32), (f_CB_cell s x1 x2 x3).2.2))
def p_LA_cell  (s : am_M) (x1 : Int32) (x2 : Int32) (x3 : Int32) : Prop := p_CB_cell s x1 x2 x3 ∧ (((f_CB_cell s x1 x2 x3).1 = 0 ∨ (f_CB_cell s x1 x2 x3).1 = 1) ∧ ((((f_CB_cell s x1 x2 x3).1 = 0) → vp_in (0 : Int32) 1 ∧ (True)) ∧ (¬ ((f_CB_cell s x1 x2 x3).1 = 0) → True)))
set_option maxRecDepth 8000 in
theorem w_LA_cell {l : Launch} {g : am_Gl} (hg : g.2.2.2.1 = true) {ad0 : Nat → Nat} {s : am_M} {x1 : Int32} {x2 : Int32} {x3 : Int32} (h : p_LA_cell s x1 x2 x3) : AW l g m_LA_cell 263 ad0 (am_oC (f_LA_cell s x1 x2 x3)) 0 0 263 s 0 [(0, .ref 0), (1, .int x1), (2, .int x2), (3, .int x3), (4, .ref 262)] [] := by
  refine am_aload (j := 4) d_LA_cell_0 rfl ?_
  refine am_iconst (v := (0 : Int32)) d_LA_cell_2 (by decide) ?_
  refine am_aload_n (j := 0) d_LA_cell_3 rfl rfl ?_
  refine am_iload_n (j := 1) d_LA_cell_4 rfl rfl ?_
  refine am_iload_n (j := 2) d_LA_cell_5 rfl rfl ?_
  refine am_iload_n (j := 3) d_LA_cell_6 rfl rfl ?_
  obtain ⟨hc, h⟩ := h
  obtain ⟨hz, h⟩ := h
  refine am_caseN (F := am_oC) (q := (f_CB_cell s x1 x2 x3).1) (c := 0) (fun c0 => ?_) (fun c0 => ?_)
  · have h := h.1 c0
    refine ak_EH (as := [.int x1, .int x2, .int x3]) (rest := [.int (0 : Int32), .ref 262]) d_LA_cell_7 cw_LA_cell_7 rfl (ct_CB_cell hg hc) rfl rfl (by decide) sh_0 rfl (Nat.le_of_ble_eq_true rfl) (by decide) (by decide) (fun n => absurd c0 n) (fun _ => ?_)
    refine am_i2l d_LA_cell_10 ?_
    obtain ⟨hv, h⟩ := h
    refine am_last (y := (f_CB_cell s x1 x2 x3).2.1) d_LA_cell_11 (by decide) sh_262 hv ?_
    refine am_goto (tgt := 19) d_LA_cell_12 (by decide) ?_
    refine am_iconst (v := (0 : Int32)) d_LA_cell_19 (by decide) ?_
    exact am_iret d_LA_cell_20 rfl rfl (by decide) (by decide) am_oC_ok
  · have h := h.2 c0
    have c1 : (f_CB_cell s x1 x2 x3).1 = 1 := by rcases hz with z | z <;> first | exact z | exact absurd z c0
    refine ak_EH (as := [.int x1, .int x2, .int x3]) (rest := [.int (0 : Int32), .ref 262]) d_LA_cell_7 cw_LA_cell_7 rfl (ct_CB_cell hg hc) rfl rfl (by decide) sh_0 rfl (Nat.le_of_ble_eq_true rfl) (by decide) (by decide) (fun _ => ⟨15, by rw [c1]; exact hd_LA_cell_1, fun q9 => ?_⟩) (fun n => absurd n c0)
    refine am_astoreS (lv2 := [(5, .retAddr q9), (0, .ref 0), (1, .int x1), (2, .int x2), (3, .int x3), (4, .ref 262)]) d_LA_cell_15 (by decide) rfl ?_
    refine am_iconst (v := (1 : Int32)) d_LA_cell_17 (by decide) ?_
    exact am_iret d_LA_cell_18 rfl rfl (by decide) (by decide) am_oC_ok
theorem ct_LA_cell {l : Launch} {g : am_Gl} (hg : g.2.2.2.1 = true) {s : am_M} {x1 : Int32} {x2 : Int32} {x3 : Int32} (h : p_LA_cell s x1 x2 x3) : AC l g m_LA_cell 263 s [.ref 0, .int x1, .int x2, .int x3, .ref 262] (am_oC (f_LA_cell s x1 x2 x3)) := am_enterH ok_LA_cell rfl rfl (Nat.le_of_ble_eq_true rfl) rfl (fun ad0 => w_LA_cell hg h)
theorem cw_LA_choice_9 : am_cv m_LA_choice m_CB_choice 90 4 := ⟨⟨ok_CB_choice, rfl, by decide +kernel, by decide, by decide⟩, aw_4_114, aw_4_115, aw_4_116⟩
theorem hd_LA_choice_1 : am_hd m_LA_choice 9 (am_exn 1) 17 := ⟨[], ⟨0, 14, 17, 19⟩, [⟨0, 14, 21, 21⟩], rfl, by decide, rfl, by decide, aw_2_106, by decide +kernel, fun z h => absurd h List.not_mem_nil⟩
theorem hd_LA_choice_2 : am_hd m_LA_choice 9 (am_exn 2) 21 := ⟨[⟨0, 14, 17, 19⟩], ⟨0, 14, 21, 21⟩, [], rfl, by decide, rfl, by decide, aw_2_107, by decide +kernel, List.forall_mem_cons.mpr ⟨Or.inr ⟨by decide, "java/lang/IndexOutOfBoundsException", aw_2_106, by decide⟩, fun z h => absurd h List.not_mem_nil⟩⟩
def f_LA_choice  (s : am_M) (x1 : Int32) (x2 : Int32) (x3 : Int32) (x4 : Int32) : Int32 × am_M := (if (f_CB_choice s x1 x2 x3 x4).1 = 0 then ((0 : Int32), (am_set (f_CB_choice s x1 x2 x3 x4).2.2 262 ((0 : Int32)).toNatClampNeg (f_CB_choice s x1 x2 x3 x4).2.1)) else (if (f_CB_choice s x1 x2 x3 x4).1 = 1 then ((1 : Int32), (f_CB_choice s x1 x2 x3 x4).2.2) else ((2 : Int32), (f_CB_choice s x1 x2 x3 x4).2.2)))
def p_LA_choice  (s : am_M) (x1 : Int32) (x2 : Int32) (x3 : Int32) (x4 : Int32) : Prop := p_CB_choice s x1 x2 x3 x4 ∧ (((f_CB_choice s x1 x2 x3 x4).1 = 0 ∨ (f_CB_choice s x1 x2 x3 x4).1 = 1 ∨ (f_CB_choice s x1 x2 x3 x4).1 = 2) ∧ ((((f_CB_choice s x1 x2 x3 x4).1 = 0) → vp_in (0 : Int32) 1 ∧ (True)) ∧ (¬ ((f_CB_choice s x1 x2 x3 x4).1 = 0) → (((f_CB_choice s x1 x2 x3 x4).1 = 1) → True) ∧ (¬ ((f_CB_choice s x1 x2 x3 x4).1 = 1) → True))))
set_option maxRecDepth 8000 in
theorem w_LA_choice {l : Launch} {g : am_Gl} (hg : g.2.2.2.1 = true) {ad0 : Nat → Nat} {s : am_M} {x1 : Int32} {x2 : Int32} {x3 : Int32} {x4 : Int32} (h : p_LA_choice s x1 x2 x3 x4) : AW l g m_LA_choice 263 ad0 (am_oC (f_LA_choice s x1 x2 x3 x4)) 0 0 263 s 0 [(0, .ref 0), (1, .int x1), (2, .int x2), (3, .int x3), (4, .int x4), (5, .ref 262)] [] := by
  refine am_aload (j := 5) d_LA_choice_0 rfl ?_
  refine am_iconst (v := (0 : Int32)) d_LA_choice_2 (by decide) ?_
  refine am_aload_n (j := 0) d_LA_choice_3 rfl rfl ?_
  refine am_iload_n (j := 1) d_LA_choice_4 rfl rfl ?_
  refine am_iload_n (j := 2) d_LA_choice_5 rfl rfl ?_
  refine am_iload_n (j := 3) d_LA_choice_6 rfl rfl ?_
  refine am_iload (j := 4) d_LA_choice_7 rfl ?_
  obtain ⟨hc, h⟩ := h
  obtain ⟨hz, h⟩ := h
  refine am_caseN (F := am_oC) (q := (f_CB_choice s x1 x2 x3 x4).1) (c := 0) (fun c0 => ?_) (fun c0 => ?_)
  · have h := h.1 c0
    refine ak_EH (as := [.int x1, .int x2, .int x3, .int x4]) (rest := [.int (0 : Int32), .ref 262]) d_LA_choice_9 cw_LA_choice_9 rfl (ct_CB_choice hg hc) rfl rfl (by decide) sh_0 rfl (Nat.le_of_ble_eq_true rfl) (by decide) (by decide) (fun n => absurd c0 n) (fun _ => ?_)
    refine am_i2l d_LA_choice_12 ?_
    obtain ⟨hv, h⟩ := h
    refine am_last (y := (f_CB_choice s x1 x2 x3 x4).2.1) d_LA_choice_13 (by decide) sh_262 hv ?_
    refine am_goto (tgt := 25) d_LA_choice_14 (by decide) ?_
    refine am_iconst (v := (0 : Int32)) d_LA_choice_25 (by decide) ?_
    exact am_iret d_LA_choice_26 rfl rfl (by decide) (by decide) am_oC_ok
  · have h := h.2 c0
    refine am_caseN (F := am_oC) (q := (f_CB_choice s x1 x2 x3 x4).1) (c := 1) (fun c1 => ?_) (fun c1 => ?_)
    · have h := h.1 c1
      refine ak_EH (as := [.int x1, .int x2, .int x3, .int x4]) (rest := [.int (0 : Int32), .ref 262]) d_LA_choice_9 cw_LA_choice_9 rfl (ct_CB_choice hg hc) rfl rfl (by decide) sh_0 rfl (Nat.le_of_ble_eq_true rfl) (by decide) (by decide) (fun _ => ⟨17, by rw [c1]; exact hd_LA_choice_1, fun q9 => ?_⟩) (fun n => absurd n c0)
      refine am_astoreS (lv2 := [(6, .retAddr q9), (0, .ref 0), (1, .int x1), (2, .int x2), (3, .int x3), (4, .int x4), (5, .ref 262)]) d_LA_choice_17 (by decide) rfl ?_
      refine am_iconst (v := (1 : Int32)) d_LA_choice_19 (by decide) ?_
      exact am_iret d_LA_choice_20 rfl rfl (by decide) (by decide) am_oC_ok
    · have h := h.2 c1
      have c2 : (f_CB_choice s x1 x2 x3 x4).1 = 2 := by rcases hz with z | z | z <;> first | exact z | exact absurd z c0 | exact absurd z c1
      refine ak_EH (as := [.int x1, .int x2, .int x3, .int x4]) (rest := [.int (0 : Int32), .ref 262]) d_LA_choice_9 cw_LA_choice_9 rfl (ct_CB_choice hg hc) rfl rfl (by decide) sh_0 rfl (Nat.le_of_ble_eq_true rfl) (by decide) (by decide) (fun _ => ⟨21, by rw [c2]; exact hd_LA_choice_2, fun q9 => ?_⟩) (fun n => absurd n c0)
      refine am_astoreS (lv2 := [(6, .retAddr q9), (0, .ref 0), (1, .int x1), (2, .int x2), (3, .int x3), (4, .int x4), (5, .ref 262)]) d_LA_choice_21 (by decide) rfl ?_
      refine am_iconst (v := (2 : Int32)) d_LA_choice_23 (by decide) ?_
      exact am_iret d_LA_choice_24 rfl rfl (by decide) (by decide) am_oC_ok
theorem ct_LA_choice {l : Launch} {g : am_Gl} (hg : g.2.2.2.1 = true) {s : am_M} {x1 : Int32} {x2 : Int32} {x3 : Int32} {x4 : Int32} (h : p_LA_choice s x1 x2 x3 x4) : AC l g m_LA_choice 263 s [.ref 0, .int x1, .int x2, .int x3, .int x4, .ref 262] (am_oC (f_LA_choice s x1 x2 x3 x4)) := am_enterH ok_LA_choice rfl rfl (Nat.le_of_ble_eq_true rfl) rfl (fun ad0 => w_LA_choice hg h)
theorem cw_LA_columns_4 : am_cv m_LA_columns m_CB_columns 117 1 := ⟨⟨ok_CB_columns, rfl, by decide +kernel, by decide, by decide⟩, aw_5_89, aw_5_90, aw_5_91⟩
theorem hd_LA_columns_1 : am_hd m_LA_columns 4 (am_exn 1) 12 := ⟨[], ⟨0, 9, 12, 19⟩, [], rfl, by decide, rfl, by decide, aw_2_106, by decide +kernel, fun z h => absurd h List.not_mem_nil⟩
def f_LA_columns  (s : am_M) (x1 : Int32) : Int32 × am_M := (if (f_CB_columns s x1).1 = 0 then ((0 : Int32), (am_set (f_CB_columns s x1).2.2 262 ((0 : Int32)).toNatClampNeg (f_CB_columns s x1).2.1)) else ((1 : Int32), (f_CB_columns s x1).2.2))
def p_LA_columns  (s : am_M) (x1 : Int32) : Prop := p_CB_columns s x1 ∧ (((f_CB_columns s x1).1 = 0 ∨ (f_CB_columns s x1).1 = 1) ∧ ((((f_CB_columns s x1).1 = 0) → vp_in (0 : Int32) 1 ∧ (True)) ∧ (¬ ((f_CB_columns s x1).1 = 0) → True)))
set_option maxRecDepth 8000 in
theorem w_LA_columns {l : Launch} {g : am_Gl} (hg : g.2.2.2.1 = true) {ad0 : Nat → Nat} {s : am_M} {x1 : Int32} (h : p_LA_columns s x1) : AW l g m_LA_columns 263 ad0 (am_oC (f_LA_columns s x1)) 0 0 263 s 0 [(0, .ref 0), (1, .int x1), (2, .ref 262)] [] := by
  refine am_aload_n (j := 2) d_LA_columns_0 rfl rfl ?_
  refine am_iconst (v := (0 : Int32)) d_LA_columns_1 (by decide) ?_
  refine am_aload_n (j := 0) d_LA_columns_2 rfl rfl ?_
  refine am_iload_n (j := 1) d_LA_columns_3 rfl rfl ?_
  obtain ⟨hc, h⟩ := h
  obtain ⟨hz, h⟩ := h
  refine am_caseN (F := am_oC) (q := (f_CB_columns s x1).1) (c := 0) (fun c0 => ?_) (fun c0 => ?_)
  · have h := h.1 c0
    refine ak_EH (as := [.int x1]) (rest := [.int (0 : Int32), .ref 262]) d_LA_columns_4 cw_LA_columns_4 rfl (ct_CB_columns hg hc) rfl rfl (by decide) sh_0 rfl (Nat.le_of_ble_eq_true rfl) (by decide) (by decide) (fun n => absurd c0 n) (fun _ => ?_)
    refine am_i2l d_LA_columns_7 ?_
    obtain ⟨hv, h⟩ := h
    refine am_last (y := (f_CB_columns s x1).2.1) d_LA_columns_8 (by decide) sh_262 hv ?_
    refine am_goto (tgt := 15) d_LA_columns_9 (by decide) ?_
    refine am_iconst (v := (0 : Int32)) d_LA_columns_15 (by decide) ?_
    exact am_iret d_LA_columns_16 rfl rfl (by decide) (by decide) am_oC_ok
  · have h := h.2 c0
    have c1 : (f_CB_columns s x1).1 = 1 := by rcases hz with z | z <;> first | exact z | exact absurd z c0
    refine ak_EH (as := [.int x1]) (rest := [.int (0 : Int32), .ref 262]) d_LA_columns_4 cw_LA_columns_4 rfl (ct_CB_columns hg hc) rfl rfl (by decide) sh_0 rfl (Nat.le_of_ble_eq_true rfl) (by decide) (by decide) (fun _ => ⟨12, by rw [c1]; exact hd_LA_columns_1, fun q9 => ?_⟩) (fun n => absurd n c0)
    refine am_astoreS_n (lv2 := [(3, .retAddr q9), (0, .ref 0), (1, .int x1), (2, .ref 262)]) d_LA_columns_12 rfl (by decide) rfl ?_
    refine am_iconst (v := (1 : Int32)) d_LA_columns_13 (by decide) ?_
    exact am_iret d_LA_columns_14 rfl rfl (by decide) (by decide) am_oC_ok
theorem ct_LA_columns {l : Launch} {g : am_Gl} (hg : g.2.2.2.1 = true) {s : am_M} {x1 : Int32} (h : p_LA_columns s x1) : AC l g m_LA_columns 263 s [.ref 0, .int x1, .ref 262] (am_oC (f_LA_columns s x1)) := am_enterH ok_LA_columns rfl rfl (Nat.le_of_ble_eq_true rfl) rfl (fun ad0 => w_LA_columns hg h)
theorem cw_LA_condition_11 : am_cv m_LA_condition m_CB_condition 105 5 := ⟨⟨ok_CB_condition, rfl, by decide +kernel, by decide, by decide⟩, aw_5_42, aw_5_43, aw_5_44⟩
theorem hd_LA_condition_1 : am_hd m_LA_condition 11 (am_exn 1) 19 := ⟨[], ⟨0, 16, 19, 19⟩, [⟨0, 16, 23, 21⟩, ⟨0, 16, 27, 13⟩], rfl, by decide, rfl, by decide, aw_2_106, by decide +kernel, fun z h => absurd h List.not_mem_nil⟩
theorem hd_LA_condition_2 : am_hd m_LA_condition 11 (am_exn 2) 23 := ⟨[⟨0, 16, 19, 19⟩], ⟨0, 16, 23, 21⟩, [⟨0, 16, 27, 13⟩], rfl, by decide, rfl, by decide, aw_2_107, by decide +kernel, List.forall_mem_cons.mpr ⟨Or.inr ⟨by decide, "java/lang/IndexOutOfBoundsException", aw_2_106, by decide⟩, fun z h => absurd h List.not_mem_nil⟩⟩
theorem hd_LA_condition_3 : am_hd m_LA_condition 11 (am_exn 3) 27 := ⟨[⟨0, 16, 19, 19⟩, ⟨0, 16, 23, 21⟩], ⟨0, 16, 27, 13⟩, [], rfl, by decide, rfl, by decide, aw_2_31, by decide +kernel, List.forall_mem_cons.mpr ⟨Or.inr ⟨by decide, "java/lang/IndexOutOfBoundsException", aw_2_106, by decide⟩, List.forall_mem_cons.mpr ⟨Or.inr ⟨by decide, "java/lang/IllegalArgumentException", aw_2_107, by decide⟩, fun z h => absurd h List.not_mem_nil⟩⟩⟩
def f_LA_condition  (s : am_M) (x1 : Int32) (x2 : Int32) (x3 : Int32) (x4 : Int32) (x5 : Int32) : Int32 × am_M := (if (f_CB_condition s x1 x2 x3 x4 x5).1 = 0 then ((0 : Int32), (am_set (f_CB_condition s x1 x2 x3 x4 x5).2.2 262 ((0 : Int32)).toNatClampNeg (f_CB_condition s x1 x2 x3 x4 x5).2.1)) else (if (f_CB_condition s x1 x2 x3 x4 x5).1 = 1 then ((1 : Int32), (f_CB_condition s x1 x2 x3 x4 x5).2.2) else (if (f_CB_condition s x1 x2 x3 x4 x5).1 = 2 then ((2 : Int32), (f_CB_condition s x1 x2 x3 x4 x5).2.2) else ((3 : Int32), (f_CB_condition s x1 x2 x3 x4 x5).2.2))))
def p_LA_condition  (s : am_M) (x1 : Int32) (x2 : Int32) (x3 : Int32) (x4 : Int32) (x5 : Int32) : Prop := p_CB_condition s x1 x2 x3 x4 x5 ∧ (((f_CB_condition s x1 x2 x3 x4 x5).1 = 0 ∨ (f_CB_condition s x1 x2 x3 x4 x5).1 = 1 ∨ (f_CB_condition s x1 x2 x3 x4 x5).1 = 2 ∨ (f_CB_condition s x1 x2 x3 x4 x5).1 = 3) ∧ ((((f_CB_condition s x1 x2 x3 x4 x5).1 = 0) → vp_in (0 : Int32) 1 ∧ (True)) ∧ (¬ ((f_CB_condition s x1 x2 x3 x4 x5).1 = 0) → (((f_CB_condition s x1 x2 x3 x4 x5).1 = 1) → True) ∧ (¬ ((f_CB_condition s x1 x2 x3 x4 x5).1 = 1) → (((f_CB_condition s x1 x2 x3 x4 x5).1 = 2) → True) ∧ (¬ ((f_CB_condition s x1 x2 x3 x4 x5).1 = 2) → True)))))
set_option maxRecDepth 8000 in
theorem w_LA_condition {l : Launch} {g : am_Gl} (hg : g.2.2.2.1 = true) {ad0 : Nat → Nat} {s : am_M} {x1 : Int32} {x2 : Int32} {x3 : Int32} {x4 : Int32} {x5 : Int32} (h : p_LA_condition s x1 x2 x3 x4 x5) : AW l g m_LA_condition 263 ad0 (am_oC (f_LA_condition s x1 x2 x3 x4 x5)) 0 0 263 s 0 [(0, .ref 0), (1, .int x1), (2, .int x2), (3, .int x3), (4, .int x4), (5, .int x5), (6, .ref 262)] [] := by
  refine am_aload (j := 6) d_LA_condition_0 rfl ?_
  refine am_iconst (v := (0 : Int32)) d_LA_condition_2 (by decide) ?_
  refine am_aload_n (j := 0) d_LA_condition_3 rfl rfl ?_
  refine am_iload_n (j := 1) d_LA_condition_4 rfl rfl ?_
  refine am_iload_n (j := 2) d_LA_condition_5 rfl rfl ?_
  refine am_iload_n (j := 3) d_LA_condition_6 rfl rfl ?_
  refine am_iload (j := 4) d_LA_condition_7 rfl ?_
  refine am_iload (j := 5) d_LA_condition_9 rfl ?_
  obtain ⟨hc, h⟩ := h
  obtain ⟨hz, h⟩ := h
  refine am_caseN (F := am_oC) (q := (f_CB_condition s x1 x2 x3 x4 x5).1) (c := 0) (fun c0 => ?_) (fun c0 => ?_)
  · have h := h.1 c0
    refine ak_EH (as := [.int x1, .int x2, .int x3, .int x4, .int x5]) (rest := [.int (0 : Int32), .ref 262]) d_LA_condition_11 cw_LA_condition_11 rfl (ct_CB_condition hg hc) rfl rfl (by decide) sh_0 rfl (Nat.le_of_ble_eq_true rfl) (by decide) (by decide) (fun n => absurd c0 n) (fun _ => ?_)
    refine am_i2l d_LA_condition_14 ?_
    obtain ⟨hv, h⟩ := h
    refine am_last (y := (f_CB_condition s x1 x2 x3 x4 x5).2.1) d_LA_condition_15 (by decide) sh_262 hv ?_
    refine am_goto (tgt := 31) d_LA_condition_16 (by decide) ?_
    refine am_iconst (v := (0 : Int32)) d_LA_condition_31 (by decide) ?_
    exact am_iret d_LA_condition_32 rfl rfl (by decide) (by decide) am_oC_ok
  · have h := h.2 c0
    refine am_caseN (F := am_oC) (q := (f_CB_condition s x1 x2 x3 x4 x5).1) (c := 1) (fun c1 => ?_) (fun c1 => ?_)
    · have h := h.1 c1
      refine ak_EH (as := [.int x1, .int x2, .int x3, .int x4, .int x5]) (rest := [.int (0 : Int32), .ref 262]) d_LA_condition_11 cw_LA_condition_11 rfl (ct_CB_condition hg hc) rfl rfl (by decide) sh_0 rfl (Nat.le_of_ble_eq_true rfl) (by decide) (by decide) (fun _ => ⟨19, by rw [c1]; exact hd_LA_condition_1, fun q9 => ?_⟩) (fun n => absurd n c0)
      refine am_astoreS (lv2 := [(7, .retAddr q9), (0, .ref 0), (1, .int x1), (2, .int x2), (3, .int x3), (4, .int x4), (5, .int x5), (6, .ref 262)]) d_LA_condition_19 (by decide) rfl ?_
      refine am_iconst (v := (1 : Int32)) d_LA_condition_21 (by decide) ?_
      exact am_iret d_LA_condition_22 rfl rfl (by decide) (by decide) am_oC_ok
    · have h := h.2 c1
      refine am_caseN (F := am_oC) (q := (f_CB_condition s x1 x2 x3 x4 x5).1) (c := 2) (fun c2 => ?_) (fun c2 => ?_)
      · have h := h.1 c2
        refine ak_EH (as := [.int x1, .int x2, .int x3, .int x4, .int x5]) (rest := [.int (0 : Int32), .ref 262]) d_LA_condition_11 cw_LA_condition_11 rfl (ct_CB_condition hg hc) rfl rfl (by decide) sh_0 rfl (Nat.le_of_ble_eq_true rfl) (by decide) (by decide) (fun _ => ⟨23, by rw [c2]; exact hd_LA_condition_2, fun q9 => ?_⟩) (fun n => absurd n c0)
        refine am_astoreS (lv2 := [(7, .retAddr q9), (0, .ref 0), (1, .int x1), (2, .int x2), (3, .int x3), (4, .int x4), (5, .int x5), (6, .ref 262)]) d_LA_condition_23 (by decide) rfl ?_
        refine am_iconst (v := (2 : Int32)) d_LA_condition_25 (by decide) ?_
        exact am_iret d_LA_condition_26 rfl rfl (by decide) (by decide) am_oC_ok
      · have h := h.2 c2
        have c3 : (f_CB_condition s x1 x2 x3 x4 x5).1 = 3 := by rcases hz with z | z | z | z <;> first | exact z | exact absurd z c0 | exact absurd z c1 | exact absurd z c2
        refine ak_EH (as := [.int x1, .int x2, .int x3, .int x4, .int x5]) (rest := [.int (0 : Int32), .ref 262]) d_LA_condition_11 cw_LA_condition_11 rfl (ct_CB_condition hg hc) rfl rfl (by decide) sh_0 rfl (Nat.le_of_ble_eq_true rfl) (by decide) (by decide) (fun _ => ⟨27, by rw [c3]; exact hd_LA_condition_3, fun q9 => ?_⟩) (fun n => absurd n c0)
        refine am_astoreS (lv2 := [(7, .retAddr q9), (0, .ref 0), (1, .int x1), (2, .int x2), (3, .int x3), (4, .int x4), (5, .int x5), (6, .ref 262)]) d_LA_condition_27 (by decide) rfl ?_
        refine am_iconst (v := (3 : Int32)) d_LA_condition_29 (by decide) ?_
        exact am_iret d_LA_condition_30 rfl rfl (by decide) (by decide) am_oC_ok
theorem ct_LA_condition {l : Launch} {g : am_Gl} (hg : g.2.2.2.1 = true) {s : am_M} {x1 : Int32} {x2 : Int32} {x3 : Int32} {x4 : Int32} {x5 : Int32} (h : p_LA_condition s x1 x2 x3 x4 x5) : AC l g m_LA_condition 263 s [.ref 0, .int x1, .int x2, .int x3, .int x4, .int x5, .ref 262] (am_oC (f_LA_condition s x1 x2 x3 x4 x5)) := am_enterH ok_LA_condition rfl rfl (Nat.le_of_ble_eq_true rfl) rfl (fun ad0 => w_LA_condition hg h)
theorem cw_LA_drop_5 : am_cv m_LA_drop m_CB_drop 53 2 := ⟨⟨ok_CB_drop, rfl, by decide +kernel, by decide, by decide⟩, aw_3_155, aw_3_156, aw_3_157⟩
theorem hd_LA_drop_1 : am_hd m_LA_drop 5 (am_exn 1) 20 := ⟨[], ⟨0, 17, 20, 19⟩, [⟨0, 17, 24, 21⟩], rfl, by decide, rfl, by decide, aw_2_106, by decide +kernel, fun z h => absurd h List.not_mem_nil⟩
theorem hd_LA_drop_2 : am_hd m_LA_drop 5 (am_exn 2) 24 := ⟨[⟨0, 17, 20, 19⟩], ⟨0, 17, 24, 21⟩, [], rfl, by decide, rfl, by decide, aw_2_107, by decide +kernel, List.forall_mem_cons.mpr ⟨Or.inr ⟨by decide, "java/lang/IndexOutOfBoundsException", aw_2_106, by decide⟩, fun z h => absurd h List.not_mem_nil⟩⟩
def f_LA_drop  (s : am_M) (x1 : Int32) (x2 : Int32) : Int32 × am_M := (if (f_CB_drop s x1 x2).1 = 0 then (if (f_CB_drop s x1 x2).2.1 = 0 then ((0 : Int32), (am_set (f_CB_drop s x1 x2).2.2 262 ((0 : Int32)).toNatClampNeg (0 : Int32))) else ((0 : Int32), (am_set (f_CB_drop s x1 x2).2.2 262 ((0 : Int32)).toNatClampNeg (1 : Int32)))) else (if (f_CB_drop s x1 x2).1 = 1 then ((1 : Int32), (f_CB_drop s x1 x2).2.2) else ((2 : Int32), (f_CB_drop s x1 x2).2.2)))
def p_LA_drop  (s : am_M) (x1 : Int32) (x2 : Int32) : Prop := p_CB_drop s x1 x2 ∧ (((f_CB_drop s x1 x2).1 = 0 ∨ (f_CB_drop s x1 x2).1 = 1 ∨ (f_CB_drop s x1 x2).1 = 2) ∧ ((((f_CB_drop s x1 x2).1 = 0) → (((f_CB_drop s x1 x2).2.1 = 0) → vp_in (0 : Int32) 1 ∧ (True)) ∧ (¬ ((f_CB_drop s x1 x2).2.1 = 0) → vp_in (0 : Int32) 1 ∧ (True))) ∧ (¬ ((f_CB_drop s x1 x2).1 = 0) → (((f_CB_drop s x1 x2).1 = 1) → True) ∧ (¬ ((f_CB_drop s x1 x2).1 = 1) → True))))
set_option maxRecDepth 8000 in
theorem w_LA_drop {l : Launch} {g : am_Gl} (hg : g.2.2.2.1 = true) {ad0 : Nat → Nat} {s : am_M} {x1 : Int32} {x2 : Int32} (h : p_LA_drop s x1 x2) : AW l g m_LA_drop 263 ad0 (am_oC (f_LA_drop s x1 x2)) 0 0 263 s 0 [(0, .ref 0), (1, .int x1), (2, .int x2), (3, .ref 262)] [] := by
  refine am_aload_n (j := 3) d_LA_drop_0 rfl rfl ?_
  refine am_iconst (v := (0 : Int32)) d_LA_drop_1 (by decide) ?_
  refine am_aload_n (j := 0) d_LA_drop_2 rfl rfl ?_
  refine am_iload_n (j := 1) d_LA_drop_3 rfl rfl ?_
  refine am_iload_n (j := 2) d_LA_drop_4 rfl rfl ?_
  obtain ⟨hc, h⟩ := h
  obtain ⟨hz, h⟩ := h
  refine am_caseN (F := am_oC) (q := (f_CB_drop s x1 x2).1) (c := 0) (fun c0 => ?_) (fun c0 => ?_)
  · have h := h.1 c0
    refine ak_EH (as := [.int x1, .int x2]) (rest := [.int (0 : Int32), .ref 262]) d_LA_drop_5 cw_LA_drop_5 rfl (ct_CB_drop hg hc) rfl rfl (by decide) sh_0 rfl (Nat.le_of_ble_eq_true rfl) (by decide) (by decide) (fun n => absurd c0 n) (fun _ => ?_)
    refine ai_eq (F := am_oC) (tgt := 15) d_LA_drop_8 (by decide) (fun c => ?_) (fun c => ?_)
    · have h := h.1 c
      refine am_lconst (v := (0 : Int32).toInt64) d_LA_drop_15 (by decide) ?_
      obtain ⟨hv, h⟩ := h
      refine am_last (y := (0 : Int32)) d_LA_drop_16 (by decide) sh_262 hv ?_
      refine am_goto (tgt := 28) d_LA_drop_17 (by decide) ?_
      refine am_iconst (v := (0 : Int32)) d_LA_drop_28 (by decide) ?_
      exact am_iret d_LA_drop_29 rfl rfl (by decide) (by decide) am_oC_ok
    · have h := h.2 c
      refine am_lconst (v := (1 : Int32).toInt64) d_LA_drop_11 (by decide) ?_
      refine am_goto (tgt := 16) d_LA_drop_12 (by decide) ?_
      obtain ⟨hv, h⟩ := h
      refine am_last (y := (1 : Int32)) d_LA_drop_16 (by decide) sh_262 hv ?_
      refine am_goto (tgt := 28) d_LA_drop_17 (by decide) ?_
      refine am_iconst (v := (0 : Int32)) d_LA_drop_28 (by decide) ?_
      exact am_iret d_LA_drop_29 rfl rfl (by decide) (by decide) am_oC_ok
  · have h := h.2 c0
    refine am_caseN (F := am_oC) (q := (f_CB_drop s x1 x2).1) (c := 1) (fun c1 => ?_) (fun c1 => ?_)
    · have h := h.1 c1
      refine ak_EH (as := [.int x1, .int x2]) (rest := [.int (0 : Int32), .ref 262]) d_LA_drop_5 cw_LA_drop_5 rfl (ct_CB_drop hg hc) rfl rfl (by decide) sh_0 rfl (Nat.le_of_ble_eq_true rfl) (by decide) (by decide) (fun _ => ⟨20, by rw [c1]; exact hd_LA_drop_1, fun q9 => ?_⟩) (fun n => absurd n c0)
      refine am_astoreS (lv2 := [(4, .retAddr q9), (0, .ref 0), (1, .int x1), (2, .int x2), (3, .ref 262)]) d_LA_drop_20 (by decide) rfl ?_
      refine am_iconst (v := (1 : Int32)) d_LA_drop_22 (by decide) ?_
      exact am_iret d_LA_drop_23 rfl rfl (by decide) (by decide) am_oC_ok
    · have h := h.2 c1
      have c2 : (f_CB_drop s x1 x2).1 = 2 := by rcases hz with z | z | z <;> first | exact z | exact absurd z c0 | exact absurd z c1
      refine ak_EH (as := [.int x1, .int x2]) (rest := [.int (0 : Int32), .ref 262]) d_LA_drop_5 cw_LA_drop_5 rfl (ct_CB_drop hg hc) rfl rfl (by decide) sh_0 rfl (Nat.le_of_ble_eq_true rfl) (by decide) (by decide) (fun _ => ⟨24, by rw [c2]; exact hd_LA_drop_2, fun q9 => ?_⟩) (fun n => absurd n c0)
      refine am_astoreS (lv2 := [(4, .retAddr q9), (0, .ref 0), (1, .int x1), (2, .int x2), (3, .ref 262)]) d_LA_drop_24 (by decide) rfl ?_
      refine am_iconst (v := (2 : Int32)) d_LA_drop_26 (by decide) ?_
      exact am_iret d_LA_drop_27 rfl rfl (by decide) (by decide) am_oC_ok
theorem ct_LA_drop {l : Launch} {g : am_Gl} (hg : g.2.2.2.1 = true) {s : am_M} {x1 : Int32} {x2 : Int32} (h : p_LA_drop s x1 x2) : AC l g m_LA_drop 263 s [.ref 0, .int x1, .int x2, .ref 262] (am_oC (f_LA_drop s x1 x2)) := am_enterH ok_LA_drop rfl rfl (Nat.le_of_ble_eq_true rfl) rfl (fun ad0 => w_LA_drop hg h)
theorem cw_LA_dropRule_2 : am_cv m_LA_dropRule m_CB_dropRule 63 1 := ⟨⟨ok_CB_dropRule, rfl, by decide +kernel, by decide, by decide⟩, aw_3_222, aw_3_223, aw_3_224⟩
theorem hd_LA_dropRule_1 : am_hd m_LA_dropRule 2 (am_exn 1) 8 := ⟨[], ⟨0, 5, 8, 19⟩, [], rfl, by decide, rfl, by decide, aw_2_106, by decide +kernel, fun z h => absurd h List.not_mem_nil⟩
def f_LA_dropRule  (s : am_M) (x1 : Int32) : Int32 × am_M := (if (f_CB_dropRule s x1).1 = 0 then ((0 : Int32), (f_CB_dropRule s x1).2) else ((1 : Int32), (f_CB_dropRule s x1).2))
def p_LA_dropRule  (s : am_M) (x1 : Int32) : Prop := p_CB_dropRule s x1 ∧ (((f_CB_dropRule s x1).1 = 0 ∨ (f_CB_dropRule s x1).1 = 1) ∧ ((((f_CB_dropRule s x1).1 = 0) → True) ∧ (¬ ((f_CB_dropRule s x1).1 = 0) → True)))
set_option maxRecDepth 8000 in
theorem w_LA_dropRule {l : Launch} {g : am_Gl} (hg : g.2.2.2.1 = true) {ad0 : Nat → Nat} {s : am_M} {x1 : Int32} (h : p_LA_dropRule s x1) : AW l g m_LA_dropRule 263 ad0 (am_oC (f_LA_dropRule s x1)) 0 0 263 s 0 [(0, .ref 0), (1, .int x1)] [] := by
  refine am_aload_n (j := 0) d_LA_dropRule_0 rfl rfl ?_
  refine am_iload_n (j := 1) d_LA_dropRule_1 rfl rfl ?_
  obtain ⟨hc, h⟩ := h
  obtain ⟨hz, h⟩ := h
  refine am_caseN (F := am_oC) (q := (f_CB_dropRule s x1).1) (c := 0) (fun c0 => ?_) (fun c0 => ?_)
  · have h := h.1 c0
    refine ak_VH (as := [.int x1]) (rest := []) d_LA_dropRule_2 cw_LA_dropRule_2 rfl (ct_CB_dropRule hg hc) rfl rfl (by decide) sh_0 rfl (Nat.le_of_ble_eq_true rfl) (by decide) (by decide) (fun n => absurd c0 n) (fun _ => ?_)
    refine am_goto (tgt := 11) d_LA_dropRule_5 (by decide) ?_
    refine am_iconst (v := (0 : Int32)) d_LA_dropRule_11 (by decide) ?_
    exact am_iret d_LA_dropRule_12 rfl rfl (by decide) (by decide) am_oC_ok
  · have h := h.2 c0
    have c1 : (f_CB_dropRule s x1).1 = 1 := by rcases hz with z | z <;> first | exact z | exact absurd z c0
    refine ak_VH (as := [.int x1]) (rest := []) d_LA_dropRule_2 cw_LA_dropRule_2 rfl (ct_CB_dropRule hg hc) rfl rfl (by decide) sh_0 rfl (Nat.le_of_ble_eq_true rfl) (by decide) (by decide) (fun _ => ⟨8, by rw [c1]; exact hd_LA_dropRule_1, fun q9 => ?_⟩) (fun n => absurd n c0)
    refine am_astoreS_n (lv2 := [(2, .retAddr q9), (0, .ref 0), (1, .int x1)]) d_LA_dropRule_8 rfl (by decide) rfl ?_
    refine am_iconst (v := (1 : Int32)) d_LA_dropRule_9 (by decide) ?_
    exact am_iret d_LA_dropRule_10 rfl rfl (by decide) (by decide) am_oC_ok
theorem ct_LA_dropRule {l : Launch} {g : am_Gl} (hg : g.2.2.2.1 = true) {s : am_M} {x1 : Int32} (h : p_LA_dropRule s x1) : AC l g m_LA_dropRule 263 s [.ref 0, .int x1] (am_oC (f_LA_dropRule s x1)) := am_enterH ok_LA_dropRule rfl rfl (Nat.le_of_ble_eq_true rfl) rfl (fun ad0 => w_LA_dropRule hg h)
theorem cw_LA_enter_4 : am_cv m_LA_enter m_CB_enter 74 1 := ⟨⟨ok_CB_enter, rfl, by decide +kernel, by decide, by decide⟩, aw_4_12, aw_4_13, aw_4_14⟩
theorem hd_LA_enter_1 : am_hd m_LA_enter 4 (am_exn 1) 12 := ⟨[], ⟨0, 9, 12, 19⟩, [⟨0, 9, 15, 13⟩], rfl, by decide, rfl, by decide, aw_2_106, by decide +kernel, fun z h => absurd h List.not_mem_nil⟩
theorem hd_LA_enter_3 : am_hd m_LA_enter 4 (am_exn 3) 15 := ⟨[⟨0, 9, 12, 19⟩], ⟨0, 9, 15, 13⟩, [], rfl, by decide, rfl, by decide, aw_2_31, by decide +kernel, List.forall_mem_cons.mpr ⟨Or.inr ⟨by decide, "java/lang/IndexOutOfBoundsException", aw_2_106, by decide⟩, fun z h => absurd h List.not_mem_nil⟩⟩
def f_LA_enter  (s : am_M) (x1 : Int32) : Int32 × am_M := (if (f_CB_enter s x1).1 = 0 then ((0 : Int32), (am_set (f_CB_enter s x1).2.2 262 ((0 : Int32)).toNatClampNeg (f_CB_enter s x1).2.1)) else (if (f_CB_enter s x1).1 = 1 then ((1 : Int32), (f_CB_enter s x1).2.2) else ((2 : Int32), (f_CB_enter s x1).2.2)))
def p_LA_enter  (s : am_M) (x1 : Int32) : Prop := p_CB_enter s x1 ∧ (((f_CB_enter s x1).1 = 0 ∨ (f_CB_enter s x1).1 = 1 ∨ (f_CB_enter s x1).1 = 3) ∧ ((((f_CB_enter s x1).1 = 0) → vp_in (0 : Int32) 1 ∧ (True)) ∧ (¬ ((f_CB_enter s x1).1 = 0) → (((f_CB_enter s x1).1 = 1) → True) ∧ (¬ ((f_CB_enter s x1).1 = 1) → True))))
set_option maxRecDepth 8000 in
theorem w_LA_enter {l : Launch} {g : am_Gl} (hg : g.2.2.2.1 = true) {ad0 : Nat → Nat} {s : am_M} {x1 : Int32} (h : p_LA_enter s x1) : AW l g m_LA_enter 263 ad0 (am_oC (f_LA_enter s x1)) 0 0 263 s 0 [(0, .ref 0), (1, .int x1), (2, .ref 262)] [] := by
  refine am_aload_n (j := 2) d_LA_enter_0 rfl rfl ?_
  refine am_iconst (v := (0 : Int32)) d_LA_enter_1 (by decide) ?_
  refine am_aload_n (j := 0) d_LA_enter_2 rfl rfl ?_
  refine am_iload_n (j := 1) d_LA_enter_3 rfl rfl ?_
  obtain ⟨hc, h⟩ := h
  obtain ⟨hz, h⟩ := h
  refine am_caseN (F := am_oC) (q := (f_CB_enter s x1).1) (c := 0) (fun c0 => ?_) (fun c0 => ?_)
  · have h := h.1 c0
    refine ak_EH (as := [.int x1]) (rest := [.int (0 : Int32), .ref 262]) d_LA_enter_4 cw_LA_enter_4 rfl (ct_CB_enter hg hc) rfl rfl (by decide) sh_0 rfl (Nat.le_of_ble_eq_true rfl) (by decide) (by decide) (fun n => absurd c0 n) (fun _ => ?_)
    refine am_i2l d_LA_enter_7 ?_
    obtain ⟨hv, h⟩ := h
    refine am_last (y := (f_CB_enter s x1).2.1) d_LA_enter_8 (by decide) sh_262 hv ?_
    refine am_goto (tgt := 18) d_LA_enter_9 (by decide) ?_
    refine am_iconst (v := (0 : Int32)) d_LA_enter_18 (by decide) ?_
    exact am_iret d_LA_enter_19 rfl rfl (by decide) (by decide) am_oC_ok
  · have h := h.2 c0
    refine am_caseN (F := am_oC) (q := (f_CB_enter s x1).1) (c := 1) (fun c1 => ?_) (fun c1 => ?_)
    · have h := h.1 c1
      refine ak_EH (as := [.int x1]) (rest := [.int (0 : Int32), .ref 262]) d_LA_enter_4 cw_LA_enter_4 rfl (ct_CB_enter hg hc) rfl rfl (by decide) sh_0 rfl (Nat.le_of_ble_eq_true rfl) (by decide) (by decide) (fun _ => ⟨12, by rw [c1]; exact hd_LA_enter_1, fun q9 => ?_⟩) (fun n => absurd n c0)
      refine am_astoreS_n (lv2 := [(3, .retAddr q9), (0, .ref 0), (1, .int x1), (2, .ref 262)]) d_LA_enter_12 rfl (by decide) rfl ?_
      refine am_iconst (v := (1 : Int32)) d_LA_enter_13 (by decide) ?_
      exact am_iret d_LA_enter_14 rfl rfl (by decide) (by decide) am_oC_ok
    · have h := h.2 c1
      have c2 : (f_CB_enter s x1).1 = 3 := by rcases hz with z | z | z <;> first | exact z | exact absurd z c0 | exact absurd z c1
      refine ak_EH (as := [.int x1]) (rest := [.int (0 : Int32), .ref 262]) d_LA_enter_4 cw_LA_enter_4 rfl (ct_CB_enter hg hc) rfl rfl (by decide) sh_0 rfl (Nat.le_of_ble_eq_true rfl) (by decide) (by decide) (fun _ => ⟨15, by rw [c2]; exact hd_LA_enter_3, fun q9 => ?_⟩) (fun n => absurd n c0)
      refine am_astoreS_n (lv2 := [(3, .retAddr q9), (0, .ref 0), (1, .int x1), (2, .ref 262)]) d_LA_enter_15 rfl (by decide) rfl ?_
      refine am_iconst (v := (2 : Int32)) d_LA_enter_16 (by decide) ?_
      exact am_iret d_LA_enter_17 rfl rfl (by decide) (by decide) am_oC_ok
theorem ct_LA_enter {l : Launch} {g : am_Gl} (hg : g.2.2.2.1 = true) {s : am_M} {x1 : Int32} (h : p_LA_enter s x1) : AC l g m_LA_enter 263 s [.ref 0, .int x1, .ref 262] (am_oC (f_LA_enter s x1)) := am_enterH ok_LA_enter rfl rfl (Nat.le_of_ble_eq_true rfl) rfl (fun ad0 => w_LA_enter hg h)
theorem cw_LA_enterInside_5 : am_cv m_LA_enterInside m_CB_enterInside 87 2 := ⟨⟨ok_CB_enterInside, rfl, by decide +kernel, by decide, by decide⟩, aw_4_103, aw_4_104, aw_4_105⟩
theorem hd_LA_enterInside_1 : am_hd m_LA_enterInside 5 (am_exn 1) 13 := ⟨[], ⟨0, 10, 13, 19⟩, [⟨0, 10, 17, 13⟩, ⟨0, 10, 21, 21⟩], rfl, by decide, rfl, by decide, aw_2_106, by decide +kernel, fun z h => absurd h List.not_mem_nil⟩
theorem hd_LA_enterInside_2 : am_hd m_LA_enterInside 5 (am_exn 2) 21 := ⟨[⟨0, 10, 13, 19⟩, ⟨0, 10, 17, 13⟩], ⟨0, 10, 21, 21⟩, [], rfl, by decide, rfl, by decide, aw_2_107, by decide +kernel, List.forall_mem_cons.mpr ⟨Or.inr ⟨by decide, "java/lang/IndexOutOfBoundsException", aw_2_106, by decide⟩, List.forall_mem_cons.mpr ⟨Or.inr ⟨by decide, "java/lang/IllegalStateException", aw_2_31, by decide⟩, fun z h => absurd h List.not_mem_nil⟩⟩⟩
theorem hd_LA_enterInside_3 : am_hd m_LA_enterInside 5 (am_exn 3) 17 := ⟨[⟨0, 10, 13, 19⟩], ⟨0, 10, 17, 13⟩, [⟨0, 10, 21, 21⟩], rfl, by decide, rfl, by decide, aw_2_31, by decide +kernel, List.forall_mem_cons.mpr ⟨Or.inr ⟨by decide, "java/lang/IndexOutOfBoundsException", aw_2_106, by decide⟩, fun z h => absurd h List.not_mem_nil⟩⟩
def f_LA_enterInside  (s : am_M) (x1 : Int32) (x2 : Int32) : Int32 × am_M := (if (f_CB_enterInside s x1 x2).1 = 0 then ((0 : Int32), (am_set (f_CB_enterInside s x1 x2).2.2 262 ((0 : Int32)).toNatClampNeg (f_CB_enterInside s x1 x2).2.1)) else (if (f_CB_enterInside s x1 x2).1 = 1 then ((1 : Int32), (f_CB_enterInside s x1 x2).2.2) else (if (f_CB_enterInside s x1 x2).1 = 3 then ((2 : Int32), (f_CB_enterInside s x1 x2).2.2) else ((3 : Int32), (f_CB_enterInside s x1 x2).2.2))))
def p_LA_enterInside  (s : am_M) (x1 : Int32) (x2 : Int32) : Prop := p_CB_enterInside s x1 x2 ∧ (((f_CB_enterInside s x1 x2).1 = 0 ∨ (f_CB_enterInside s x1 x2).1 = 1 ∨ (f_CB_enterInside s x1 x2).1 = 3 ∨ (f_CB_enterInside s x1 x2).1 = 2) ∧ ((((f_CB_enterInside s x1 x2).1 = 0) → vp_in (0 : Int32) 1 ∧ (True)) ∧ (¬ ((f_CB_enterInside s x1 x2).1 = 0) → (((f_CB_enterInside s x1 x2).1 = 1) → True) ∧ (¬ ((f_CB_enterInside s x1 x2).1 = 1) → (((f_CB_enterInside s x1 x2).1 = 3) → True) ∧ (¬ ((f_CB_enterInside s x1 x2).1 = 3) → True)))))
set_option maxRecDepth 8000 in
theorem w_LA_enterInside {l : Launch} {g : am_Gl} (hg : g.2.2.2.1 = true) {ad0 : Nat → Nat} {s : am_M} {x1 : Int32} {x2 : Int32} (h : p_LA_enterInside s x1 x2) : AW l g m_LA_enterInside 263 ad0 (am_oC (f_LA_enterInside s x1 x2)) 0 0 263 s 0 [(0, .ref 0), (1, .int x1), (2, .int x2), (3, .ref 262)] [] := by
  refine am_aload_n (j := 3) d_LA_enterInside_0 rfl rfl ?_
  refine am_iconst (v := (0 : Int32)) d_LA_enterInside_1 (by decide) ?_
  refine am_aload_n (j := 0) d_LA_enterInside_2 rfl rfl ?_
  refine am_iload_n (j := 1) d_LA_enterInside_3 rfl rfl ?_
  refine am_iload_n (j := 2) d_LA_enterInside_4 rfl rfl ?_
  obtain ⟨hc, h⟩ := h
  obtain ⟨hz, h⟩ := h
  refine am_caseN (F := am_oC) (q := (f_CB_enterInside s x1 x2).1) (c := 0) (fun c0 => ?_) (fun c0 => ?_)
  · have h := h.1 c0
    refine ak_EH (as := [.int x1, .int x2]) (rest := [.int (0 : Int32), .ref 262]) d_LA_enterInside_5 cw_LA_enterInside_5 rfl (ct_CB_enterInside hg hc) rfl rfl (by decide) sh_0 rfl (Nat.le_of_ble_eq_true rfl) (by decide) (by decide) (fun n => absurd c0 n) (fun _ => ?_)
    refine am_i2l d_LA_enterInside_8 ?_
    obtain ⟨hv, h⟩ := h
    refine am_last (y := (f_CB_enterInside s x1 x2).2.1) d_LA_enterInside_9 (by decide) sh_262 hv ?_
    refine am_goto (tgt := 25) d_LA_enterInside_10 (by decide) ?_
    refine am_iconst (v := (0 : Int32)) d_LA_enterInside_25 (by decide) ?_
    exact am_iret d_LA_enterInside_26 rfl rfl (by decide) (by decide) am_oC_ok
  · have h := h.2 c0
    refine am_caseN (F := am_oC) (q := (f_CB_enterInside s x1 x2).1) (c := 1) (fun c1 => ?_) (fun c1 => ?_)
    · have h := h.1 c1
      refine ak_EH (as := [.int x1, .int x2]) (rest := [.int (0 : Int32), .ref 262]) d_LA_enterInside_5 cw_LA_enterInside_5 rfl (ct_CB_enterInside hg hc) rfl rfl (by decide) sh_0 rfl (Nat.le_of_ble_eq_true rfl) (by decide) (by decide) (fun _ => ⟨13, by rw [c1]; exact hd_LA_enterInside_1, fun q9 => ?_⟩) (fun n => absurd n c0)
      refine am_astoreS (lv2 := [(4, .retAddr q9), (0, .ref 0), (1, .int x1), (2, .int x2), (3, .ref 262)]) d_LA_enterInside_13 (by decide) rfl ?_
      refine am_iconst (v := (1 : Int32)) d_LA_enterInside_15 (by decide) ?_
      exact am_iret d_LA_enterInside_16 rfl rfl (by decide) (by decide) am_oC_ok
    · have h := h.2 c1
      refine am_caseN (F := am_oC) (q := (f_CB_enterInside s x1 x2).1) (c := 3) (fun c2 => ?_) (fun c2 => ?_)
      · have h := h.1 c2
        refine ak_EH (as := [.int x1, .int x2]) (rest := [.int (0 : Int32), .ref 262]) d_LA_enterInside_5 cw_LA_enterInside_5 rfl (ct_CB_enterInside hg hc) rfl rfl (by decide) sh_0 rfl (Nat.le_of_ble_eq_true rfl) (by decide) (by decide) (fun _ => ⟨17, by rw [c2]; exact hd_LA_enterInside_3, fun q9 => ?_⟩) (fun n => absurd n c0)
        refine am_astoreS (lv2 := [(4, .retAddr q9), (0, .ref 0), (1, .int x1), (2, .int x2), (3, .ref 262)]) d_LA_enterInside_17 (by decide) rfl ?_
        refine am_iconst (v := (2 : Int32)) d_LA_enterInside_19 (by decide) ?_
        exact am_iret d_LA_enterInside_20 rfl rfl (by decide) (by decide) am_oC_ok
      · have h := h.2 c2
        have c3 : (f_CB_enterInside s x1 x2).1 = 2 := by rcases hz with z | z | z | z <;> first | exact z | exact absurd z c0 | exact absurd z c1 | exact absurd z c2
        refine ak_EH (as := [.int x1, .int x2]) (rest := [.int (0 : Int32), .ref 262]) d_LA_enterInside_5 cw_LA_enterInside_5 rfl (ct_CB_enterInside hg hc) rfl rfl (by decide) sh_0 rfl (Nat.le_of_ble_eq_true rfl) (by decide) (by decide) (fun _ => ⟨21, by rw [c3]; exact hd_LA_enterInside_2, fun q9 => ?_⟩) (fun n => absurd n c0)
        refine am_astoreS (lv2 := [(4, .retAddr q9), (0, .ref 0), (1, .int x1), (2, .int x2), (3, .ref 262)]) d_LA_enterInside_21 (by decide) rfl ?_
        refine am_iconst (v := (3 : Int32)) d_LA_enterInside_23 (by decide) ?_
        exact am_iret d_LA_enterInside_24 rfl rfl (by decide) (by decide) am_oC_ok
theorem ct_LA_enterInside {l : Launch} {g : am_Gl} (hg : g.2.2.2.1 = true) {s : am_M} {x1 : Int32} {x2 : Int32} (h : p_LA_enterInside s x1 x2) : AC l g m_LA_enterInside 263 s [.ref 0, .int x1, .int x2, .ref 262] (am_oC (f_LA_enterInside s x1 x2)) := am_enterH ok_LA_enterInside rfl rfl (Nat.le_of_ble_eq_true rfl) rfl (fun ad0 => w_LA_enterInside hg h)
theorem cw_LA_isThere_5 : am_cv m_LA_isThere m_CB_isThere 96 2 := ⟨⟨ok_CB_isThere, rfl, by decide +kernel, by decide, by decide⟩, aw_4_134, aw_4_135, aw_4_136⟩
theorem hd_LA_isThere_1 : am_hd m_LA_isThere 5 (am_exn 1) 20 := ⟨[], ⟨0, 17, 20, 19⟩, [], rfl, by decide, rfl, by decide, aw_2_106, by decide +kernel, fun z h => absurd h List.not_mem_nil⟩
def f_LA_isThere  (s : am_M) (x1 : Int32) (x2 : Int32) : Int32 × am_M := (if (f_CB_isThere s x1 x2).1 = 0 then (if (f_CB_isThere s x1 x2).2.1 = 0 then ((0 : Int32), (am_set (f_CB_isThere s x1 x2).2.2 262 ((0 : Int32)).toNatClampNeg (0 : Int32))) else ((0 : Int32), (am_set (f_CB_isThere s x1 x2).2.2 262 ((0 : Int32)).toNatClampNeg (1 : Int32)))) else ((1 : Int32), (f_CB_isThere s x1 x2).2.2))
def p_LA_isThere  (s : am_M) (x1 : Int32) (x2 : Int32) : Prop := p_CB_isThere s x1 x2 ∧ (((f_CB_isThere s x1 x2).1 = 0 ∨ (f_CB_isThere s x1 x2).1 = 1) ∧ ((((f_CB_isThere s x1 x2).1 = 0) → (((f_CB_isThere s x1 x2).2.1 = 0) → vp_in (0 : Int32) 1 ∧ (True)) ∧ (¬ ((f_CB_isThere s x1 x2).2.1 = 0) → vp_in (0 : Int32) 1 ∧ (True))) ∧ (¬ ((f_CB_isThere s x1 x2).1 = 0) → True)))
set_option maxRecDepth 8000 in
theorem w_LA_isThere {l : Launch} {g : am_Gl} (hg : g.2.2.2.1 = true) {ad0 : Nat → Nat} {s : am_M} {x1 : Int32} {x2 : Int32} (h : p_LA_isThere s x1 x2) : AW l g m_LA_isThere 263 ad0 (am_oC (f_LA_isThere s x1 x2)) 0 0 263 s 0 [(0, .ref 0), (1, .int x1), (2, .int x2), (3, .ref 262)] [] := by
  refine am_aload_n (j := 3) d_LA_isThere_0 rfl rfl ?_
  refine am_iconst (v := (0 : Int32)) d_LA_isThere_1 (by decide) ?_
  refine am_aload_n (j := 0) d_LA_isThere_2 rfl rfl ?_
  refine am_iload_n (j := 1) d_LA_isThere_3 rfl rfl ?_
  refine am_iload_n (j := 2) d_LA_isThere_4 rfl rfl ?_
  obtain ⟨hc, h⟩ := h
  obtain ⟨hz, h⟩ := h
  refine am_caseN (F := am_oC) (q := (f_CB_isThere s x1 x2).1) (c := 0) (fun c0 => ?_) (fun c0 => ?_)
  · have h := h.1 c0
    refine ak_EH (as := [.int x1, .int x2]) (rest := [.int (0 : Int32), .ref 262]) d_LA_isThere_5 cw_LA_isThere_5 rfl (ct_CB_isThere hg hc) rfl rfl (by decide) sh_0 rfl (Nat.le_of_ble_eq_true rfl) (by decide) (by decide) (fun n => absurd c0 n) (fun _ => ?_)
    refine ai_eq (F := am_oC) (tgt := 15) d_LA_isThere_8 (by decide) (fun c => ?_) (fun c => ?_)
    · have h := h.1 c
      refine am_lconst (v := (0 : Int32).toInt64) d_LA_isThere_15 (by decide) ?_
      obtain ⟨hv, h⟩ := h
      refine am_last (y := (0 : Int32)) d_LA_isThere_16 (by decide) sh_262 hv ?_
      refine am_goto (tgt := 24) d_LA_isThere_17 (by decide) ?_
      refine am_iconst (v := (0 : Int32)) d_LA_isThere_24 (by decide) ?_
      exact am_iret d_LA_isThere_25 rfl rfl (by decide) (by decide) am_oC_ok
    · have h := h.2 c
      refine am_lconst (v := (1 : Int32).toInt64) d_LA_isThere_11 (by decide) ?_
      refine am_goto (tgt := 16) d_LA_isThere_12 (by decide) ?_
      obtain ⟨hv, h⟩ := h
      refine am_last (y := (1 : Int32)) d_LA_isThere_16 (by decide) sh_262 hv ?_
      refine am_goto (tgt := 24) d_LA_isThere_17 (by decide) ?_
      refine am_iconst (v := (0 : Int32)) d_LA_isThere_24 (by decide) ?_
      exact am_iret d_LA_isThere_25 rfl rfl (by decide) (by decide) am_oC_ok
  · have h := h.2 c0
    have c1 : (f_CB_isThere s x1 x2).1 = 1 := by rcases hz with z | z <;> first | exact z | exact absurd z c0
    refine ak_EH (as := [.int x1, .int x2]) (rest := [.int (0 : Int32), .ref 262]) d_LA_isThere_5 cw_LA_isThere_5 rfl (ct_CB_isThere hg hc) rfl rfl (by decide) sh_0 rfl (Nat.le_of_ble_eq_true rfl) (by decide) (by decide) (fun _ => ⟨20, by rw [c1]; exact hd_LA_isThere_1, fun q9 => ?_⟩) (fun n => absurd n c0)
    refine am_astoreS (lv2 := [(4, .retAddr q9), (0, .ref 0), (1, .int x1), (2, .int x2), (3, .ref 262)]) d_LA_isThere_20 (by decide) rfl ?_
    refine am_iconst (v := (1 : Int32)) d_LA_isThere_22 (by decide) ?_
    exact am_iret d_LA_isThere_23 rfl rfl (by decide) (by decide) am_oC_ok
theorem ct_LA_isThere {l : Launch} {g : am_Gl} (hg : g.2.2.2.1 = true) {s : am_M} {x1 : Int32} {x2 : Int32} (h : p_LA_isThere s x1 x2) : AC l g m_LA_isThere 263 s [.ref 0, .int x1, .int x2, .ref 262] (am_oC (f_LA_isThere s x1 x2)) := am_enterH ok_LA_isThere rfl rfl (Nat.le_of_ble_eq_true rfl) rfl (fun ad0 => w_LA_isThere hg h)
theorem cw_LA_keyOf_5 : am_cv m_LA_keyOf m_CB_keyOf 123 2 := ⟨⟨ok_CB_keyOf, rfl, by decide +kernel, by decide, by decide⟩, aw_5_108, aw_5_109, aw_5_110⟩
theorem hd_LA_keyOf_1 : am_hd m_LA_keyOf 5 (am_exn 1) 13 := ⟨[], ⟨0, 10, 13, 19⟩, [⟨0, 10, 17, 21⟩], rfl, by decide, rfl, by decide, aw_2_106, by decide +kernel, fun z h => absurd h List.not_mem_nil⟩
theorem hd_LA_keyOf_2 : am_hd m_LA_keyOf 5 (am_exn 2) 17 := ⟨[⟨0, 10, 13, 19⟩], ⟨0, 10, 17, 21⟩, [], rfl, by decide, rfl, by decide, aw_2_107, by decide +kernel, List.forall_mem_cons.mpr ⟨Or.inr ⟨by decide, "java/lang/IndexOutOfBoundsException", aw_2_106, by decide⟩, fun z h => absurd h List.not_mem_nil⟩⟩
def f_LA_keyOf  (s : am_M) (x1 : Int32) (x2 : Int32) : Int32 × am_M := (if (f_CB_keyOf s x1 x2).1 = 0 then ((0 : Int32), (am_set (f_CB_keyOf s x1 x2).2.2 262 ((0 : Int32)).toNatClampNeg (f_CB_keyOf s x1 x2).2.1)) else (if (f_CB_keyOf s x1 x2).1 = 1 then ((1 : Int32), (f_CB_keyOf s x1 x2).2.2) else ((2 : Int32), (f_CB_keyOf s x1 x2).2.2)))
def p_LA_keyOf  (s : am_M) (x1 : Int32) (x2 : Int32) : Prop := p_CB_keyOf s x1 x2 ∧ (((f_CB_keyOf s x1 x2).1 = 0 ∨ (f_CB_keyOf s x1 x2).1 = 1 ∨ (f_CB_keyOf s x1 x2).1 = 2) ∧ ((((f_CB_keyOf s x1 x2).1 = 0) → vp_in (0 : Int32) 1 ∧ (True)) ∧ (¬ ((f_CB_keyOf s x1 x2).1 = 0) → (((f_CB_keyOf s x1 x2).1 = 1) → True) ∧ (¬ ((f_CB_keyOf s x1 x2).1 = 1) → True))))
set_option maxRecDepth 8000 in
theorem w_LA_keyOf {l : Launch} {g : am_Gl} (hg : g.2.2.2.1 = true) {ad0 : Nat → Nat} {s : am_M} {x1 : Int32} {x2 : Int32} (h : p_LA_keyOf s x1 x2) : AW l g m_LA_keyOf 263 ad0 (am_oC (f_LA_keyOf s x1 x2)) 0 0 263 s 0 [(0, .ref 0), (1, .int x1), (2, .int x2), (3, .ref 262)] [] := by
  refine am_aload_n (j := 3) d_LA_keyOf_0 rfl rfl ?_
  refine am_iconst (v := (0 : Int32)) d_LA_keyOf_1 (by decide) ?_
  refine am_aload_n (j := 0) d_LA_keyOf_2 rfl rfl ?_
  refine am_iload_n (j := 1) d_LA_keyOf_3 rfl rfl ?_
  refine am_iload_n (j := 2) d_LA_keyOf_4 rfl rfl ?_
  obtain ⟨hc, h⟩ := h
  obtain ⟨hz, h⟩ := h
  refine am_caseN (F := am_oC) (q := (f_CB_keyOf s x1 x2).1) (c := 0) (fun c0 => ?_) (fun c0 => ?_)
  · have h := h.1 c0
    refine ak_EH (as := [.int x1, .int x2]) (rest := [.int (0 : Int32), .ref 262]) d_LA_keyOf_5 cw_LA_keyOf_5 rfl (ct_CB_keyOf hg hc) rfl rfl (by decide) sh_0 rfl (Nat.le_of_ble_eq_true rfl) (by decide) (by decide) (fun n => absurd c0 n) (fun _ => ?_)
    refine am_i2l d_LA_keyOf_8 ?_
    obtain ⟨hv, h⟩ := h
    refine am_last (y := (f_CB_keyOf s x1 x2).2.1) d_LA_keyOf_9 (by decide) sh_262 hv ?_
    refine am_goto (tgt := 21) d_LA_keyOf_10 (by decide) ?_
    refine am_iconst (v := (0 : Int32)) d_LA_keyOf_21 (by decide) ?_
    exact am_iret d_LA_keyOf_22 rfl rfl (by decide) (by decide) am_oC_ok
  · have h := h.2 c0
    refine am_caseN (F := am_oC) (q := (f_CB_keyOf s x1 x2).1) (c := 1) (fun c1 => ?_) (fun c1 => ?_)
    · have h := h.1 c1
      refine ak_EH (as := [.int x1, .int x2]) (rest := [.int (0 : Int32), .ref 262]) d_LA_keyOf_5 cw_LA_keyOf_5 rfl (ct_CB_keyOf hg hc) rfl rfl (by decide) sh_0 rfl (Nat.le_of_ble_eq_true rfl) (by decide) (by decide) (fun _ => ⟨13, by rw [c1]; exact hd_LA_keyOf_1, fun q9 => ?_⟩) (fun n => absurd n c0)
      refine am_astoreS (lv2 := [(4, .retAddr q9), (0, .ref 0), (1, .int x1), (2, .int x2), (3, .ref 262)]) d_LA_keyOf_13 (by decide) rfl ?_
      refine am_iconst (v := (1 : Int32)) d_LA_keyOf_15 (by decide) ?_
      exact am_iret d_LA_keyOf_16 rfl rfl (by decide) (by decide) am_oC_ok
    · have h := h.2 c1
      have c2 : (f_CB_keyOf s x1 x2).1 = 2 := by rcases hz with z | z | z <;> first | exact z | exact absurd z c0 | exact absurd z c1
      refine ak_EH (as := [.int x1, .int x2]) (rest := [.int (0 : Int32), .ref 262]) d_LA_keyOf_5 cw_LA_keyOf_5 rfl (ct_CB_keyOf hg hc) rfl rfl (by decide) sh_0 rfl (Nat.le_of_ble_eq_true rfl) (by decide) (by decide) (fun _ => ⟨17, by rw [c2]; exact hd_LA_keyOf_2, fun q9 => ?_⟩) (fun n => absurd n c0)
      refine am_astoreS (lv2 := [(4, .retAddr q9), (0, .ref 0), (1, .int x1), (2, .int x2), (3, .ref 262)]) d_LA_keyOf_17 (by decide) rfl ?_
      refine am_iconst (v := (2 : Int32)) d_LA_keyOf_19 (by decide) ?_
      exact am_iret d_LA_keyOf_20 rfl rfl (by decide) (by decide) am_oC_ok
theorem ct_LA_keyOf {l : Launch} {g : am_Gl} (hg : g.2.2.2.1 = true) {s : am_M} {x1 : Int32} {x2 : Int32} (h : p_LA_keyOf s x1 x2) : AC l g m_LA_keyOf 263 s [.ref 0, .int x1, .int x2, .ref 262] (am_oC (f_LA_keyOf s x1 x2)) := am_enterH ok_LA_keyOf rfl rfl (Nat.le_of_ble_eq_true rfl) rfl (fun ad0 => w_LA_keyOf hg h)
theorem cw_LA_narrow_9 : am_cv m_LA_narrow m_CB_narrow 45 4 := ⟨⟨ok_CB_narrow, rfl, by decide +kernel, by decide, by decide⟩, aw_3_133, aw_3_134, aw_3_135⟩
theorem hd_LA_narrow_1 : am_hd m_LA_narrow 9 (am_exn 1) 24 := ⟨[], ⟨0, 21, 24, 19⟩, [⟨0, 21, 28, 21⟩], rfl, by decide, rfl, by decide, aw_2_106, by decide +kernel, fun z h => absurd h List.not_mem_nil⟩
theorem hd_LA_narrow_2 : am_hd m_LA_narrow 9 (am_exn 2) 28 := ⟨[⟨0, 21, 24, 19⟩], ⟨0, 21, 28, 21⟩, [], rfl, by decide, rfl, by decide, aw_2_107, by decide +kernel, List.forall_mem_cons.mpr ⟨Or.inr ⟨by decide, "java/lang/IndexOutOfBoundsException", aw_2_106, by decide⟩, fun z h => absurd h List.not_mem_nil⟩⟩
def f_LA_narrow  (s : am_M) (x1 : Int32) (x2 : Int32) (x3 : Int32) (x4 : Int32) : Int32 × am_M := (if (f_CB_narrow s x1 x2 x3 x4).1 = 0 then (if (f_CB_narrow s x1 x2 x3 x4).2.1 = 0 then ((0 : Int32), (am_set (f_CB_narrow s x1 x2 x3 x4).2.2 262 ((0 : Int32)).toNatClampNeg (0 : Int32))) else ((0 : Int32), (am_set (f_CB_narrow s x1 x2 x3 x4).2.2 262 ((0 : Int32)).toNatClampNeg (1 : Int32)))) else (if (f_CB_narrow s x1 x2 x3 x4).1 = 1 then ((1 : Int32), (f_CB_narrow s x1 x2 x3 x4).2.2) else ((2 : Int32), (f_CB_narrow s x1 x2 x3 x4).2.2)))
def p_LA_narrow  (s : am_M) (x1 : Int32) (x2 : Int32) (x3 : Int32) (x4 : Int32) : Prop := p_CB_narrow s x1 x2 x3 x4 ∧ (((f_CB_narrow s x1 x2 x3 x4).1 = 0 ∨ (f_CB_narrow s x1 x2 x3 x4).1 = 1 ∨ (f_CB_narrow s x1 x2 x3 x4).1 = 2) ∧ ((((f_CB_narrow s x1 x2 x3 x4).1 = 0) → (((f_CB_narrow s x1 x2 x3 x4).2.1 = 0) → vp_in (0 : Int32) 1 ∧ (True)) ∧ (¬ ((f_CB_narrow s x1 x2 x3 x4).2.1 = 0) → vp_in (0 : Int32) 1 ∧ (True))) ∧ (¬ ((f_CB_narrow s x1 x2 x3 x4).1 = 0) → (((f_CB_narrow s x1 x2 x3 x4).1 = 1) → True) ∧ (¬ ((f_CB_narrow s x1 x2 x3 x4).1 = 1) → True))))
set_option maxRecDepth 8000 in
theorem w_LA_narrow {l : Launch} {g : am_Gl} (hg : g.2.2.2.1 = true) {ad0 : Nat → Nat} {s : am_M} {x1 : Int32} {x2 : Int32} {x3 : Int32} {x4 : Int32} (h : p_LA_narrow s x1 x2 x3 x4) : AW l g m_LA_narrow 263 ad0 (am_oC (f_LA_narrow s x1 x2 x3 x4)) 0 0 263 s 0 [(0, .ref 0), (1, .int x1), (2, .int x2), (3, .int x3), (4, .int x4), (5, .ref 262)] [] := by
  refine am_aload (j := 5) d_LA_narrow_0 rfl ?_
  refine am_iconst (v := (0 : Int32)) d_LA_narrow_2 (by decide) ?_
  refine am_aload_n (j := 0) d_LA_narrow_3 rfl rfl ?_
  refine am_iload_n (j := 1) d_LA_narrow_4 rfl rfl ?_
  refine am_iload_n (j := 2) d_LA_narrow_5 rfl rfl ?_
  refine am_iload_n (j := 3) d_LA_narrow_6 rfl rfl ?_
  refine am_iload (j := 4) d_LA_narrow_7 rfl ?_
  obtain ⟨hc, h⟩ := h
  obtain ⟨hz, h⟩ := h
  refine am_caseN (F := am_oC) (q := (f_CB_narrow s x1 x2 x3 x4).1) (c := 0) (fun c0 => ?_) (fun c0 => ?_)
  · have h := h.1 c0
    refine ak_EH (as := [.int x1, .int x2, .int x3, .int x4]) (rest := [.int (0 : Int32), .ref 262]) d_LA_narrow_9 cw_LA_narrow_9 rfl (ct_CB_narrow hg hc) rfl rfl (by decide) sh_0 rfl (Nat.le_of_ble_eq_true rfl) (by decide) (by decide) (fun n => absurd c0 n) (fun _ => ?_)
    refine ai_eq (F := am_oC) (tgt := 19) d_LA_narrow_12 (by decide) (fun c => ?_) (fun c => ?_)
    · have h := h.1 c
      refine am_lconst (v := (0 : Int32).toInt64) d_LA_narrow_19 (by decide) ?_
      obtain ⟨hv, h⟩ := h
      refine am_last (y := (0 : Int32)) d_LA_narrow_20 (by decide) sh_262 hv ?_
      refine am_goto (tgt := 32) d_LA_narrow_21 (by decide) ?_
      refine am_iconst (v := (0 : Int32)) d_LA_narrow_32 (by decide) ?_
      exact am_iret d_LA_narrow_33 rfl rfl (by decide) (by decide) am_oC_ok
    · have h := h.2 c
      refine am_lconst (v := (1 : Int32).toInt64) d_LA_narrow_15 (by decide) ?_
      refine am_goto (tgt := 20) d_LA_narrow_16 (by decide) ?_
      obtain ⟨hv, h⟩ := h
      refine am_last (y := (1 : Int32)) d_LA_narrow_20 (by decide) sh_262 hv ?_
      refine am_goto (tgt := 32) d_LA_narrow_21 (by decide) ?_
      refine am_iconst (v := (0 : Int32)) d_LA_narrow_32 (by decide) ?_
      exact am_iret d_LA_narrow_33 rfl rfl (by decide) (by decide) am_oC_ok
  · have h := h.2 c0
    refine am_caseN (F := am_oC) (q := (f_CB_narrow s x1 x2 x3 x4).1) (c := 1) (fun c1 => ?_) (fun c1 => ?_)
    · have h := h.1 c1
      refine ak_EH (as := [.int x1, .int x2, .int x3, .int x4]) (rest := [.int (0 : Int32), .ref 262]) d_LA_narrow_9 cw_LA_narrow_9 rfl (ct_CB_narrow hg hc) rfl rfl (by decide) sh_0 rfl (Nat.le_of_ble_eq_true rfl) (by decide) (by decide) (fun _ => ⟨24, by rw [c1]; exact hd_LA_narrow_1, fun q9 => ?_⟩) (fun n => absurd n c0)
      refine am_astoreS (lv2 := [(6, .retAddr q9), (0, .ref 0), (1, .int x1), (2, .int x2), (3, .int x3), (4, .int x4), (5, .ref 262)]) d_LA_narrow_24 (by decide) rfl ?_
      refine am_iconst (v := (1 : Int32)) d_LA_narrow_26 (by decide) ?_
      exact am_iret d_LA_narrow_27 rfl rfl (by decide) (by decide) am_oC_ok
    · have h := h.2 c1
      have c2 : (f_CB_narrow s x1 x2 x3 x4).1 = 2 := by rcases hz with z | z | z <;> first | exact z | exact absurd z c0 | exact absurd z c1
      refine ak_EH (as := [.int x1, .int x2, .int x3, .int x4]) (rest := [.int (0 : Int32), .ref 262]) d_LA_narrow_9 cw_LA_narrow_9 rfl (ct_CB_narrow hg hc) rfl rfl (by decide) sh_0 rfl (Nat.le_of_ble_eq_true rfl) (by decide) (by decide) (fun _ => ⟨28, by rw [c2]; exact hd_LA_narrow_2, fun q9 => ?_⟩) (fun n => absurd n c0)
      refine am_astoreS (lv2 := [(6, .retAddr q9), (0, .ref 0), (1, .int x1), (2, .int x2), (3, .int x3), (4, .int x4), (5, .ref 262)]) d_LA_narrow_28 (by decide) rfl ?_
      refine am_iconst (v := (2 : Int32)) d_LA_narrow_30 (by decide) ?_
      exact am_iret d_LA_narrow_31 rfl rfl (by decide) (by decide) am_oC_ok
theorem ct_LA_narrow {l : Launch} {g : am_Gl} (hg : g.2.2.2.1 = true) {s : am_M} {x1 : Int32} {x2 : Int32} {x3 : Int32} {x4 : Int32} (h : p_LA_narrow s x1 x2 x3 x4) : AC l g m_LA_narrow 263 s [.ref 0, .int x1, .int x2, .int x3, .int x4, .ref 262] (am_oC (f_LA_narrow s x1 x2 x3 x4)) := am_enterH ok_LA_narrow rfl rfl (Nat.le_of_ble_eq_true rfl) rfl (fun ad0 => w_LA_narrow hg h)
theorem cw_LA_need_7 : am_cv m_LA_need m_CB_need 34 3 := ⟨⟨ok_CB_need, rfl, by decide +kernel, by decide, by decide⟩, aw_3_88, aw_3_89, aw_3_90⟩
theorem hd_LA_need_1 : am_hd m_LA_need 7 (am_exn 1) 22 := ⟨[], ⟨0, 19, 22, 19⟩, [⟨0, 19, 26, 21⟩], rfl, by decide, rfl, by decide, aw_2_106, by decide +kernel, fun z h => absurd h List.not_mem_nil⟩
theorem hd_LA_need_2 : am_hd m_LA_need 7 (am_exn 2) 26 := ⟨[⟨0, 19, 22, 19⟩], ⟨0, 19, 26, 21⟩, [], rfl, by decide, rfl, by decide, aw_2_107, by decide +kernel, List.forall_mem_cons.mpr ⟨Or.inr ⟨by decide, "java/lang/IndexOutOfBoundsException", aw_2_106, by decide⟩, fun z h => absurd h List.not_mem_nil⟩⟩
def f_LA_need  (s : am_M) (x1 : Int32) (x2 : Int32) (x3 : Int32) : Int32 × am_M := (if (f_CB_need s x1 x2 x3).1 = 0 then (if (f_CB_need s x1 x2 x3).2.1 = 0 then ((0 : Int32), (am_set (f_CB_need s x1 x2 x3).2.2 262 ((0 : Int32)).toNatClampNeg (0 : Int32))) else ((0 : Int32), (am_set (f_CB_need s x1 x2 x3).2.2 262 ((0 : Int32)).toNatClampNeg (1 : Int32)))) else (if (f_CB_need s x1 x2 x3).1 = 1 then ((1 : Int32), (f_CB_need s x1 x2 x3).2.2) else ((2 : Int32), (f_CB_need s x1 x2 x3).2.2)))
def p_LA_need  (s : am_M) (x1 : Int32) (x2 : Int32) (x3 : Int32) : Prop := p_CB_need s x1 x2 x3 ∧ (((f_CB_need s x1 x2 x3).1 = 0 ∨ (f_CB_need s x1 x2 x3).1 = 1 ∨ (f_CB_need s x1 x2 x3).1 = 2) ∧ ((((f_CB_need s x1 x2 x3).1 = 0) → (((f_CB_need s x1 x2 x3).2.1 = 0) → vp_in (0 : Int32) 1 ∧ (True)) ∧ (¬ ((f_CB_need s x1 x2 x3).2.1 = 0) → vp_in (0 : Int32) 1 ∧ (True))) ∧ (¬ ((f_CB_need s x1 x2 x3).1 = 0) → (((f_CB_need s x1 x2 x3).1 = 1) → True) ∧ (¬ ((f_CB_need s x1 x2 x3).1 = 1) → True))))
set_option maxRecDepth 8000 in
theorem w_LA_need {l : Launch} {g : am_Gl} (hg : g.2.2.2.1 = true) {ad0 : Nat → Nat} {s : am_M} {x1 : Int32} {x2 : Int32} {x3 : Int32} (h : p_LA_need s x1 x2 x3) : AW l g m_LA_need 263 ad0 (am_oC (f_LA_need s x1 x2 x3)) 0 0 263 s 0 [(0, .ref 0), (1, .int x1), (2, .int x2), (3, .int x3), (4, .ref 262)] [] := by
  refine am_aload (j := 4) d_LA_need_0 rfl ?_
  refine am_iconst (v := (0 : Int32)) d_LA_need_2 (by decide) ?_
  refine am_aload_n (j := 0) d_LA_need_3 rfl rfl ?_
  refine am_iload_n (j := 1) d_LA_need_4 rfl rfl ?_
  refine am_iload_n (j := 2) d_LA_need_5 rfl rfl ?_
  refine am_iload_n (j := 3) d_LA_need_6 rfl rfl ?_
  obtain ⟨hc, h⟩ := h
  obtain ⟨hz, h⟩ := h
  refine am_caseN (F := am_oC) (q := (f_CB_need s x1 x2 x3).1) (c := 0) (fun c0 => ?_) (fun c0 => ?_)
  · have h := h.1 c0
    refine ak_EH (as := [.int x1, .int x2, .int x3]) (rest := [.int (0 : Int32), .ref 262]) d_LA_need_7 cw_LA_need_7 rfl (ct_CB_need hg hc) rfl rfl (by decide) sh_0 rfl (Nat.le_of_ble_eq_true rfl) (by decide) (by decide) (fun n => absurd c0 n) (fun _ => ?_)
    refine ai_eq (F := am_oC) (tgt := 17) d_LA_need_10 (by decide) (fun c => ?_) (fun c => ?_)
    · have h := h.1 c
      refine am_lconst (v := (0 : Int32).toInt64) d_LA_need_17 (by decide) ?_
      obtain ⟨hv, h⟩ := h
      refine am_last (y := (0 : Int32)) d_LA_need_18 (by decide) sh_262 hv ?_
      refine am_goto (tgt := 30) d_LA_need_19 (by decide) ?_
      refine am_iconst (v := (0 : Int32)) d_LA_need_30 (by decide) ?_
      exact am_iret d_LA_need_31 rfl rfl (by decide) (by decide) am_oC_ok
    · have h := h.2 c
      refine am_lconst (v := (1 : Int32).toInt64) d_LA_need_13 (by decide) ?_
      refine am_goto (tgt := 18) d_LA_need_14 (by decide) ?_
      obtain ⟨hv, h⟩ := h
      refine am_last (y := (1 : Int32)) d_LA_need_18 (by decide) sh_262 hv ?_
      refine am_goto (tgt := 30) d_LA_need_19 (by decide) ?_
      refine am_iconst (v := (0 : Int32)) d_LA_need_30 (by decide) ?_
      exact am_iret d_LA_need_31 rfl rfl (by decide) (by decide) am_oC_ok
  · have h := h.2 c0
    refine am_caseN (F := am_oC) (q := (f_CB_need s x1 x2 x3).1) (c := 1) (fun c1 => ?_) (fun c1 => ?_)
    · have h := h.1 c1
      refine ak_EH (as := [.int x1, .int x2, .int x3]) (rest := [.int (0 : Int32), .ref 262]) d_LA_need_7 cw_LA_need_7 rfl (ct_CB_need hg hc) rfl rfl (by decide) sh_0 rfl (Nat.le_of_ble_eq_true rfl) (by decide) (by decide) (fun _ => ⟨22, by rw [c1]; exact hd_LA_need_1, fun q9 => ?_⟩) (fun n => absurd n c0)
      refine am_astoreS (lv2 := [(5, .retAddr q9), (0, .ref 0), (1, .int x1), (2, .int x2), (3, .int x3), (4, .ref 262)]) d_LA_need_22 (by decide) rfl ?_
      refine am_iconst (v := (1 : Int32)) d_LA_need_24 (by decide) ?_
      exact am_iret d_LA_need_25 rfl rfl (by decide) (by decide) am_oC_ok
    · have h := h.2 c1
      have c2 : (f_CB_need s x1 x2 x3).1 = 2 := by rcases hz with z | z | z <;> first | exact z | exact absurd z c0 | exact absurd z c1
      refine ak_EH (as := [.int x1, .int x2, .int x3]) (rest := [.int (0 : Int32), .ref 262]) d_LA_need_7 cw_LA_need_7 rfl (ct_CB_need hg hc) rfl rfl (by decide) sh_0 rfl (Nat.le_of_ble_eq_true rfl) (by decide) (by decide) (fun _ => ⟨26, by rw [c2]; exact hd_LA_need_2, fun q9 => ?_⟩) (fun n => absurd n c0)
      refine am_astoreS (lv2 := [(5, .retAddr q9), (0, .ref 0), (1, .int x1), (2, .int x2), (3, .int x3), (4, .ref 262)]) d_LA_need_26 (by decide) rfl ?_
      refine am_iconst (v := (2 : Int32)) d_LA_need_28 (by decide) ?_
      exact am_iret d_LA_need_29 rfl rfl (by decide) (by decide) am_oC_ok
theorem ct_LA_need {l : Launch} {g : am_Gl} (hg : g.2.2.2.1 = true) {s : am_M} {x1 : Int32} {x2 : Int32} {x3 : Int32} (h : p_LA_need s x1 x2 x3) : AC l g m_LA_need 263 s [.ref 0, .int x1, .int x2, .int x3, .ref 262] (am_oC (f_LA_need s x1 x2 x3)) := am_enterH ok_LA_need rfl rfl (Nat.le_of_ble_eq_true rfl) rfl (fun ad0 => w_LA_need hg h)
theorem cw_LA_openForm_3 : am_cv m_LA_openForm m_CB_openForm 83 2 := ⟨⟨ok_CB_openForm, rfl, by decide +kernel, by decide, by decide⟩, aw_4_92, aw_4_93, aw_4_94⟩
theorem hd_LA_openForm_1 : am_hd m_LA_openForm 3 (am_exn 1) 9 := ⟨[], ⟨0, 6, 9, 19⟩, [], rfl, by decide, rfl, by decide, aw_2_106, by decide +kernel, fun z h => absurd h List.not_mem_nil⟩
def f_LA_openForm  (s : am_M) (x1 : Int32) (x2 : Int32) : Int32 × am_M := (if (f_CB_openForm s x1 x2).1 = 0 then ((0 : Int32), (f_CB_openForm s x1 x2).2) else ((1 : Int32), (f_CB_openForm s x1 x2).2))
def p_LA_openForm  (s : am_M) (x1 : Int32) (x2 : Int32) : Prop := p_CB_openForm s x1 x2 ∧ (((f_CB_openForm s x1 x2).1 = 0 ∨ (f_CB_openForm s x1 x2).1 = 1) ∧ ((((f_CB_openForm s x1 x2).1 = 0) → True) ∧ (¬ ((f_CB_openForm s x1 x2).1 = 0) → True)))
set_option maxRecDepth 8000 in
theorem w_LA_openForm {l : Launch} {g : am_Gl} (hg : g.2.2.2.1 = true) {ad0 : Nat → Nat} {s : am_M} {x1 : Int32} {x2 : Int32} (h : p_LA_openForm s x1 x2) : AW l g m_LA_openForm 263 ad0 (am_oC (f_LA_openForm s x1 x2)) 0 0 263 s 0 [(0, .ref 0), (1, .int x1), (2, .int x2)] [] := by
  refine am_aload_n (j := 0) d_LA_openForm_0 rfl rfl ?_
  refine am_iload_n (j := 1) d_LA_openForm_1 rfl rfl ?_
  refine am_iload_n (j := 2) d_LA_openForm_2 rfl rfl ?_
  obtain ⟨hc, h⟩ := h
  obtain ⟨hz, h⟩ := h
  refine am_caseN (F := am_oC) (q := (f_CB_openForm s x1 x2).1) (c := 0) (fun c0 => ?_) (fun c0 => ?_)
  · have h := h.1 c0
    refine ak_VH (as := [.int x1, .int x2]) (rest := []) d_LA_openForm_3 cw_LA_openForm_3 rfl (ct_CB_openForm hg hc) rfl rfl (by decide) sh_0 rfl (Nat.le_of_ble_eq_true rfl) (by decide) (by decide) (fun n => absurd c0 n) (fun _ => ?_)
    refine am_goto (tgt := 12) d_LA_openForm_6 (by decide) ?_
    refine am_iconst (v := (0 : Int32)) d_LA_openForm_12 (by decide) ?_
    exact am_iret d_LA_openForm_13 rfl rfl (by decide) (by decide) am_oC_ok
  · have h := h.2 c0
    have c1 : (f_CB_openForm s x1 x2).1 = 1 := by rcases hz with z | z <;> first | exact z | exact absurd z c0
    refine ak_VH (as := [.int x1, .int x2]) (rest := []) d_LA_openForm_3 cw_LA_openForm_3 rfl (ct_CB_openForm hg hc) rfl rfl (by decide) sh_0 rfl (Nat.le_of_ble_eq_true rfl) (by decide) (by decide) (fun _ => ⟨9, by rw [c1]; exact hd_LA_openForm_1, fun q9 => ?_⟩) (fun n => absurd n c0)
    refine am_astoreS_n (lv2 := [(3, .retAddr q9), (0, .ref 0), (1, .int x1), (2, .int x2)]) d_LA_openForm_9 rfl (by decide) rfl ?_
    refine am_iconst (v := (1 : Int32)) d_LA_openForm_10 (by decide) ?_
    exact am_iret d_LA_openForm_11 rfl rfl (by decide) (by decide) am_oC_ok
theorem ct_LA_openForm {l : Launch} {g : am_Gl} (hg : g.2.2.2.1 = true) {s : am_M} {x1 : Int32} {x2 : Int32} (h : p_LA_openForm s x1 x2) : AC l g m_LA_openForm 263 s [.ref 0, .int x1, .int x2] (am_oC (f_LA_openForm s x1 x2)) := am_enterH ok_LA_openForm rfl rfl (Nat.le_of_ble_eq_true rfl) rfl (fun ad0 => w_LA_openForm hg h)
theorem cw_LA_order_4 : am_cv m_LA_order m_CB_order 67 1 := ⟨⟨ok_CB_order, rfl, by decide +kernel, by decide, by decide⟩, aw_3_234, aw_3_235, aw_3_236⟩
theorem hd_LA_order_1 : am_hd m_LA_order 4 (am_exn 1) 12 := ⟨[], ⟨0, 9, 12, 19⟩, [], rfl, by decide, rfl, by decide, aw_2_106, by decide +kernel, fun z h => absurd h List.not_mem_nil⟩
def f_LA_order  (s : am_M) (x1 : Int32) : Int32 × am_M := (if (f_CB_order s x1).1 = 0 then ((0 : Int32), (am_set (f_CB_order s x1).2.2 262 ((0 : Int32)).toNatClampNeg (f_CB_order s x1).2.1)) else ((1 : Int32), (f_CB_order s x1).2.2))
def p_LA_order  (s : am_M) (x1 : Int32) : Prop := p_CB_order s x1 ∧ (((f_CB_order s x1).1 = 0 ∨ (f_CB_order s x1).1 = 1) ∧ ((((f_CB_order s x1).1 = 0) → vp_in (0 : Int32) 1 ∧ (True)) ∧ (¬ ((f_CB_order s x1).1 = 0) → True)))
set_option maxRecDepth 8000 in
theorem w_LA_order {l : Launch} {g : am_Gl} (hg : g.2.2.2.1 = true) {ad0 : Nat → Nat} {s : am_M} {x1 : Int32} (h : p_LA_order s x1) : AW l g m_LA_order 263 ad0 (am_oC (f_LA_order s x1)) 0 0 263 s 0 [(0, .ref 0), (1, .int x1), (2, .ref 262)] [] := by
  refine am_aload_n (j := 2) d_LA_order_0 rfl rfl ?_
  refine am_iconst (v := (0 : Int32)) d_LA_order_1 (by decide) ?_
  refine am_aload_n (j := 0) d_LA_order_2 rfl rfl ?_
  refine am_iload_n (j := 1) d_LA_order_3 rfl rfl ?_
  obtain ⟨hc, h⟩ := h
  obtain ⟨hz, h⟩ := h
  refine am_caseN (F := am_oC) (q := (f_CB_order s x1).1) (c := 0) (fun c0 => ?_) (fun c0 => ?_)
  · have h := h.1 c0
    refine ak_EH (as := [.int x1]) (rest := [.int (0 : Int32), .ref 262]) d_LA_order_4 cw_LA_order_4 rfl (ct_CB_order hg hc) rfl rfl (by decide) sh_0 rfl (Nat.le_of_ble_eq_true rfl) (by decide) (by decide) (fun n => absurd c0 n) (fun _ => ?_)
    refine am_i2l d_LA_order_7 ?_
    obtain ⟨hv, h⟩ := h
    refine am_last (y := (f_CB_order s x1).2.1) d_LA_order_8 (by decide) sh_262 hv ?_
    refine am_goto (tgt := 15) d_LA_order_9 (by decide) ?_
    refine am_iconst (v := (0 : Int32)) d_LA_order_15 (by decide) ?_
    exact am_iret d_LA_order_16 rfl rfl (by decide) (by decide) am_oC_ok
  · have h := h.2 c0
    have c1 : (f_CB_order s x1).1 = 1 := by rcases hz with z | z <;> first | exact z | exact absurd z c0
    refine ak_EH (as := [.int x1]) (rest := [.int (0 : Int32), .ref 262]) d_LA_order_4 cw_LA_order_4 rfl (ct_CB_order hg hc) rfl rfl (by decide) sh_0 rfl (Nat.le_of_ble_eq_true rfl) (by decide) (by decide) (fun _ => ⟨12, by rw [c1]; exact hd_LA_order_1, fun q9 => ?_⟩) (fun n => absurd n c0)
    refine am_astoreS_n (lv2 := [(3, .retAddr q9), (0, .ref 0), (1, .int x1), (2, .ref 262)]) d_LA_order_12 rfl (by decide) rfl ?_
    refine am_iconst (v := (1 : Int32)) d_LA_order_13 (by decide) ?_
    exact am_iret d_LA_order_14 rfl rfl (by decide) (by decide) am_oC_ok
theorem ct_LA_order {l : Launch} {g : am_Gl} (hg : g.2.2.2.1 = true) {s : am_M} {x1 : Int32} (h : p_LA_order s x1) : AC l g m_LA_order 263 s [.ref 0, .int x1, .ref 262] (am_oC (f_LA_order s x1)) := am_enterH ok_LA_order rfl rfl (Nat.le_of_ble_eq_true rfl) rfl (fun ad0 => w_LA_order hg h)
theorem cw_LA_put_9 : am_cv m_LA_put m_CB_put 77 4 := ⟨⟨ok_CB_put, rfl, by decide +kernel, by decide, by decide⟩, aw_4_41, aw_4_42, aw_4_43⟩
theorem hd_LA_put_1 : am_hd m_LA_put 9 (am_exn 1) 24 := ⟨[], ⟨0, 21, 24, 19⟩, [⟨0, 21, 28, 21⟩], rfl, by decide, rfl, by decide, aw_2_106, by decide +kernel, fun z h => absurd h List.not_mem_nil⟩
theorem hd_LA_put_2 : am_hd m_LA_put 9 (am_exn 2) 28 := ⟨[⟨0, 21, 24, 19⟩], ⟨0, 21, 28, 21⟩, [], rfl, by decide, rfl, by decide, aw_2_107, by decide +kernel, List.forall_mem_cons.mpr ⟨Or.inr ⟨by decide, "java/lang/IndexOutOfBoundsException", aw_2_106, by decide⟩, fun z h => absurd h List.not_mem_nil⟩⟩
def f_LA_put  (s : am_M) (x1 : Int32) (x2 : Int32) (x3 : Int32) (x4 : Int32) : Int32 × am_M := (if (f_CB_put s x1 x2 x3 x4).1 = 0 then (if (f_CB_put s x1 x2 x3 x4).2.1 = 0 then ((0 : Int32), (am_set (f_CB_put s x1 x2 x3 x4).2.2 262 ((0 : Int32)).toNatClampNeg (0 : Int32))) else ((0 : Int32), (am_set (f_CB_put s x1 x2 x3 x4).2.2 262 ((0 : Int32)).toNatClampNeg (1 : Int32)))) else (if (f_CB_put s x1 x2 x3 x4).1 = 1 then ((1 : Int32), (f_CB_put s x1 x2 x3 x4).2.2) else ((2 : Int32), (f_CB_put s x1 x2 x3 x4).2.2)))
def p_LA_put  (s : am_M) (x1 : Int32) (x2 : Int32) (x3 : Int32) (x4 : Int32) : Prop := p_CB_put s x1 x2 x3 x4 ∧ (((f_CB_put s x1 x2 x3 x4).1 = 0 ∨ (f_CB_put s x1 x2 x3 x4).1 = 1 ∨ (f_CB_put s x1 x2 x3 x4).1 = 2) ∧ ((((f_CB_put s x1 x2 x3 x4).1 = 0) → (((f_CB_put s x1 x2 x3 x4).2.1 = 0) → vp_in (0 : Int32) 1 ∧ (True)) ∧ (¬ ((f_CB_put s x1 x2 x3 x4).2.1 = 0) → vp_in (0 : Int32) 1 ∧ (True))) ∧ (¬ ((f_CB_put s x1 x2 x3 x4).1 = 0) → (((f_CB_put s x1 x2 x3 x4).1 = 1) → True) ∧ (¬ ((f_CB_put s x1 x2 x3 x4).1 = 1) → True))))
set_option maxRecDepth 8000 in
theorem w_LA_put {l : Launch} {g : am_Gl} (hg : g.2.2.2.1 = true) {ad0 : Nat → Nat} {s : am_M} {x1 : Int32} {x2 : Int32} {x3 : Int32} {x4 : Int32} (h : p_LA_put s x1 x2 x3 x4) : AW l g m_LA_put 263 ad0 (am_oC (f_LA_put s x1 x2 x3 x4)) 0 0 263 s 0 [(0, .ref 0), (1, .int x1), (2, .int x2), (3, .int x3), (4, .int x4), (5, .ref 262)] [] := by
  refine am_aload (j := 5) d_LA_put_0 rfl ?_
  refine am_iconst (v := (0 : Int32)) d_LA_put_2 (by decide) ?_
  refine am_aload_n (j := 0) d_LA_put_3 rfl rfl ?_
  refine am_iload_n (j := 1) d_LA_put_4 rfl rfl ?_
  refine am_iload_n (j := 2) d_LA_put_5 rfl rfl ?_
  refine am_iload_n (j := 3) d_LA_put_6 rfl rfl ?_
  refine am_iload (j := 4) d_LA_put_7 rfl ?_
  obtain ⟨hc, h⟩ := h
  obtain ⟨hz, h⟩ := h
  refine am_caseN (F := am_oC) (q := (f_CB_put s x1 x2 x3 x4).1) (c := 0) (fun c0 => ?_) (fun c0 => ?_)
  · have h := h.1 c0
    refine ak_EH (as := [.int x1, .int x2, .int x3, .int x4]) (rest := [.int (0 : Int32), .ref 262]) d_LA_put_9 cw_LA_put_9 rfl (ct_CB_put hg hc) rfl rfl (by decide) sh_0 rfl (Nat.le_of_ble_eq_true rfl) (by decide) (by decide) (fun n => absurd c0 n) (fun _ => ?_)
    refine ai_eq (F := am_oC) (tgt := 19) d_LA_put_12 (by decide) (fun c => ?_) (fun c => ?_)
    · have h := h.1 c
      refine am_lconst (v := (0 : Int32).toInt64) d_LA_put_19 (by decide) ?_
      obtain ⟨hv, h⟩ := h
      refine am_last (y := (0 : Int32)) d_LA_put_20 (by decide) sh_262 hv ?_
      refine am_goto (tgt := 32) d_LA_put_21 (by decide) ?_
      refine am_iconst (v := (0 : Int32)) d_LA_put_32 (by decide) ?_
      exact am_iret d_LA_put_33 rfl rfl (by decide) (by decide) am_oC_ok
    · have h := h.2 c
      refine am_lconst (v := (1 : Int32).toInt64) d_LA_put_15 (by decide) ?_
      refine am_goto (tgt := 20) d_LA_put_16 (by decide) ?_
      obtain ⟨hv, h⟩ := h
      refine am_last (y := (1 : Int32)) d_LA_put_20 (by decide) sh_262 hv ?_
      refine am_goto (tgt := 32) d_LA_put_21 (by decide) ?_
      refine am_iconst (v := (0 : Int32)) d_LA_put_32 (by decide) ?_
      exact am_iret d_LA_put_33 rfl rfl (by decide) (by decide) am_oC_ok
  · have h := h.2 c0
    refine am_caseN (F := am_oC) (q := (f_CB_put s x1 x2 x3 x4).1) (c := 1) (fun c1 => ?_) (fun c1 => ?_)
    · have h := h.1 c1
      refine ak_EH (as := [.int x1, .int x2, .int x3, .int x4]) (rest := [.int (0 : Int32), .ref 262]) d_LA_put_9 cw_LA_put_9 rfl (ct_CB_put hg hc) rfl rfl (by decide) sh_0 rfl (Nat.le_of_ble_eq_true rfl) (by decide) (by decide) (fun _ => ⟨24, by rw [c1]; exact hd_LA_put_1, fun q9 => ?_⟩) (fun n => absurd n c0)
      refine am_astoreS (lv2 := [(6, .retAddr q9), (0, .ref 0), (1, .int x1), (2, .int x2), (3, .int x3), (4, .int x4), (5, .ref 262)]) d_LA_put_24 (by decide) rfl ?_
      refine am_iconst (v := (1 : Int32)) d_LA_put_26 (by decide) ?_
      exact am_iret d_LA_put_27 rfl rfl (by decide) (by decide) am_oC_ok
    · have h := h.2 c1
      have c2 : (f_CB_put s x1 x2 x3 x4).1 = 2 := by rcases hz with z | z | z <;> first | exact z | exact absurd z c0 | exact absurd z c1
      refine ak_EH (as := [.int x1, .int x2, .int x3, .int x4]) (rest := [.int (0 : Int32), .ref 262]) d_LA_put_9 cw_LA_put_9 rfl (ct_CB_put hg hc) rfl rfl (by decide) sh_0 rfl (Nat.le_of_ble_eq_true rfl) (by decide) (by decide) (fun _ => ⟨28, by rw [c2]; exact hd_LA_put_2, fun q9 => ?_⟩) (fun n => absurd n c0)
      refine am_astoreS (lv2 := [(6, .retAddr q9), (0, .ref 0), (1, .int x1), (2, .int x2), (3, .int x3), (4, .int x4), (5, .ref 262)]) d_LA_put_28 (by decide) rfl ?_
      refine am_iconst (v := (2 : Int32)) d_LA_put_30 (by decide) ?_
      exact am_iret d_LA_put_31 rfl rfl (by decide) (by decide) am_oC_ok
theorem ct_LA_put {l : Launch} {g : am_Gl} (hg : g.2.2.2.1 = true) {s : am_M} {x1 : Int32} {x2 : Int32} {x3 : Int32} {x4 : Int32} (h : p_LA_put s x1 x2 x3 x4) : AC l g m_LA_put 263 s [.ref 0, .int x1, .int x2, .int x3, .int x4, .ref 262] (am_oC (f_LA_put s x1 x2 x3 x4)) := am_enterH ok_LA_put rfl rfl (Nat.le_of_ble_eq_true rfl) rfl (fun ad0 => w_LA_put hg h)
theorem cw_LA_reckonAnew_13 : am_cv m_LA_reckonAnew m_CB_reckonAnew 30 6 := ⟨⟨ok_CB_reckonAnew, rfl, by decide +kernel, by decide, by decide⟩, aw_3_47, aw_3_48, aw_3_49⟩
theorem hd_LA_reckonAnew_1 : am_hd m_LA_reckonAnew 13 (am_exn 1) 28 := ⟨[], ⟨0, 25, 28, 19⟩, [⟨0, 25, 32, 21⟩], rfl, by decide, rfl, by decide, aw_2_106, by decide +kernel, fun z h => absurd h List.not_mem_nil⟩
theorem hd_LA_reckonAnew_2 : am_hd m_LA_reckonAnew 13 (am_exn 2) 32 := ⟨[⟨0, 25, 28, 19⟩], ⟨0, 25, 32, 21⟩, [], rfl, by decide, rfl, by decide, aw_2_107, by decide +kernel, List.forall_mem_cons.mpr ⟨Or.inr ⟨by decide, "java/lang/IndexOutOfBoundsException", aw_2_106, by decide⟩, fun z h => absurd h List.not_mem_nil⟩⟩
def f_LA_reckonAnew  (s : am_M) (x1 : Int32) (x2 : Int32) (x3 : Int32) (x4 : Int32) (x5 : Int32) (x6 : Int32) : Int32 × am_M := (if (f_CB_reckonAnew s x1 x2 x3 x4 x5 x6).1 = 0 then (if (f_CB_reckonAnew s x1 x2 x3 x4 x5 x6).2.1 = 0 then ((0 : Int32), (am_set (f_CB_reckonAnew s x1 x2 x3 x4 x5 x6).2.2 262 ((0 : Int32)).toNatClampNeg (0 : Int32))) else ((0 : Int32), (am_set (f_CB_reckonAnew s x1 x2 x3 x4 x5 x6).2.2 262 ((0 : Int32)).toNatClampNeg (1 : Int32)))) else (if (f_CB_reckonAnew s x1 x2 x3 x4 x5 x6).1 = 1 then ((1 : Int32), (f_CB_reckonAnew s x1 x2 x3 x4 x5 x6).2.2) else ((2 : Int32), (f_CB_reckonAnew s x1 x2 x3 x4 x5 x6).2.2)))
def p_LA_reckonAnew  (s : am_M) (x1 : Int32) (x2 : Int32) (x3 : Int32) (x4 : Int32) (x5 : Int32) (x6 : Int32) : Prop := p_CB_reckonAnew s x1 x2 x3 x4 x5 x6 ∧ (((f_CB_reckonAnew s x1 x2 x3 x4 x5 x6).1 = 0 ∨ (f_CB_reckonAnew s x1 x2 x3 x4 x5 x6).1 = 1 ∨ (f_CB_reckonAnew s x1 x2 x3 x4 x5 x6).1 = 2) ∧ ((((f_CB_reckonAnew s x1 x2 x3 x4 x5 x6).1 = 0) → (((f_CB_reckonAnew s x1 x2 x3 x4 x5 x6).2.1 = 0) → vp_in (0 : Int32) 1 ∧ (True)) ∧ (¬ ((f_CB_reckonAnew s x1 x2 x3 x4 x5 x6).2.1 = 0) → vp_in (0 : Int32) 1 ∧ (True))) ∧ (¬ ((f_CB_reckonAnew s x1 x2 x3 x4 x5 x6).1 = 0) → (((f_CB_reckonAnew s x1 x2 x3 x4 x5 x6).1 = 1) → True) ∧ (¬ ((f_CB_reckonAnew s x1 x2 x3 x4 x5 x6).1 = 1) → True))))
set_option maxRecDepth 8000 in
theorem w_LA_reckonAnew {l : Launch} {g : am_Gl} (hg : g.2.2.2.1 = true) {ad0 : Nat → Nat} {s : am_M} {x1 : Int32} {x2 : Int32} {x3 : Int32} {x4 : Int32} {x5 : Int32} {x6 : Int32} (h : p_LA_reckonAnew s x1 x2 x3 x4 x5 x6) : AW l g m_LA_reckonAnew 263 ad0 (am_oC (f_LA_reckonAnew s x1 x2 x3 x4 x5 x6)) 0 0 263 s 0 [(0, .ref 0), (1, .int x1), (2, .int x2), (3, .int x3), (4, .int x4), (5, .int x5), (6, .int x6), (7, .ref 262)] [] := by
  refine am_aload (j := 7) d_LA_reckonAnew_0 rfl ?_
  refine am_iconst (v := (0 : Int32)) d_LA_reckonAnew_2 (by decide) ?_
  refine am_aload_n (j := 0) d_LA_reckonAnew_3 rfl rfl ?_
  refine am_iload_n (j := 1) d_LA_reckonAnew_4 rfl rfl ?_
  refine am_iload_n (j := 2) d_LA_reckonAnew_5 rfl rfl ?_
  refine am_iload_n (j := 3) d_LA_reckonAnew_6 rfl rfl ?_
  refine am_iload (j := 4) d_LA_reckonAnew_7 rfl ?_
  refine am_iload (j := 5) d_LA_reckonAnew_9 rfl ?_
  refine am_iload (j := 6) d_LA_reckonAnew_11 rfl ?_
  obtain ⟨hc, h⟩ := h
  obtain ⟨hz, h⟩ := h
  refine am_caseN (F := am_oC) (q := (f_CB_reckonAnew s x1 x2 x3 x4 x5 x6).1) (c := 0) (fun c0 => ?_) (fun c0 => ?_)
  · have h := h.1 c0
    refine ak_EH (as := [.int x1, .int x2, .int x3, .int x4, .int x5, .int x6]) (rest := [.int (0 : Int32), .ref 262]) d_LA_reckonAnew_13 cw_LA_reckonAnew_13 rfl (ct_CB_reckonAnew hg hc) rfl rfl (by decide) sh_0 rfl (Nat.le_of_ble_eq_true rfl) (by decide) (by decide) (fun n => absurd c0 n) (fun _ => ?_)
    refine ai_eq (F := am_oC) (tgt := 23) d_LA_reckonAnew_16 (by decide) (fun c => ?_) (fun c => ?_)
    · have h := h.1 c
      refine am_lconst (v := (0 : Int32).toInt64) d_LA_reckonAnew_23 (by decide) ?_
      obtain ⟨hv, h⟩ := h
      refine am_last (y := (0 : Int32)) d_LA_reckonAnew_24 (by decide) sh_262 hv ?_
      refine am_goto (tgt := 36) d_LA_reckonAnew_25 (by decide) ?_
      refine am_iconst (v := (0 : Int32)) d_LA_reckonAnew_36 (by decide) ?_
      exact am_iret d_LA_reckonAnew_37 rfl rfl (by decide) (by decide) am_oC_ok
    · have h := h.2 c
      refine am_lconst (v := (1 : Int32).toInt64) d_LA_reckonAnew_19 (by decide) ?_
      refine am_goto (tgt := 24) d_LA_reckonAnew_20 (by decide) ?_
      obtain ⟨hv, h⟩ := h
      refine am_last (y := (1 : Int32)) d_LA_reckonAnew_24 (by decide) sh_262 hv ?_
      refine am_goto (tgt := 36) d_LA_reckonAnew_25 (by decide) ?_
      refine am_iconst (v := (0 : Int32)) d_LA_reckonAnew_36 (by decide) ?_
      exact am_iret d_LA_reckonAnew_37 rfl rfl (by decide) (by decide) am_oC_ok
  · have h := h.2 c0
    refine am_caseN (F := am_oC) (q := (f_CB_reckonAnew s x1 x2 x3 x4 x5 x6).1) (c := 1) (fun c1 => ?_) (fun c1 => ?_)
    · have h := h.1 c1
      refine ak_EH (as := [.int x1, .int x2, .int x3, .int x4, .int x5, .int x6]) (rest := [.int (0 : Int32), .ref 262]) d_LA_reckonAnew_13 cw_LA_reckonAnew_13 rfl (ct_CB_reckonAnew hg hc) rfl rfl (by decide) sh_0 rfl (Nat.le_of_ble_eq_true rfl) (by decide) (by decide) (fun _ => ⟨28, by rw [c1]; exact hd_LA_reckonAnew_1, fun q9 => ?_⟩) (fun n => absurd n c0)
      refine am_astoreS (lv2 := [(8, .retAddr q9), (0, .ref 0), (1, .int x1), (2, .int x2), (3, .int x3), (4, .int x4), (5, .int x5), (6, .int x6), (7, .ref 262)]) d_LA_reckonAnew_28 (by decide) rfl ?_
      refine am_iconst (v := (1 : Int32)) d_LA_reckonAnew_30 (by decide) ?_
      exact am_iret d_LA_reckonAnew_31 rfl rfl (by decide) (by decide) am_oC_ok
    · have h := h.2 c1
      have c2 : (f_CB_reckonAnew s x1 x2 x3 x4 x5 x6).1 = 2 := by rcases hz with z | z | z <;> first | exact z | exact absurd z c0 | exact absurd z c1
      refine ak_EH (as := [.int x1, .int x2, .int x3, .int x4, .int x5, .int x6]) (rest := [.int (0 : Int32), .ref 262]) d_LA_reckonAnew_13 cw_LA_reckonAnew_13 rfl (ct_CB_reckonAnew hg hc) rfl rfl (by decide) sh_0 rfl (Nat.le_of_ble_eq_true rfl) (by decide) (by decide) (fun _ => ⟨32, by rw [c2]; exact hd_LA_reckonAnew_2, fun q9 => ?_⟩) (fun n => absurd n c0)
      refine am_astoreS (lv2 := [(8, .retAddr q9), (0, .ref 0), (1, .int x1), (2, .int x2), (3, .int x3), (4, .int x4), (5, .int x5), (6, .int x6), (7, .ref 262)]) d_LA_reckonAnew_32 (by decide) rfl ?_
      refine am_iconst (v := (2 : Int32)) d_LA_reckonAnew_34 (by decide) ?_
      exact am_iret d_LA_reckonAnew_35 rfl rfl (by decide) (by decide) am_oC_ok
theorem ct_LA_reckonAnew {l : Launch} {g : am_Gl} (hg : g.2.2.2.1 = true) {s : am_M} {x1 : Int32} {x2 : Int32} {x3 : Int32} {x4 : Int32} {x5 : Int32} {x6 : Int32} (h : p_LA_reckonAnew s x1 x2 x3 x4 x5 x6) : AC l g m_LA_reckonAnew 263 s [.ref 0, .int x1, .int x2, .int x3, .int x4, .int x5, .int x6, .ref 262] (am_oC (f_LA_reckonAnew s x1 x2 x3 x4 x5 x6)) := am_enterH ok_LA_reckonAnew rfl rfl (Nat.le_of_ble_eq_true rfl) rfl (fun ad0 => w_LA_reckonAnew hg h)
theorem cw_LA_remove_5 : am_cv m_LA_remove m_CB_remove 80 2 := ⟨⟨ok_CB_remove, rfl, by decide +kernel, by decide, by decide⟩, aw_4_61, aw_4_62, aw_4_63⟩
theorem hd_LA_remove_1 : am_hd m_LA_remove 5 (am_exn 1) 20 := ⟨[], ⟨0, 17, 20, 19⟩, [], rfl, by decide, rfl, by decide, aw_2_106, by decide +kernel, fun z h => absurd h List.not_mem_nil⟩
def f_LA_remove  (s : am_M) (x1 : Int32) (x2 : Int32) : Int32 × am_M := (if (f_CB_remove s x1 x2).1 = 0 then (if (f_CB_remove s x1 x2).2.1 = 0 then ((0 : Int32), (am_set (f_CB_remove s x1 x2).2.2 262 ((0 : Int32)).toNatClampNeg (0 : Int32))) else ((0 : Int32), (am_set (f_CB_remove s x1 x2).2.2 262 ((0 : Int32)).toNatClampNeg (1 : Int32)))) else ((1 : Int32), (f_CB_remove s x1 x2).2.2))
def p_LA_remove  (s : am_M) (x1 : Int32) (x2 : Int32) : Prop := p_CB_remove s x1 x2 ∧ (((f_CB_remove s x1 x2).1 = 0 ∨ (f_CB_remove s x1 x2).1 = 1) ∧ ((((f_CB_remove s x1 x2).1 = 0) → (((f_CB_remove s x1 x2).2.1 = 0) → vp_in (0 : Int32) 1 ∧ (True)) ∧ (¬ ((f_CB_remove s x1 x2).2.1 = 0) → vp_in (0 : Int32) 1 ∧ (True))) ∧ (¬ ((f_CB_remove s x1 x2).1 = 0) → True)))
set_option maxRecDepth 8000 in
theorem w_LA_remove {l : Launch} {g : am_Gl} (hg : g.2.2.2.1 = true) {ad0 : Nat → Nat} {s : am_M} {x1 : Int32} {x2 : Int32} (h : p_LA_remove s x1 x2) : AW l g m_LA_remove 263 ad0 (am_oC (f_LA_remove s x1 x2)) 0 0 263 s 0 [(0, .ref 0), (1, .int x1), (2, .int x2), (3, .ref 262)] [] := by
  refine am_aload_n (j := 3) d_LA_remove_0 rfl rfl ?_
  refine am_iconst (v := (0 : Int32)) d_LA_remove_1 (by decide) ?_
  refine am_aload_n (j := 0) d_LA_remove_2 rfl rfl ?_
  refine am_iload_n (j := 1) d_LA_remove_3 rfl rfl ?_
  refine am_iload_n (j := 2) d_LA_remove_4 rfl rfl ?_
  obtain ⟨hc, h⟩ := h
  obtain ⟨hz, h⟩ := h
  refine am_caseN (F := am_oC) (q := (f_CB_remove s x1 x2).1) (c := 0) (fun c0 => ?_) (fun c0 => ?_)
  · have h := h.1 c0
    refine ak_EH (as := [.int x1, .int x2]) (rest := [.int (0 : Int32), .ref 262]) d_LA_remove_5 cw_LA_remove_5 rfl (ct_CB_remove hg hc) rfl rfl (by decide) sh_0 rfl (Nat.le_of_ble_eq_true rfl) (by decide) (by decide) (fun n => absurd c0 n) (fun _ => ?_)
    refine ai_eq (F := am_oC) (tgt := 15) d_LA_remove_8 (by decide) (fun c => ?_) (fun c => ?_)
    · have h := h.1 c
      refine am_lconst (v := (0 : Int32).toInt64) d_LA_remove_15 (by decide) ?_
      obtain ⟨hv, h⟩ := h
      refine am_last (y := (0 : Int32)) d_LA_remove_16 (by decide) sh_262 hv ?_
      refine am_goto (tgt := 24) d_LA_remove_17 (by decide) ?_
      refine am_iconst (v := (0 : Int32)) d_LA_remove_24 (by decide) ?_
      exact am_iret d_LA_remove_25 rfl rfl (by decide) (by decide) am_oC_ok
    · have h := h.2 c
      refine am_lconst (v := (1 : Int32).toInt64) d_LA_remove_11 (by decide) ?_
      refine am_goto (tgt := 16) d_LA_remove_12 (by decide) ?_
      obtain ⟨hv, h⟩ := h
      refine am_last (y := (1 : Int32)) d_LA_remove_16 (by decide) sh_262 hv ?_
      refine am_goto (tgt := 24) d_LA_remove_17 (by decide) ?_
      refine am_iconst (v := (0 : Int32)) d_LA_remove_24 (by decide) ?_
      exact am_iret d_LA_remove_25 rfl rfl (by decide) (by decide) am_oC_ok
  · have h := h.2 c0
    have c1 : (f_CB_remove s x1 x2).1 = 1 := by rcases hz with z | z <;> first | exact z | exact absurd z c0
    refine ak_EH (as := [.int x1, .int x2]) (rest := [.int (0 : Int32), .ref 262]) d_LA_remove_5 cw_LA_remove_5 rfl (ct_CB_remove hg hc) rfl rfl (by decide) sh_0 rfl (Nat.le_of_ble_eq_true rfl) (by decide) (by decide) (fun _ => ⟨20, by rw [c1]; exact hd_LA_remove_1, fun q9 => ?_⟩) (fun n => absurd n c0)
    refine am_astoreS (lv2 := [(4, .retAddr q9), (0, .ref 0), (1, .int x1), (2, .int x2), (3, .ref 262)]) d_LA_remove_20 (by decide) rfl ?_
    refine am_iconst (v := (1 : Int32)) d_LA_remove_22 (by decide) ?_
    exact am_iret d_LA_remove_23 rfl rfl (by decide) (by decide) am_oC_ok
theorem ct_LA_remove {l : Launch} {g : am_Gl} (hg : g.2.2.2.1 = true) {s : am_M} {x1 : Int32} {x2 : Int32} (h : p_LA_remove s x1 x2) : AC l g m_LA_remove 263 s [.ref 0, .int x1, .int x2, .ref 262] (am_oC (f_LA_remove s x1 x2)) := am_enterH ok_LA_remove rfl rfl (Nat.le_of_ble_eq_true rfl) rfl (fun ad0 => w_LA_remove hg h)
theorem cw_LA_rows_4 : am_cv m_LA_rows m_CB_rows 99 1 := ⟨⟨ok_CB_rows, rfl, by decide +kernel, by decide, by decide⟩, aw_4_141, aw_4_142, aw_4_143⟩
theorem hd_LA_rows_1 : am_hd m_LA_rows 4 (am_exn 1) 12 := ⟨[], ⟨0, 9, 12, 19⟩, [], rfl, by decide, rfl, by decide, aw_2_106, by decide +kernel, fun z h => absurd h List.not_mem_nil⟩
def f_LA_rows  (s : am_M) (x1 : Int32) : Int32 × am_M := (if (f_CB_rows s x1).1 = 0 then ((0 : Int32), (am_set (f_CB_rows s x1).2.2 262 ((0 : Int32)).toNatClampNeg (f_CB_rows s x1).2.1)) else ((1 : Int32), (f_CB_rows s x1).2.2))
def p_LA_rows  (s : am_M) (x1 : Int32) : Prop := p_CB_rows s x1 ∧ (((f_CB_rows s x1).1 = 0 ∨ (f_CB_rows s x1).1 = 1) ∧ ((((f_CB_rows s x1).1 = 0) → vp_in (0 : Int32) 1 ∧ (True)) ∧ (¬ ((f_CB_rows s x1).1 = 0) → True)))
set_option maxRecDepth 8000 in
theorem w_LA_rows {l : Launch} {g : am_Gl} (hg : g.2.2.2.1 = true) {ad0 : Nat → Nat} {s : am_M} {x1 : Int32} (h : p_LA_rows s x1) : AW l g m_LA_rows 263 ad0 (am_oC (f_LA_rows s x1)) 0 0 263 s 0 [(0, .ref 0), (1, .int x1), (2, .ref 262)] [] := by
  refine am_aload_n (j := 2) d_LA_rows_0 rfl rfl ?_
  refine am_iconst (v := (0 : Int32)) d_LA_rows_1 (by decide) ?_
  refine am_aload_n (j := 0) d_LA_rows_2 rfl rfl ?_
  refine am_iload_n (j := 1) d_LA_rows_3 rfl rfl ?_
  obtain ⟨hc, h⟩ := h
  obtain ⟨hz, h⟩ := h
  refine am_caseN (F := am_oC) (q := (f_CB_rows s x1).1) (c := 0) (fun c0 => ?_) (fun c0 => ?_)
  · have h := h.1 c0
    refine ak_EH (as := [.int x1]) (rest := [.int (0 : Int32), .ref 262]) d_LA_rows_4 cw_LA_rows_4 rfl (ct_CB_rows hg hc) rfl rfl (by decide) sh_0 rfl (Nat.le_of_ble_eq_true rfl) (by decide) (by decide) (fun n => absurd c0 n) (fun _ => ?_)
    refine am_i2l d_LA_rows_7 ?_
    obtain ⟨hv, h⟩ := h
    refine am_last (y := (f_CB_rows s x1).2.1) d_LA_rows_8 (by decide) sh_262 hv ?_
    refine am_goto (tgt := 15) d_LA_rows_9 (by decide) ?_
    refine am_iconst (v := (0 : Int32)) d_LA_rows_15 (by decide) ?_
    exact am_iret d_LA_rows_16 rfl rfl (by decide) (by decide) am_oC_ok
  · have h := h.2 c0
    have c1 : (f_CB_rows s x1).1 = 1 := by rcases hz with z | z <;> first | exact z | exact absurd z c0
    refine ak_EH (as := [.int x1]) (rest := [.int (0 : Int32), .ref 262]) d_LA_rows_4 cw_LA_rows_4 rfl (ct_CB_rows hg hc) rfl rfl (by decide) sh_0 rfl (Nat.le_of_ble_eq_true rfl) (by decide) (by decide) (fun _ => ⟨12, by rw [c1]; exact hd_LA_rows_1, fun q9 => ?_⟩) (fun n => absurd n c0)
    refine am_astoreS_n (lv2 := [(3, .retAddr q9), (0, .ref 0), (1, .int x1), (2, .ref 262)]) d_LA_rows_12 rfl (by decide) rfl ?_
    refine am_iconst (v := (1 : Int32)) d_LA_rows_13 (by decide) ?_
    exact am_iret d_LA_rows_14 rfl rfl (by decide) (by decide) am_oC_ok
theorem ct_LA_rows {l : Launch} {g : am_Gl} (hg : g.2.2.2.1 = true) {s : am_M} {x1 : Int32} (h : p_LA_rows s x1) : AC l g m_LA_rows 263 s [.ref 0, .int x1, .ref 262] (am_oC (f_LA_rows s x1)) := am_enterH ok_LA_rows rfl rfl (Nat.le_of_ble_eq_true rfl) rfl (fun ad0 => w_LA_rows hg h)
theorem cw_LA_run_4 : am_cv m_LA_run m_CB_run 147 1 := ⟨⟨ok_CB_run, rfl, by decide +kernel, by decide, by decide⟩, aw_5_191, aw_5_192, aw_5_193⟩
theorem hd_LA_run_1 : am_hd m_LA_run 4 (am_exn 1) 19 := ⟨[], ⟨0, 16, 19, 19⟩, [], rfl, by decide, rfl, by decide, aw_2_106, by decide +kernel, fun z h => absurd h List.not_mem_nil⟩
def f_LA_run  (s : am_M) (x1 : Int32) : Int32 × am_M := (if (f_CB_run s x1).1 = 0 then (if (f_CB_run s x1).2.1 = 0 then ((0 : Int32), (am_set (f_CB_run s x1).2.2 262 ((0 : Int32)).toNatClampNeg (0 : Int32))) else ((0 : Int32), (am_set (f_CB_run s x1).2.2 262 ((0 : Int32)).toNatClampNeg (1 : Int32)))) else ((1 : Int32), (f_CB_run s x1).2.2))
def p_LA_run  (s : am_M) (x1 : Int32) : Prop := p_CB_run s x1 ∧ (((f_CB_run s x1).1 = 0 ∨ (f_CB_run s x1).1 = 1) ∧ ((((f_CB_run s x1).1 = 0) → (((f_CB_run s x1).2.1 = 0) → vp_in (0 : Int32) 1 ∧ (True)) ∧ (¬ ((f_CB_run s x1).2.1 = 0) → vp_in (0 : Int32) 1 ∧ (True))) ∧ (¬ ((f_CB_run s x1).1 = 0) → True)))
set_option maxRecDepth 8000 in
theorem w_LA_run {l : Launch} {g : am_Gl} (hg : g.2.2.2.1 = true) {ad0 : Nat → Nat} {s : am_M} {x1 : Int32} (h : p_LA_run s x1) : AW l g m_LA_run 263 ad0 (am_oC (f_LA_run s x1)) 0 0 263 s 0 [(0, .ref 0), (1, .int x1), (2, .ref 262)] [] := by
  refine am_aload_n (j := 2) d_LA_run_0 rfl rfl ?_
  refine am_iconst (v := (0 : Int32)) d_LA_run_1 (by decide) ?_
  refine am_aload_n (j := 0) d_LA_run_2 rfl rfl ?_
  refine am_iload_n (j := 1) d_LA_run_3 rfl rfl ?_
  obtain ⟨hc, h⟩ := h
  obtain ⟨hz, h⟩ := h
  refine am_caseN (F := am_oC) (q := (f_CB_run s x1).1) (c := 0) (fun c0 => ?_) (fun c0 => ?_)
  · have h := h.1 c0
    refine ak_EH (as := [.int x1]) (rest := [.int (0 : Int32), .ref 262]) d_LA_run_4 cw_LA_run_4 rfl (ct_CB_run hg hc) rfl rfl (by decide) sh_0 rfl (Nat.le_of_ble_eq_true rfl) (by decide) (by decide) (fun n => absurd c0 n) (fun _ => ?_)
    refine ai_eq (F := am_oC) (tgt := 14) d_LA_run_7 (by decide) (fun c => ?_) (fun c => ?_)
    · have h := h.1 c
      refine am_lconst (v := (0 : Int32).toInt64) d_LA_run_14 (by decide) ?_
      obtain ⟨hv, h⟩ := h
      refine am_last (y := (0 : Int32)) d_LA_run_15 (by decide) sh_262 hv ?_
      refine am_goto (tgt := 22) d_LA_run_16 (by decide) ?_
      refine am_iconst (v := (0 : Int32)) d_LA_run_22 (by decide) ?_
      exact am_iret d_LA_run_23 rfl rfl (by decide) (by decide) am_oC_ok
    · have h := h.2 c
      refine am_lconst (v := (1 : Int32).toInt64) d_LA_run_10 (by decide) ?_
      refine am_goto (tgt := 15) d_LA_run_11 (by decide) ?_
      obtain ⟨hv, h⟩ := h
      refine am_last (y := (1 : Int32)) d_LA_run_15 (by decide) sh_262 hv ?_
      refine am_goto (tgt := 22) d_LA_run_16 (by decide) ?_
      refine am_iconst (v := (0 : Int32)) d_LA_run_22 (by decide) ?_
      exact am_iret d_LA_run_23 rfl rfl (by decide) (by decide) am_oC_ok
  · have h := h.2 c0
    have c1 : (f_CB_run s x1).1 = 1 := by rcases hz with z | z <;> first | exact z | exact absurd z c0
    refine ak_EH (as := [.int x1]) (rest := [.int (0 : Int32), .ref 262]) d_LA_run_4 cw_LA_run_4 rfl (ct_CB_run hg hc) rfl rfl (by decide) sh_0 rfl (Nat.le_of_ble_eq_true rfl) (by decide) (by decide) (fun _ => ⟨19, by rw [c1]; exact hd_LA_run_1, fun q9 => ?_⟩) (fun n => absurd n c0)
    refine am_astoreS_n (lv2 := [(3, .retAddr q9), (0, .ref 0), (1, .int x1), (2, .ref 262)]) d_LA_run_19 rfl (by decide) rfl ?_
    refine am_iconst (v := (1 : Int32)) d_LA_run_20 (by decide) ?_
    exact am_iret d_LA_run_21 rfl rfl (by decide) (by decide) am_oC_ok
theorem ct_LA_run {l : Launch} {g : am_Gl} (hg : g.2.2.2.1 = true) {s : am_M} {x1 : Int32} (h : p_LA_run s x1) : AC l g m_LA_run 263 s [.ref 0, .int x1, .ref 262] (am_oC (f_LA_run s x1)) := am_enterH ok_LA_run rfl rfl (Nat.le_of_ble_eq_true rfl) rfl (fun ad0 => w_LA_run hg h)
theorem cw_LA_setRemoval_7 : am_cv m_LA_setRemoval m_CB_setRemoval 57 3 := ⟨⟨ok_CB_setRemoval, rfl, by decide +kernel, by decide, by decide⟩, aw_3_200, aw_3_201, aw_3_202⟩
theorem hd_LA_setRemoval_1 : am_hd m_LA_setRemoval 7 (am_exn 1) 15 := ⟨[], ⟨0, 12, 15, 19⟩, [⟨0, 12, 19, 21⟩], rfl, by decide, rfl, by decide, aw_2_106, by decide +kernel, fun z h => absurd h List.not_mem_nil⟩
theorem hd_LA_setRemoval_2 : am_hd m_LA_setRemoval 7 (am_exn 2) 19 := ⟨[⟨0, 12, 15, 19⟩], ⟨0, 12, 19, 21⟩, [], rfl, by decide, rfl, by decide, aw_2_107, by decide +kernel, List.forall_mem_cons.mpr ⟨Or.inr ⟨by decide, "java/lang/IndexOutOfBoundsException", aw_2_106, by decide⟩, fun z h => absurd h List.not_mem_nil⟩⟩
def f_LA_setRemoval  (s : am_M) (x1 : Int32) (x2 : Int32) (x3 : Int32) : Int32 × am_M := (if (f_CB_setRemoval s x1 x2 x3).1 = 0 then ((0 : Int32), (am_set (f_CB_setRemoval s x1 x2 x3).2.2 262 ((0 : Int32)).toNatClampNeg (f_CB_setRemoval s x1 x2 x3).2.1)) else (if (f_CB_setRemoval s x1 x2 x3).1 = 1 then ((1 : Int32), (f_CB_setRemoval s x1 x2 x3).2.2) else ((2 : Int32), (f_CB_setRemoval s x1 x2 x3).2.2)))
def p_LA_setRemoval  (s : am_M) (x1 : Int32) (x2 : Int32) (x3 : Int32) : Prop := p_CB_setRemoval s x1 x2 x3 ∧ (((f_CB_setRemoval s x1 x2 x3).1 = 0 ∨ (f_CB_setRemoval s x1 x2 x3).1 = 1 ∨ (f_CB_setRemoval s x1 x2 x3).1 = 2) ∧ ((((f_CB_setRemoval s x1 x2 x3).1 = 0) → vp_in (0 : Int32) 1 ∧ (True)) ∧ (¬ ((f_CB_setRemoval s x1 x2 x3).1 = 0) → (((f_CB_setRemoval s x1 x2 x3).1 = 1) → True) ∧ (¬ ((f_CB_setRemoval s x1 x2 x3).1 = 1) → True))))
set_option maxRecDepth 8000 in
theorem w_LA_setRemoval {l : Launch} {g : am_Gl} (hg : g.2.2.2.1 = true) {ad0 : Nat → Nat} {s : am_M} {x1 : Int32} {x2 : Int32} {x3 : Int32} (h : p_LA_setRemoval s x1 x2 x3) : AW l g m_LA_setRemoval 263 ad0 (am_oC (f_LA_setRemoval s x1 x2 x3)) 0 0 263 s 0 [(0, .ref 0), (1, .int x1), (2, .int x2), (3, .int x3), (4, .ref 262)] [] := by
  refine am_aload (j := 4) d_LA_setRemoval_0 rfl ?_
  refine am_iconst (v := (0 : Int32)) d_LA_setRemoval_2 (by decide) ?_
  refine am_aload_n (j := 0) d_LA_setRemoval_3 rfl rfl ?_
  refine am_iload_n (j := 1) d_LA_setRemoval_4 rfl rfl ?_
  refine am_iload_n (j := 2) d_LA_setRemoval_5 rfl rfl ?_
  refine am_iload_n (j := 3) d_LA_setRemoval_6 rfl rfl ?_
  obtain ⟨hc, h⟩ := h
  obtain ⟨hz, h⟩ := h
  refine am_caseN (F := am_oC) (q := (f_CB_setRemoval s x1 x2 x3).1) (c := 0) (fun c0 => ?_) (fun c0 => ?_)
  · have h := h.1 c0
    refine ak_EH (as := [.int x1, .int x2, .int x3]) (rest := [.int (0 : Int32), .ref 262]) d_LA_setRemoval_7 cw_LA_setRemoval_7 rfl (ct_CB_setRemoval hg hc) rfl rfl (by decide) sh_0 rfl (Nat.le_of_ble_eq_true rfl) (by decide) (by decide) (fun n => absurd c0 n) (fun _ => ?_)
    refine am_i2l d_LA_setRemoval_10 ?_
    obtain ⟨hv, h⟩ := h
    refine am_last (y := (f_CB_setRemoval s x1 x2 x3).2.1) d_LA_setRemoval_11 (by decide) sh_262 hv ?_
    refine am_goto (tgt := 23) d_LA_setRemoval_12 (by decide) ?_
    refine am_iconst (v := (0 : Int32)) d_LA_setRemoval_23 (by decide) ?_
    exact am_iret d_LA_setRemoval_24 rfl rfl (by decide) (by decide) am_oC_ok
  · have h := h.2 c0
    refine am_caseN (F := am_oC) (q := (f_CB_setRemoval s x1 x2 x3).1) (c := 1) (fun c1 => ?_) (fun c1 => ?_)
    · have h := h.1 c1
      refine ak_EH (as := [.int x1, .int x2, .int x3]) (rest := [.int (0 : Int32), .ref 262]) d_LA_setRemoval_7 cw_LA_setRemoval_7 rfl (ct_CB_setRemoval hg hc) rfl rfl (by decide) sh_0 rfl (Nat.le_of_ble_eq_true rfl) (by decide) (by decide) (fun _ => ⟨15, by rw [c1]; exact hd_LA_setRemoval_1, fun q9 => ?_⟩) (fun n => absurd n c0)
      refine am_astoreS (lv2 := [(5, .retAddr q9), (0, .ref 0), (1, .int x1), (2, .int x2), (3, .int x3), (4, .ref 262)]) d_LA_setRemoval_15 (by decide) rfl ?_
      refine am_iconst (v := (1 : Int32)) d_LA_setRemoval_17 (by decide) ?_
      exact am_iret d_LA_setRemoval_18 rfl rfl (by decide) (by decide) am_oC_ok
    · have h := h.2 c1
      have c2 : (f_CB_setRemoval s x1 x2 x3).1 = 2 := by rcases hz with z | z | z <;> first | exact z | exact absurd z c0 | exact absurd z c1
      refine ak_EH (as := [.int x1, .int x2, .int x3]) (rest := [.int (0 : Int32), .ref 262]) d_LA_setRemoval_7 cw_LA_setRemoval_7 rfl (ct_CB_setRemoval hg hc) rfl rfl (by decide) sh_0 rfl (Nat.le_of_ble_eq_true rfl) (by decide) (by decide) (fun _ => ⟨19, by rw [c2]; exact hd_LA_setRemoval_2, fun q9 => ?_⟩) (fun n => absurd n c0)
      refine am_astoreS (lv2 := [(5, .retAddr q9), (0, .ref 0), (1, .int x1), (2, .int x2), (3, .int x3), (4, .ref 262)]) d_LA_setRemoval_19 (by decide) rfl ?_
      refine am_iconst (v := (2 : Int32)) d_LA_setRemoval_21 (by decide) ?_
      exact am_iret d_LA_setRemoval_22 rfl rfl (by decide) (by decide) am_oC_ok
theorem ct_LA_setRemoval {l : Launch} {g : am_Gl} (hg : g.2.2.2.1 = true) {s : am_M} {x1 : Int32} {x2 : Int32} {x3 : Int32} (h : p_LA_setRemoval s x1 x2 x3) : AC l g m_LA_setRemoval 263 s [.ref 0, .int x1, .int x2, .int x3, .ref 262] (am_oC (f_LA_setRemoval s x1 x2 x3)) := am_enterH ok_LA_setRemoval rfl rfl (Nat.le_of_ble_eq_true rfl) rfl (fun ad0 => w_LA_setRemoval hg h)
theorem cw_LA_single_7 : am_cv m_LA_single m_CB_single 38 3 := ⟨⟨ok_CB_single, rfl, by decide +kernel, by decide, by decide⟩, aw_3_107, aw_3_108, aw_3_109⟩
theorem hd_LA_single_1 : am_hd m_LA_single 7 (am_exn 1) 22 := ⟨[], ⟨0, 19, 22, 19⟩, [⟨0, 19, 26, 21⟩], rfl, by decide, rfl, by decide, aw_2_106, by decide +kernel, fun z h => absurd h List.not_mem_nil⟩
theorem hd_LA_single_2 : am_hd m_LA_single 7 (am_exn 2) 26 := ⟨[⟨0, 19, 22, 19⟩], ⟨0, 19, 26, 21⟩, [], rfl, by decide, rfl, by decide, aw_2_107, by decide +kernel, List.forall_mem_cons.mpr ⟨Or.inr ⟨by decide, "java/lang/IndexOutOfBoundsException", aw_2_106, by decide⟩, fun z h => absurd h List.not_mem_nil⟩⟩
def f_LA_single  (s : am_M) (x1 : Int32) (x2 : Int32) (x3 : Int32) : Int32 × am_M := (if (f_CB_single s x1 x2 x3).1 = 0 then (if (f_CB_single s x1 x2 x3).2.1 = 0 then ((0 : Int32), (am_set (f_CB_single s x1 x2 x3).2.2 262 ((0 : Int32)).toNatClampNeg (0 : Int32))) else ((0 : Int32), (am_set (f_CB_single s x1 x2 x3).2.2 262 ((0 : Int32)).toNatClampNeg (1 : Int32)))) else (if (f_CB_single s x1 x2 x3).1 = 1 then ((1 : Int32), (f_CB_single s x1 x2 x3).2.2) else ((2 : Int32), (f_CB_single s x1 x2 x3).2.2)))
def p_LA_single  (s : am_M) (x1 : Int32) (x2 : Int32) (x3 : Int32) : Prop := p_CB_single s x1 x2 x3 ∧ (((f_CB_single s x1 x2 x3).1 = 0 ∨ (f_CB_single s x1 x2 x3).1 = 1 ∨ (f_CB_single s x1 x2 x3).1 = 2) ∧ ((((f_CB_single s x1 x2 x3).1 = 0) → (((f_CB_single s x1 x2 x3).2.1 = 0) → vp_in (0 : Int32) 1 ∧ (True)) ∧ (¬ ((f_CB_single s x1 x2 x3).2.1 = 0) → vp_in (0 : Int32) 1 ∧ (True))) ∧ (¬ ((f_CB_single s x1 x2 x3).1 = 0) → (((f_CB_single s x1 x2 x3).1 = 1) → True) ∧ (¬ ((f_CB_single s x1 x2 x3).1 = 1) → True))))
set_option maxRecDepth 8000 in
theorem w_LA_single {l : Launch} {g : am_Gl} (hg : g.2.2.2.1 = true) {ad0 : Nat → Nat} {s : am_M} {x1 : Int32} {x2 : Int32} {x3 : Int32} (h : p_LA_single s x1 x2 x3) : AW l g m_LA_single 263 ad0 (am_oC (f_LA_single s x1 x2 x3)) 0 0 263 s 0 [(0, .ref 0), (1, .int x1), (2, .int x2), (3, .int x3), (4, .ref 262)] [] := by
  refine am_aload (j := 4) d_LA_single_0 rfl ?_
  refine am_iconst (v := (0 : Int32)) d_LA_single_2 (by decide) ?_
  refine am_aload_n (j := 0) d_LA_single_3 rfl rfl ?_
  refine am_iload_n (j := 1) d_LA_single_4 rfl rfl ?_
  refine am_iload_n (j := 2) d_LA_single_5 rfl rfl ?_
  refine am_iload_n (j := 3) d_LA_single_6 rfl rfl ?_
  obtain ⟨hc, h⟩ := h
  obtain ⟨hz, h⟩ := h
  refine am_caseN (F := am_oC) (q := (f_CB_single s x1 x2 x3).1) (c := 0) (fun c0 => ?_) (fun c0 => ?_)
  · have h := h.1 c0
    refine ak_EH (as := [.int x1, .int x2, .int x3]) (rest := [.int (0 : Int32), .ref 262]) d_LA_single_7 cw_LA_single_7 rfl (ct_CB_single hg hc) rfl rfl (by decide) sh_0 rfl (Nat.le_of_ble_eq_true rfl) (by decide) (by decide) (fun n => absurd c0 n) (fun _ => ?_)
    refine ai_eq (F := am_oC) (tgt := 17) d_LA_single_10 (by decide) (fun c => ?_) (fun c => ?_)
    · have h := h.1 c
      refine am_lconst (v := (0 : Int32).toInt64) d_LA_single_17 (by decide) ?_
      obtain ⟨hv, h⟩ := h
      refine am_last (y := (0 : Int32)) d_LA_single_18 (by decide) sh_262 hv ?_
      refine am_goto (tgt := 30) d_LA_single_19 (by decide) ?_
      refine am_iconst (v := (0 : Int32)) d_LA_single_30 (by decide) ?_
      exact am_iret d_LA_single_31 rfl rfl (by decide) (by decide) am_oC_ok
    · have h := h.2 c
      refine am_lconst (v := (1 : Int32).toInt64) d_LA_single_13 (by decide) ?_
      refine am_goto (tgt := 18) d_LA_single_14 (by decide) ?_
      obtain ⟨hv, h⟩ := h
      refine am_last (y := (1 : Int32)) d_LA_single_18 (by decide) sh_262 hv ?_
      refine am_goto (tgt := 30) d_LA_single_19 (by decide) ?_
      refine am_iconst (v := (0 : Int32)) d_LA_single_30 (by decide) ?_
      exact am_iret d_LA_single_31 rfl rfl (by decide) (by decide) am_oC_ok
  · have h := h.2 c0
    refine am_caseN (F := am_oC) (q := (f_CB_single s x1 x2 x3).1) (c := 1) (fun c1 => ?_) (fun c1 => ?_)
    · have h := h.1 c1
      refine ak_EH (as := [.int x1, .int x2, .int x3]) (rest := [.int (0 : Int32), .ref 262]) d_LA_single_7 cw_LA_single_7 rfl (ct_CB_single hg hc) rfl rfl (by decide) sh_0 rfl (Nat.le_of_ble_eq_true rfl) (by decide) (by decide) (fun _ => ⟨22, by rw [c1]; exact hd_LA_single_1, fun q9 => ?_⟩) (fun n => absurd n c0)
      refine am_astoreS (lv2 := [(5, .retAddr q9), (0, .ref 0), (1, .int x1), (2, .int x2), (3, .int x3), (4, .ref 262)]) d_LA_single_22 (by decide) rfl ?_
      refine am_iconst (v := (1 : Int32)) d_LA_single_24 (by decide) ?_
      exact am_iret d_LA_single_25 rfl rfl (by decide) (by decide) am_oC_ok
    · have h := h.2 c1
      have c2 : (f_CB_single s x1 x2 x3).1 = 2 := by rcases hz with z | z | z <;> first | exact z | exact absurd z c0 | exact absurd z c1
      refine ak_EH (as := [.int x1, .int x2, .int x3]) (rest := [.int (0 : Int32), .ref 262]) d_LA_single_7 cw_LA_single_7 rfl (ct_CB_single hg hc) rfl rfl (by decide) sh_0 rfl (Nat.le_of_ble_eq_true rfl) (by decide) (by decide) (fun _ => ⟨26, by rw [c2]; exact hd_LA_single_2, fun q9 => ?_⟩) (fun n => absurd n c0)
      refine am_astoreS (lv2 := [(5, .retAddr q9), (0, .ref 0), (1, .int x1), (2, .int x2), (3, .int x3), (4, .ref 262)]) d_LA_single_26 (by decide) rfl ?_
      refine am_iconst (v := (2 : Int32)) d_LA_single_28 (by decide) ?_
      exact am_iret d_LA_single_29 rfl rfl (by decide) (by decide) am_oC_ok
theorem ct_LA_single {l : Launch} {g : am_Gl} (hg : g.2.2.2.1 = true) {s : am_M} {x1 : Int32} {x2 : Int32} {x3 : Int32} (h : p_LA_single s x1 x2 x3) : AC l g m_LA_single 263 s [.ref 0, .int x1, .int x2, .int x3, .ref 262] (am_oC (f_LA_single s x1 x2 x3)) := am_enterH ok_LA_single rfl rfl (Nat.le_of_ble_eq_true rfl) rfl (fun ad0 => w_LA_single hg h)
theorem cw_LA_stepAdd_5 : am_cv m_LA_stepAdd m_CB_stepAdd 138 2 := ⟨⟨ok_CB_stepAdd, rfl, by decide +kernel, by decide, by decide⟩, aw_5_165, aw_5_166, aw_5_167⟩
theorem hd_LA_stepAdd_1 : am_hd m_LA_stepAdd 5 (am_exn 1) 13 := ⟨[], ⟨0, 10, 13, 19⟩, [⟨0, 10, 17, 13⟩], rfl, by decide, rfl, by decide, aw_2_106, by decide +kernel, fun z h => absurd h List.not_mem_nil⟩
theorem hd_LA_stepAdd_3 : am_hd m_LA_stepAdd 5 (am_exn 3) 17 := ⟨[⟨0, 10, 13, 19⟩], ⟨0, 10, 17, 13⟩, [], rfl, by decide, rfl, by decide, aw_2_31, by decide +kernel, List.forall_mem_cons.mpr ⟨Or.inr ⟨by decide, "java/lang/IndexOutOfBoundsException", aw_2_106, by decide⟩, fun z h => absurd h List.not_mem_nil⟩⟩
def f_LA_stepAdd  (s : am_M) (x1 : Int32) (x2 : Int32) : Int32 × am_M := (if (f_CB_stepAdd s x1 x2).1 = 0 then ((0 : Int32), (am_set (f_CB_stepAdd s x1 x2).2.2 262 ((0 : Int32)).toNatClampNeg (f_CB_stepAdd s x1 x2).2.1)) else (if (f_CB_stepAdd s x1 x2).1 = 1 then ((1 : Int32), (f_CB_stepAdd s x1 x2).2.2) else ((2 : Int32), (f_CB_stepAdd s x1 x2).2.2)))
def p_LA_stepAdd  (s : am_M) (x1 : Int32) (x2 : Int32) : Prop := p_CB_stepAdd s x1 x2 ∧ (((f_CB_stepAdd s x1 x2).1 = 0 ∨ (f_CB_stepAdd s x1 x2).1 = 1 ∨ (f_CB_stepAdd s x1 x2).1 = 3) ∧ ((((f_CB_stepAdd s x1 x2).1 = 0) → vp_in (0 : Int32) 1 ∧ (True)) ∧ (¬ ((f_CB_stepAdd s x1 x2).1 = 0) → (((f_CB_stepAdd s x1 x2).1 = 1) → True) ∧ (¬ ((f_CB_stepAdd s x1 x2).1 = 1) → True))))
set_option maxRecDepth 8000 in
theorem w_LA_stepAdd {l : Launch} {g : am_Gl} (hg : g.2.2.2.1 = true) {ad0 : Nat → Nat} {s : am_M} {x1 : Int32} {x2 : Int32} (h : p_LA_stepAdd s x1 x2) : AW l g m_LA_stepAdd 263 ad0 (am_oC (f_LA_stepAdd s x1 x2)) 0 0 263 s 0 [(0, .ref 0), (1, .int x1), (2, .int x2), (3, .ref 262)] [] := by
  refine am_aload_n (j := 3) d_LA_stepAdd_0 rfl rfl ?_
  refine am_iconst (v := (0 : Int32)) d_LA_stepAdd_1 (by decide) ?_
  refine am_aload_n (j := 0) d_LA_stepAdd_2 rfl rfl ?_
  refine am_iload_n (j := 1) d_LA_stepAdd_3 rfl rfl ?_
  refine am_iload_n (j := 2) d_LA_stepAdd_4 rfl rfl ?_
  obtain ⟨hc, h⟩ := h
  obtain ⟨hz, h⟩ := h
  refine am_caseN (F := am_oC) (q := (f_CB_stepAdd s x1 x2).1) (c := 0) (fun c0 => ?_) (fun c0 => ?_)
  · have h := h.1 c0
    refine ak_EH (as := [.int x1, .int x2]) (rest := [.int (0 : Int32), .ref 262]) d_LA_stepAdd_5 cw_LA_stepAdd_5 rfl (ct_CB_stepAdd hg hc) rfl rfl (by decide) sh_0 rfl (Nat.le_of_ble_eq_true rfl) (by decide) (by decide) (fun n => absurd c0 n) (fun _ => ?_)
    refine am_i2l d_LA_stepAdd_8 ?_
    obtain ⟨hv, h⟩ := h
    refine am_last (y := (f_CB_stepAdd s x1 x2).2.1) d_LA_stepAdd_9 (by decide) sh_262 hv ?_
    refine am_goto (tgt := 21) d_LA_stepAdd_10 (by decide) ?_
    refine am_iconst (v := (0 : Int32)) d_LA_stepAdd_21 (by decide) ?_
    exact am_iret d_LA_stepAdd_22 rfl rfl (by decide) (by decide) am_oC_ok
  · have h := h.2 c0
    refine am_caseN (F := am_oC) (q := (f_CB_stepAdd s x1 x2).1) (c := 1) (fun c1 => ?_) (fun c1 => ?_)
    · have h := h.1 c1
      refine ak_EH (as := [.int x1, .int x2]) (rest := [.int (0 : Int32), .ref 262]) d_LA_stepAdd_5 cw_LA_stepAdd_5 rfl (ct_CB_stepAdd hg hc) rfl rfl (by decide) sh_0 rfl (Nat.le_of_ble_eq_true rfl) (by decide) (by decide) (fun _ => ⟨13, by rw [c1]; exact hd_LA_stepAdd_1, fun q9 => ?_⟩) (fun n => absurd n c0)
      refine am_astoreS (lv2 := [(4, .retAddr q9), (0, .ref 0), (1, .int x1), (2, .int x2), (3, .ref 262)]) d_LA_stepAdd_13 (by decide) rfl ?_
      refine am_iconst (v := (1 : Int32)) d_LA_stepAdd_15 (by decide) ?_
      exact am_iret d_LA_stepAdd_16 rfl rfl (by decide) (by decide) am_oC_ok
    · have h := h.2 c1
      have c2 : (f_CB_stepAdd s x1 x2).1 = 3 := by rcases hz with z | z | z <;> first | exact z | exact absurd z c0 | exact absurd z c1
      refine ak_EH (as := [.int x1, .int x2]) (rest := [.int (0 : Int32), .ref 262]) d_LA_stepAdd_5 cw_LA_stepAdd_5 rfl (ct_CB_stepAdd hg hc) rfl rfl (by decide) sh_0 rfl (Nat.le_of_ble_eq_true rfl) (by decide) (by decide) (fun _ => ⟨17, by rw [c2]; exact hd_LA_stepAdd_3, fun q9 => ?_⟩) (fun n => absurd n c0)
      refine am_astoreS (lv2 := [(4, .retAddr q9), (0, .ref 0), (1, .int x1), (2, .int x2), (3, .ref 262)]) d_LA_stepAdd_17 (by decide) rfl ?_
      refine am_iconst (v := (2 : Int32)) d_LA_stepAdd_19 (by decide) ?_
      exact am_iret d_LA_stepAdd_20 rfl rfl (by decide) (by decide) am_oC_ok
theorem ct_LA_stepAdd {l : Launch} {g : am_Gl} (hg : g.2.2.2.1 = true) {s : am_M} {x1 : Int32} {x2 : Int32} (h : p_LA_stepAdd s x1 x2) : AC l g m_LA_stepAdd 263 s [.ref 0, .int x1, .int x2, .ref 262] (am_oC (f_LA_stepAdd s x1 x2)) := am_enterH ok_LA_stepAdd rfl rfl (Nat.le_of_ble_eq_true rfl) rfl (fun ad0 => w_LA_stepAdd hg h)
theorem cw_LA_stepIf_7 : am_cv m_LA_stepIf m_CB_stepIf 144 3 := ⟨⟨ok_CB_stepIf, rfl, by decide +kernel, by decide, by decide⟩, aw_5_184, aw_5_185, aw_5_186⟩
theorem hd_LA_stepIf_1 : am_hd m_LA_stepIf 7 (am_exn 1) 15 := ⟨[], ⟨0, 12, 15, 19⟩, [⟨0, 12, 19, 21⟩, ⟨0, 12, 23, 13⟩], rfl, by decide, rfl, by decide, aw_2_106, by decide +kernel, fun z h => absurd h List.not_mem_nil⟩
theorem hd_LA_stepIf_2 : am_hd m_LA_stepIf 7 (am_exn 2) 19 := ⟨[⟨0, 12, 15, 19⟩], ⟨0, 12, 19, 21⟩, [⟨0, 12, 23, 13⟩], rfl, by decide, rfl, by decide, aw_2_107, by decide +kernel, List.forall_mem_cons.mpr ⟨Or.inr ⟨by decide, "java/lang/IndexOutOfBoundsException", aw_2_106, by decide⟩, fun z h => absurd h List.not_mem_nil⟩⟩
theorem hd_LA_stepIf_3 : am_hd m_LA_stepIf 7 (am_exn 3) 23 := ⟨[⟨0, 12, 15, 19⟩, ⟨0, 12, 19, 21⟩], ⟨0, 12, 23, 13⟩, [], rfl, by decide, rfl, by decide, aw_2_31, by decide +kernel, List.forall_mem_cons.mpr ⟨Or.inr ⟨by decide, "java/lang/IndexOutOfBoundsException", aw_2_106, by decide⟩, List.forall_mem_cons.mpr ⟨Or.inr ⟨by decide, "java/lang/IllegalArgumentException", aw_2_107, by decide⟩, fun z h => absurd h List.not_mem_nil⟩⟩⟩
def f_LA_stepIf  (s : am_M) (x1 : Int32) (x2 : Int32) (x3 : Int32) : Int32 × am_M := (if (f_CB_stepIf s x1 x2 x3).1 = 0 then ((0 : Int32), (am_set (f_CB_stepIf s x1 x2 x3).2.2 262 ((0 : Int32)).toNatClampNeg (f_CB_stepIf s x1 x2 x3).2.1)) else (if (f_CB_stepIf s x1 x2 x3).1 = 1 then ((1 : Int32), (f_CB_stepIf s x1 x2 x3).2.2) else (if (f_CB_stepIf s x1 x2 x3).1 = 2 then ((2 : Int32), (f_CB_stepIf s x1 x2 x3).2.2) else ((3 : Int32), (f_CB_stepIf s x1 x2 x3).2.2))))
def p_LA_stepIf  (s : am_M) (x1 : Int32) (x2 : Int32) (x3 : Int32) : Prop := p_CB_stepIf s x1 x2 x3 ∧ (((f_CB_stepIf s x1 x2 x3).1 = 0 ∨ (f_CB_stepIf s x1 x2 x3).1 = 1 ∨ (f_CB_stepIf s x1 x2 x3).1 = 2 ∨ (f_CB_stepIf s x1 x2 x3).1 = 3) ∧ ((((f_CB_stepIf s x1 x2 x3).1 = 0) → vp_in (0 : Int32) 1 ∧ (True)) ∧ (¬ ((f_CB_stepIf s x1 x2 x3).1 = 0) → (((f_CB_stepIf s x1 x2 x3).1 = 1) → True) ∧ (¬ ((f_CB_stepIf s x1 x2 x3).1 = 1) → (((f_CB_stepIf s x1 x2 x3).1 = 2) → True) ∧ (¬ ((f_CB_stepIf s x1 x2 x3).1 = 2) → True)))))
set_option maxRecDepth 8000 in
theorem w_LA_stepIf {l : Launch} {g : am_Gl} (hg : g.2.2.2.1 = true) {ad0 : Nat → Nat} {s : am_M} {x1 : Int32} {x2 : Int32} {x3 : Int32} (h : p_LA_stepIf s x1 x2 x3) : AW l g m_LA_stepIf 263 ad0 (am_oC (f_LA_stepIf s x1 x2 x3)) 0 0 263 s 0 [(0, .ref 0), (1, .int x1), (2, .int x2), (3, .int x3), (4, .ref 262)] [] := by
  refine am_aload (j := 4) d_LA_stepIf_0 rfl ?_
  refine am_iconst (v := (0 : Int32)) d_LA_stepIf_2 (by decide) ?_
  refine am_aload_n (j := 0) d_LA_stepIf_3 rfl rfl ?_
  refine am_iload_n (j := 1) d_LA_stepIf_4 rfl rfl ?_
  refine am_iload_n (j := 2) d_LA_stepIf_5 rfl rfl ?_
  refine am_iload_n (j := 3) d_LA_stepIf_6 rfl rfl ?_
  obtain ⟨hc, h⟩ := h
  obtain ⟨hz, h⟩ := h
  refine am_caseN (F := am_oC) (q := (f_CB_stepIf s x1 x2 x3).1) (c := 0) (fun c0 => ?_) (fun c0 => ?_)
  · have h := h.1 c0
    refine ak_EH (as := [.int x1, .int x2, .int x3]) (rest := [.int (0 : Int32), .ref 262]) d_LA_stepIf_7 cw_LA_stepIf_7 rfl (ct_CB_stepIf hg hc) rfl rfl (by decide) sh_0 rfl (Nat.le_of_ble_eq_true rfl) (by decide) (by decide) (fun n => absurd c0 n) (fun _ => ?_)
    refine am_i2l d_LA_stepIf_10 ?_
    obtain ⟨hv, h⟩ := h
    refine am_last (y := (f_CB_stepIf s x1 x2 x3).2.1) d_LA_stepIf_11 (by decide) sh_262 hv ?_
    refine am_goto (tgt := 27) d_LA_stepIf_12 (by decide) ?_
    refine am_iconst (v := (0 : Int32)) d_LA_stepIf_27 (by decide) ?_
    exact am_iret d_LA_stepIf_28 rfl rfl (by decide) (by decide) am_oC_ok
  · have h := h.2 c0
    refine am_caseN (F := am_oC) (q := (f_CB_stepIf s x1 x2 x3).1) (c := 1) (fun c1 => ?_) (fun c1 => ?_)
    · have h := h.1 c1
      refine ak_EH (as := [.int x1, .int x2, .int x3]) (rest := [.int (0 : Int32), .ref 262]) d_LA_stepIf_7 cw_LA_stepIf_7 rfl (ct_CB_stepIf hg hc) rfl rfl (by decide) sh_0 rfl (Nat.le_of_ble_eq_true rfl) (by decide) (by decide) (fun _ => ⟨15, by rw [c1]; exact hd_LA_stepIf_1, fun q9 => ?_⟩) (fun n => absurd n c0)
      refine am_astoreS (lv2 := [(5, .retAddr q9), (0, .ref 0), (1, .int x1), (2, .int x2), (3, .int x3), (4, .ref 262)]) d_LA_stepIf_15 (by decide) rfl ?_
      refine am_iconst (v := (1 : Int32)) d_LA_stepIf_17 (by decide) ?_
      exact am_iret d_LA_stepIf_18 rfl rfl (by decide) (by decide) am_oC_ok
    · have h := h.2 c1
      refine am_caseN (F := am_oC) (q := (f_CB_stepIf s x1 x2 x3).1) (c := 2) (fun c2 => ?_) (fun c2 => ?_)
      · have h := h.1 c2
        refine ak_EH (as := [.int x1, .int x2, .int x3]) (rest := [.int (0 : Int32), .ref 262]) d_LA_stepIf_7 cw_LA_stepIf_7 rfl (ct_CB_stepIf hg hc) rfl rfl (by decide) sh_0 rfl (Nat.le_of_ble_eq_true rfl) (by decide) (by decide) (fun _ => ⟨19, by rw [c2]; exact hd_LA_stepIf_2, fun q9 => ?_⟩) (fun n => absurd n c0)
        refine am_astoreS (lv2 := [(5, .retAddr q9), (0, .ref 0), (1, .int x1), (2, .int x2), (3, .int x3), (4, .ref 262)]) d_LA_stepIf_19 (by decide) rfl ?_
        refine am_iconst (v := (2 : Int32)) d_LA_stepIf_21 (by decide) ?_
        exact am_iret d_LA_stepIf_22 rfl rfl (by decide) (by decide) am_oC_ok
      · have h := h.2 c2
        have c3 : (f_CB_stepIf s x1 x2 x3).1 = 3 := by rcases hz with z | z | z | z <;> first | exact z | exact absurd z c0 | exact absurd z c1 | exact absurd z c2
        refine ak_EH (as := [.int x1, .int x2, .int x3]) (rest := [.int (0 : Int32), .ref 262]) d_LA_stepIf_7 cw_LA_stepIf_7 rfl (ct_CB_stepIf hg hc) rfl rfl (by decide) sh_0 rfl (Nat.le_of_ble_eq_true rfl) (by decide) (by decide) (fun _ => ⟨23, by rw [c3]; exact hd_LA_stepIf_3, fun q9 => ?_⟩) (fun n => absurd n c0)
        refine am_astoreS (lv2 := [(5, .retAddr q9), (0, .ref 0), (1, .int x1), (2, .int x2), (3, .int x3), (4, .ref 262)]) d_LA_stepIf_23 (by decide) rfl ?_
        refine am_iconst (v := (3 : Int32)) d_LA_stepIf_25 (by decide) ?_
        exact am_iret d_LA_stepIf_26 rfl rfl (by decide) (by decide) am_oC_ok
theorem ct_LA_stepIf {l : Launch} {g : am_Gl} (hg : g.2.2.2.1 = true) {s : am_M} {x1 : Int32} {x2 : Int32} {x3 : Int32} (h : p_LA_stepIf s x1 x2 x3) : AC l g m_LA_stepIf 263 s [.ref 0, .int x1, .int x2, .int x3, .ref 262] (am_oC (f_LA_stepIf s x1 x2 x3)) := am_enterH ok_LA_stepIf rfl rfl (Nat.le_of_ble_eq_true rfl) rfl (fun ad0 => w_LA_stepIf hg h)
theorem cw_LA_stepPut_9 : am_cv m_LA_stepPut m_CB_stepPut 135 4 := ⟨⟨ok_CB_stepPut, rfl, by decide +kernel, by decide, by decide⟩, aw_5_146, aw_5_147, aw_5_148⟩
theorem hd_LA_stepPut_1 : am_hd m_LA_stepPut 9 (am_exn 1) 17 := ⟨[], ⟨0, 14, 17, 19⟩, [⟨0, 14, 21, 21⟩, ⟨0, 14, 25, 13⟩], rfl, by decide, rfl, by decide, aw_2_106, by decide +kernel, fun z h => absurd h List.not_mem_nil⟩
theorem hd_LA_stepPut_2 : am_hd m_LA_stepPut 9 (am_exn 2) 21 := ⟨[⟨0, 14, 17, 19⟩], ⟨0, 14, 21, 21⟩, [⟨0, 14, 25, 13⟩], rfl, by decide, rfl, by decide, aw_2_107, by decide +kernel, List.forall_mem_cons.mpr ⟨Or.inr ⟨by decide, "java/lang/IndexOutOfBoundsException", aw_2_106, by decide⟩, fun z h => absurd h List.not_mem_nil⟩⟩
theorem hd_LA_stepPut_3 : am_hd m_LA_stepPut 9 (am_exn 3) 25 := ⟨[⟨0, 14, 17, 19⟩, ⟨0, 14, 21, 21⟩], ⟨0, 14, 25, 13⟩, [], rfl, by decide, rfl, by decide, aw_2_31, by decide +kernel, List.forall_mem_cons.mpr ⟨Or.inr ⟨by decide, "java/lang/IndexOutOfBoundsException", aw_2_106, by decide⟩, List.forall_mem_cons.mpr ⟨Or.inr ⟨by decide, "java/lang/IllegalArgumentException", aw_2_107, by decide⟩, fun z h => absurd h List.not_mem_nil⟩⟩⟩
def f_LA_stepPut  (s : am_M) (x1 : Int32) (x2 : Int32) (x3 : Int32) (x4 : Int32) : Int32 × am_M := (if (f_CB_stepPut s x1 x2 x3 x4).1 = 0 then ((0 : Int32), (am_set (f_CB_stepPut s x1 x2 x3 x4).2.2 262 ((0 : Int32)).toNatClampNeg (f_CB_stepPut s x1 x2 x3 x4).2.1)) else (if (f_CB_stepPut s x1 x2 x3 x4).1 = 1 then ((1 : Int32), (f_CB_stepPut s x1 x2 x3 x4).2.2) else (if (f_CB_stepPut s x1 x2 x3 x4).1 = 2 then ((2 : Int32), (f_CB_stepPut s x1 x2 x3 x4).2.2) else ((3 : Int32), (f_CB_stepPut s x1 x2 x3 x4).2.2))))
def p_LA_stepPut  (s : am_M) (x1 : Int32) (x2 : Int32) (x3 : Int32) (x4 : Int32) : Prop := p_CB_stepPut s x1 x2 x3 x4 ∧ (((f_CB_stepPut s x1 x2 x3 x4).1 = 0 ∨ (f_CB_stepPut s x1 x2 x3 x4).1 = 1 ∨ (f_CB_stepPut s x1 x2 x3 x4).1 = 2 ∨ (f_CB_stepPut s x1 x2 x3 x4).1 = 3) ∧ ((((f_CB_stepPut s x1 x2 x3 x4).1 = 0) → vp_in (0 : Int32) 1 ∧ (True)) ∧ (¬ ((f_CB_stepPut s x1 x2 x3 x4).1 = 0) → (((f_CB_stepPut s x1 x2 x3 x4).1 = 1) → True) ∧ (¬ ((f_CB_stepPut s x1 x2 x3 x4).1 = 1) → (((f_CB_stepPut s x1 x2 x3 x4).1 = 2) → True) ∧ (¬ ((f_CB_stepPut s x1 x2 x3 x4).1 = 2) → True)))))
set_option maxRecDepth 8000 in
theorem w_LA_stepPut {l : Launch} {g : am_Gl} (hg : g.2.2.2.1 = true) {ad0 : Nat → Nat} {s : am_M} {x1 : Int32} {x2 : Int32} {x3 : Int32} {x4 : Int32} (h : p_LA_stepPut s x1 x2 x3 x4) : AW l g m_LA_stepPut 263 ad0 (am_oC (f_LA_stepPut s x1 x2 x3 x4)) 0 0 263 s 0 [(0, .ref 0), (1, .int x1), (2, .int x2), (3, .int x3), (4, .int x4), (5, .ref 262)] [] := by
  refine am_aload (j := 5) d_LA_stepPut_0 rfl ?_
  refine am_iconst (v := (0 : Int32)) d_LA_stepPut_2 (by decide) ?_
  refine am_aload_n (j := 0) d_LA_stepPut_3 rfl rfl ?_
  refine am_iload_n (j := 1) d_LA_stepPut_4 rfl rfl ?_
  refine am_iload_n (j := 2) d_LA_stepPut_5 rfl rfl ?_
  refine am_iload_n (j := 3) d_LA_stepPut_6 rfl rfl ?_
  refine am_iload (j := 4) d_LA_stepPut_7 rfl ?_
  obtain ⟨hc, h⟩ := h
  obtain ⟨hz, h⟩ := h
  refine am_caseN (F := am_oC) (q := (f_CB_stepPut s x1 x2 x3 x4).1) (c := 0) (fun c0 => ?_) (fun c0 => ?_)
  · have h := h.1 c0
    refine ak_EH (as := [.int x1, .int x2, .int x3, .int x4]) (rest := [.int (0 : Int32), .ref 262]) d_LA_stepPut_9 cw_LA_stepPut_9 rfl (ct_CB_stepPut hg hc) rfl rfl (by decide) sh_0 rfl (Nat.le_of_ble_eq_true rfl) (by decide) (by decide) (fun n => absurd c0 n) (fun _ => ?_)
    refine am_i2l d_LA_stepPut_12 ?_
    obtain ⟨hv, h⟩ := h
    refine am_last (y := (f_CB_stepPut s x1 x2 x3 x4).2.1) d_LA_stepPut_13 (by decide) sh_262 hv ?_
    refine am_goto (tgt := 29) d_LA_stepPut_14 (by decide) ?_
    refine am_iconst (v := (0 : Int32)) d_LA_stepPut_29 (by decide) ?_
    exact am_iret d_LA_stepPut_30 rfl rfl (by decide) (by decide) am_oC_ok
  · have h := h.2 c0
    refine am_caseN (F := am_oC) (q := (f_CB_stepPut s x1 x2 x3 x4).1) (c := 1) (fun c1 => ?_) (fun c1 => ?_)
    · have h := h.1 c1
      refine ak_EH (as := [.int x1, .int x2, .int x3, .int x4]) (rest := [.int (0 : Int32), .ref 262]) d_LA_stepPut_9 cw_LA_stepPut_9 rfl (ct_CB_stepPut hg hc) rfl rfl (by decide) sh_0 rfl (Nat.le_of_ble_eq_true rfl) (by decide) (by decide) (fun _ => ⟨17, by rw [c1]; exact hd_LA_stepPut_1, fun q9 => ?_⟩) (fun n => absurd n c0)
      refine am_astoreS (lv2 := [(6, .retAddr q9), (0, .ref 0), (1, .int x1), (2, .int x2), (3, .int x3), (4, .int x4), (5, .ref 262)]) d_LA_stepPut_17 (by decide) rfl ?_
      refine am_iconst (v := (1 : Int32)) d_LA_stepPut_19 (by decide) ?_
      exact am_iret d_LA_stepPut_20 rfl rfl (by decide) (by decide) am_oC_ok
    · have h := h.2 c1
      refine am_caseN (F := am_oC) (q := (f_CB_stepPut s x1 x2 x3 x4).1) (c := 2) (fun c2 => ?_) (fun c2 => ?_)
      · have h := h.1 c2
        refine ak_EH (as := [.int x1, .int x2, .int x3, .int x4]) (rest := [.int (0 : Int32), .ref 262]) d_LA_stepPut_9 cw_LA_stepPut_9 rfl (ct_CB_stepPut hg hc) rfl rfl (by decide) sh_0 rfl (Nat.le_of_ble_eq_true rfl) (by decide) (by decide) (fun _ => ⟨21, by rw [c2]; exact hd_LA_stepPut_2, fun q9 => ?_⟩) (fun n => absurd n c0)
        refine am_astoreS (lv2 := [(6, .retAddr q9), (0, .ref 0), (1, .int x1), (2, .int x2), (3, .int x3), (4, .int x4), (5, .ref 262)]) d_LA_stepPut_21 (by decide) rfl ?_
        refine am_iconst (v := (2 : Int32)) d_LA_stepPut_23 (by decide) ?_
        exact am_iret d_LA_stepPut_24 rfl rfl (by decide) (by decide) am_oC_ok
      · have h := h.2 c2
        have c3 : (f_CB_stepPut s x1 x2 x3 x4).1 = 3 := by rcases hz with z | z | z | z <;> first | exact z | exact absurd z c0 | exact absurd z c1 | exact absurd z c2
        refine ak_EH (as := [.int x1, .int x2, .int x3, .int x4]) (rest := [.int (0 : Int32), .ref 262]) d_LA_stepPut_9 cw_LA_stepPut_9 rfl (ct_CB_stepPut hg hc) rfl rfl (by decide) sh_0 rfl (Nat.le_of_ble_eq_true rfl) (by decide) (by decide) (fun _ => ⟨25, by rw [c3]; exact hd_LA_stepPut_3, fun q9 => ?_⟩) (fun n => absurd n c0)
        refine am_astoreS (lv2 := [(6, .retAddr q9), (0, .ref 0), (1, .int x1), (2, .int x2), (3, .int x3), (4, .int x4), (5, .ref 262)]) d_LA_stepPut_25 (by decide) rfl ?_
        refine am_iconst (v := (3 : Int32)) d_LA_stepPut_27 (by decide) ?_
        exact am_iret d_LA_stepPut_28 rfl rfl (by decide) (by decide) am_oC_ok
theorem ct_LA_stepPut {l : Launch} {g : am_Gl} (hg : g.2.2.2.1 = true) {s : am_M} {x1 : Int32} {x2 : Int32} {x3 : Int32} {x4 : Int32} (h : p_LA_stepPut s x1 x2 x3 x4) : AC l g m_LA_stepPut 263 s [.ref 0, .int x1, .int x2, .int x3, .int x4, .ref 262] (am_oC (f_LA_stepPut s x1 x2 x3 x4)) := am_enterH ok_LA_stepPut rfl rfl (Nat.le_of_ble_eq_true rfl) rfl (fun ad0 => w_LA_stepPut hg h)
theorem cw_LA_stepRemove_7 : am_cv m_LA_stepRemove m_CB_stepRemove 141 3 := ⟨⟨ok_CB_stepRemove, rfl, by decide +kernel, by decide, by decide⟩, aw_5_177, aw_5_178, aw_5_179⟩
theorem hd_LA_stepRemove_1 : am_hd m_LA_stepRemove 7 (am_exn 1) 15 := ⟨[], ⟨0, 12, 15, 19⟩, [⟨0, 12, 19, 21⟩, ⟨0, 12, 23, 13⟩], rfl, by decide, rfl, by decide, aw_2_106, by decide +kernel, fun z h => absurd h List.not_mem_nil⟩
theorem hd_LA_stepRemove_2 : am_hd m_LA_stepRemove 7 (am_exn 2) 19 := ⟨[⟨0, 12, 15, 19⟩], ⟨0, 12, 19, 21⟩, [⟨0, 12, 23, 13⟩], rfl, by decide, rfl, by decide, aw_2_107, by decide +kernel, List.forall_mem_cons.mpr ⟨Or.inr ⟨by decide, "java/lang/IndexOutOfBoundsException", aw_2_106, by decide⟩, fun z h => absurd h List.not_mem_nil⟩⟩
theorem hd_LA_stepRemove_3 : am_hd m_LA_stepRemove 7 (am_exn 3) 23 := ⟨[⟨0, 12, 15, 19⟩, ⟨0, 12, 19, 21⟩], ⟨0, 12, 23, 13⟩, [], rfl, by decide, rfl, by decide, aw_2_31, by decide +kernel, List.forall_mem_cons.mpr ⟨Or.inr ⟨by decide, "java/lang/IndexOutOfBoundsException", aw_2_106, by decide⟩, List.forall_mem_cons.mpr ⟨Or.inr ⟨by decide, "java/lang/IllegalArgumentException", aw_2_107, by decide⟩, fun z h => absurd h List.not_mem_nil⟩⟩⟩
def f_LA_stepRemove  (s : am_M) (x1 : Int32) (x2 : Int32) (x3 : Int32) : Int32 × am_M := (if (f_CB_stepRemove s x1 x2 x3).1 = 0 then ((0 : Int32), (am_set (f_CB_stepRemove s x1 x2 x3).2.2 262 ((0 : Int32)).toNatClampNeg (f_CB_stepRemove s x1 x2 x3).2.1)) else (if (f_CB_stepRemove s x1 x2 x3).1 = 1 then ((1 : Int32), (f_CB_stepRemove s x1 x2 x3).2.2) else (if (f_CB_stepRemove s x1 x2 x3).1 = 2 then ((2 : Int32), (f_CB_stepRemove s x1 x2 x3).2.2) else ((3 : Int32), (f_CB_stepRemove s x1 x2 x3).2.2))))
def p_LA_stepRemove  (s : am_M) (x1 : Int32) (x2 : Int32) (x3 : Int32) : Prop := p_CB_stepRemove s x1 x2 x3 ∧ (((f_CB_stepRemove s x1 x2 x3).1 = 0 ∨ (f_CB_stepRemove s x1 x2 x3).1 = 1 ∨ (f_CB_stepRemove s x1 x2 x3).1 = 2 ∨ (f_CB_stepRemove s x1 x2 x3).1 = 3) ∧ ((((f_CB_stepRemove s x1 x2 x3).1 = 0) → vp_in (0 : Int32) 1 ∧ (True)) ∧ (¬ ((f_CB_stepRemove s x1 x2 x3).1 = 0) → (((f_CB_stepRemove s x1 x2 x3).1 = 1) → True) ∧ (¬ ((f_CB_stepRemove s x1 x2 x3).1 = 1) → (((f_CB_stepRemove s x1 x2 x3).1 = 2) → True) ∧ (¬ ((f_CB_stepRemove s x1 x2 x3).1 = 2) → True)))))
set_option maxRecDepth 8000 in
theorem w_LA_stepRemove {l : Launch} {g : am_Gl} (hg : g.2.2.2.1 = true) {ad0 : Nat → Nat} {s : am_M} {x1 : Int32} {x2 : Int32} {x3 : Int32} (h : p_LA_stepRemove s x1 x2 x3) : AW l g m_LA_stepRemove 263 ad0 (am_oC (f_LA_stepRemove s x1 x2 x3)) 0 0 263 s 0 [(0, .ref 0), (1, .int x1), (2, .int x2), (3, .int x3), (4, .ref 262)] [] := by
  refine am_aload (j := 4) d_LA_stepRemove_0 rfl ?_
  refine am_iconst (v := (0 : Int32)) d_LA_stepRemove_2 (by decide) ?_
  refine am_aload_n (j := 0) d_LA_stepRemove_3 rfl rfl ?_
  refine am_iload_n (j := 1) d_LA_stepRemove_4 rfl rfl ?_
  refine am_iload_n (j := 2) d_LA_stepRemove_5 rfl rfl ?_
  refine am_iload_n (j := 3) d_LA_stepRemove_6 rfl rfl ?_
  obtain ⟨hc, h⟩ := h
  obtain ⟨hz, h⟩ := h
  refine am_caseN (F := am_oC) (q := (f_CB_stepRemove s x1 x2 x3).1) (c := 0) (fun c0 => ?_) (fun c0 => ?_)
  · have h := h.1 c0
    refine ak_EH (as := [.int x1, .int x2, .int x3]) (rest := [.int (0 : Int32), .ref 262]) d_LA_stepRemove_7 cw_LA_stepRemove_7 rfl (ct_CB_stepRemove hg hc) rfl rfl (by decide) sh_0 rfl (Nat.le_of_ble_eq_true rfl) (by decide) (by decide) (fun n => absurd c0 n) (fun _ => ?_)
    refine am_i2l d_LA_stepRemove_10 ?_
    obtain ⟨hv, h⟩ := h
    refine am_last (y := (f_CB_stepRemove s x1 x2 x3).2.1) d_LA_stepRemove_11 (by decide) sh_262 hv ?_
    refine am_goto (tgt := 27) d_LA_stepRemove_12 (by decide) ?_
    refine am_iconst (v := (0 : Int32)) d_LA_stepRemove_27 (by decide) ?_
    exact am_iret d_LA_stepRemove_28 rfl rfl (by decide) (by decide) am_oC_ok
  · have h := h.2 c0
    refine am_caseN (F := am_oC) (q := (f_CB_stepRemove s x1 x2 x3).1) (c := 1) (fun c1 => ?_) (fun c1 => ?_)
    · have h := h.1 c1
      refine ak_EH (as := [.int x1, .int x2, .int x3]) (rest := [.int (0 : Int32), .ref 262]) d_LA_stepRemove_7 cw_LA_stepRemove_7 rfl (ct_CB_stepRemove hg hc) rfl rfl (by decide) sh_0 rfl (Nat.le_of_ble_eq_true rfl) (by decide) (by decide) (fun _ => ⟨15, by rw [c1]; exact hd_LA_stepRemove_1, fun q9 => ?_⟩) (fun n => absurd n c0)
      refine am_astoreS (lv2 := [(5, .retAddr q9), (0, .ref 0), (1, .int x1), (2, .int x2), (3, .int x3), (4, .ref 262)]) d_LA_stepRemove_15 (by decide) rfl ?_
      refine am_iconst (v := (1 : Int32)) d_LA_stepRemove_17 (by decide) ?_
      exact am_iret d_LA_stepRemove_18 rfl rfl (by decide) (by decide) am_oC_ok
    · have h := h.2 c1
      refine am_caseN (F := am_oC) (q := (f_CB_stepRemove s x1 x2 x3).1) (c := 2) (fun c2 => ?_) (fun c2 => ?_)
      · have h := h.1 c2
        refine ak_EH (as := [.int x1, .int x2, .int x3]) (rest := [.int (0 : Int32), .ref 262]) d_LA_stepRemove_7 cw_LA_stepRemove_7 rfl (ct_CB_stepRemove hg hc) rfl rfl (by decide) sh_0 rfl (Nat.le_of_ble_eq_true rfl) (by decide) (by decide) (fun _ => ⟨19, by rw [c2]; exact hd_LA_stepRemove_2, fun q9 => ?_⟩) (fun n => absurd n c0)
        refine am_astoreS (lv2 := [(5, .retAddr q9), (0, .ref 0), (1, .int x1), (2, .int x2), (3, .int x3), (4, .ref 262)]) d_LA_stepRemove_19 (by decide) rfl ?_
        refine am_iconst (v := (2 : Int32)) d_LA_stepRemove_21 (by decide) ?_
        exact am_iret d_LA_stepRemove_22 rfl rfl (by decide) (by decide) am_oC_ok
      · have h := h.2 c2
        have c3 : (f_CB_stepRemove s x1 x2 x3).1 = 3 := by rcases hz with z | z | z | z <;> first | exact z | exact absurd z c0 | exact absurd z c1 | exact absurd z c2
        refine ak_EH (as := [.int x1, .int x2, .int x3]) (rest := [.int (0 : Int32), .ref 262]) d_LA_stepRemove_7 cw_LA_stepRemove_7 rfl (ct_CB_stepRemove hg hc) rfl rfl (by decide) sh_0 rfl (Nat.le_of_ble_eq_true rfl) (by decide) (by decide) (fun _ => ⟨23, by rw [c3]; exact hd_LA_stepRemove_3, fun q9 => ?_⟩) (fun n => absurd n c0)
        refine am_astoreS (lv2 := [(5, .retAddr q9), (0, .ref 0), (1, .int x1), (2, .int x2), (3, .int x3), (4, .ref 262)]) d_LA_stepRemove_23 (by decide) rfl ?_
        refine am_iconst (v := (3 : Int32)) d_LA_stepRemove_25 (by decide) ?_
        exact am_iret d_LA_stepRemove_26 rfl rfl (by decide) (by decide) am_oC_ok
theorem ct_LA_stepRemove {l : Launch} {g : am_Gl} (hg : g.2.2.2.1 = true) {s : am_M} {x1 : Int32} {x2 : Int32} {x3 : Int32} (h : p_LA_stepRemove s x1 x2 x3) : AC l g m_LA_stepRemove 263 s [.ref 0, .int x1, .int x2, .int x3, .ref 262] (am_oC (f_LA_stepRemove s x1 x2 x3)) := am_enterH ok_LA_stepRemove rfl rfl (Nat.le_of_ble_eq_true rfl) rfl (fun ad0 => w_LA_stepRemove hg h)
theorem cw_LA_target_7 : am_cv m_LA_target m_CB_target 126 3 := ⟨⟨ok_CB_target, rfl, by decide +kernel, by decide, by decide⟩, aw_5_119, aw_5_120, aw_5_121⟩
theorem hd_LA_target_1 : am_hd m_LA_target 7 (am_exn 1) 15 := ⟨[], ⟨0, 12, 15, 19⟩, [], rfl, by decide, rfl, by decide, aw_2_106, by decide +kernel, fun z h => absurd h List.not_mem_nil⟩
def f_LA_target  (s : am_M) (x1 : Int32) (x2 : Int32) (x3 : Int32) : Int32 × am_M := (if (f_CB_target s x1 x2 x3).1 = 0 then ((0 : Int32), (am_set (f_CB_target s x1 x2 x3).2.2 262 ((0 : Int32)).toNatClampNeg (f_CB_target s x1 x2 x3).2.1)) else ((1 : Int32), (f_CB_target s x1 x2 x3).2.2))
def p_LA_target  (s : am_M) (x1 : Int32) (x2 : Int32) (x3 : Int32) : Prop := p_CB_target s x1 x2 x3 ∧ (((f_CB_target s x1 x2 x3).1 = 0 ∨ (f_CB_target s x1 x2 x3).1 = 1) ∧ ((((f_CB_target s x1 x2 x3).1 = 0) → vp_in (0 : Int32) 1 ∧ (True)) ∧ (¬ ((f_CB_target s x1 x2 x3).1 = 0) → True)))
set_option maxRecDepth 8000 in
theorem w_LA_target {l : Launch} {g : am_Gl} (hg : g.2.2.2.1 = true) {ad0 : Nat → Nat} {s : am_M} {x1 : Int32} {x2 : Int32} {x3 : Int32} (h : p_LA_target s x1 x2 x3) : AW l g m_LA_target 263 ad0 (am_oC (f_LA_target s x1 x2 x3)) 0 0 263 s 0 [(0, .ref 0), (1, .int x1), (2, .int x2), (3, .int x3), (4, .ref 262)] [] := by
  refine am_aload (j := 4) d_LA_target_0 rfl ?_
  refine am_iconst (v := (0 : Int32)) d_LA_target_2 (by decide) ?_
  refine am_aload_n (j := 0) d_LA_target_3 rfl rfl ?_
  refine am_iload_n (j := 1) d_LA_target_4 rfl rfl ?_
  refine am_iload_n (j := 2) d_LA_target_5 rfl rfl ?_
  refine am_iload_n (j := 3) d_LA_target_6 rfl rfl ?_
  obtain ⟨hc, h⟩ := h
  obtain ⟨hz, h⟩ := h
  refine am_caseN (F := am_oC) (q := (f_CB_target s x1 x2 x3).1) (c := 0) (fun c0 => ?_) (fun c0 => ?_)
  · have h := h.1 c0
    refine ak_EH (as := [.int x1, .int x2, .int x3]) (rest := [.int (0 : Int32), .ref 262]) d_LA_target_7 cw_LA_target_7 rfl (ct_CB_target hg hc) rfl rfl (by decide) sh_0 rfl (Nat.le_of_ble_eq_true rfl) (by decide) (by decide) (fun n => absurd c0 n) (fun _ => ?_)
    refine am_i2l d_LA_target_10 ?_
    obtain ⟨hv, h⟩ := h
    refine am_last (y := (f_CB_target s x1 x2 x3).2.1) d_LA_target_11 (by decide) sh_262 hv ?_
    refine am_goto (tgt := 19) d_LA_target_12 (by decide) ?_
    refine am_iconst (v := (0 : Int32)) d_LA_target_19 (by decide) ?_
    exact am_iret d_LA_target_20 rfl rfl (by decide) (by decide) am_oC_ok
  · have h := h.2 c0
    have c1 : (f_CB_target s x1 x2 x3).1 = 1 := by rcases hz with z | z <;> first | exact z | exact absurd z c0
    refine ak_EH (as := [.int x1, .int x2, .int x3]) (rest := [.int (0 : Int32), .ref 262]) d_LA_target_7 cw_LA_target_7 rfl (ct_CB_target hg hc) rfl rfl (by decide) sh_0 rfl (Nat.le_of_ble_eq_true rfl) (by decide) (by decide) (fun _ => ⟨15, by rw [c1]; exact hd_LA_target_1, fun q9 => ?_⟩) (fun n => absurd n c0)
    refine am_astoreS (lv2 := [(5, .retAddr q9), (0, .ref 0), (1, .int x1), (2, .int x2), (3, .int x3), (4, .ref 262)]) d_LA_target_15 (by decide) rfl ?_
    refine am_iconst (v := (1 : Int32)) d_LA_target_17 (by decide) ?_
    exact am_iret d_LA_target_18 rfl rfl (by decide) (by decide) am_oC_ok
theorem ct_LA_target {l : Launch} {g : am_Gl} (hg : g.2.2.2.1 = true) {s : am_M} {x1 : Int32} {x2 : Int32} {x3 : Int32} (h : p_LA_target s x1 x2 x3) : AC l g m_LA_target 263 s [.ref 0, .int x1, .int x2, .int x3, .ref 262] (am_oC (f_LA_target s x1 x2 x3)) := am_enterH ok_LA_target rfl rfl (Nat.le_of_ble_eq_true rfl) rfl (fun ad0 => w_LA_target hg h)
theorem cw_LA_type_5 : am_cv m_LA_type m_CB_type 71 2 := ⟨⟨ok_CB_type, rfl, by decide +kernel, by decide, by decide⟩, aw_4_1, aw_4_2, aw_4_3⟩
theorem hd_LA_type_2 : am_hd m_LA_type 5 (am_exn 2) 13 := ⟨[], ⟨0, 10, 13, 21⟩, [], rfl, by decide, rfl, by decide, aw_2_107, by decide +kernel, fun z h => absurd h List.not_mem_nil⟩
def f_LA_type  (s : am_M) (x1 : Int32) (x2 : Int32) : Int32 × am_M := (if (f_CB_type s x1 x2).1 = 0 then ((0 : Int32), (am_set (f_CB_type s x1 x2).2.2 262 ((0 : Int32)).toNatClampNeg (f_CB_type s x1 x2).2.1)) else ((1 : Int32), (f_CB_type s x1 x2).2.2))
def p_LA_type  (s : am_M) (x1 : Int32) (x2 : Int32) : Prop := p_CB_type s x1 x2 ∧ (((f_CB_type s x1 x2).1 = 0 ∨ (f_CB_type s x1 x2).1 = 2) ∧ ((((f_CB_type s x1 x2).1 = 0) → vp_in (0 : Int32) 1 ∧ (True)) ∧ (¬ ((f_CB_type s x1 x2).1 = 0) → True)))
set_option maxRecDepth 8000 in
theorem w_LA_type {l : Launch} {g : am_Gl} (hg : g.2.2.2.1 = true) {ad0 : Nat → Nat} {s : am_M} {x1 : Int32} {x2 : Int32} (h : p_LA_type s x1 x2) : AW l g m_LA_type 263 ad0 (am_oC (f_LA_type s x1 x2)) 0 0 263 s 0 [(0, .ref 0), (1, .int x1), (2, .int x2), (3, .ref 262)] [] := by
  refine am_aload_n (j := 3) d_LA_type_0 rfl rfl ?_
  refine am_iconst (v := (0 : Int32)) d_LA_type_1 (by decide) ?_
  refine am_aload_n (j := 0) d_LA_type_2 rfl rfl ?_
  refine am_iload_n (j := 1) d_LA_type_3 rfl rfl ?_
  refine am_iload_n (j := 2) d_LA_type_4 rfl rfl ?_
  obtain ⟨hc, h⟩ := h
  obtain ⟨hz, h⟩ := h
  refine am_caseN (F := am_oC) (q := (f_CB_type s x1 x2).1) (c := 0) (fun c0 => ?_) (fun c0 => ?_)
  · have h := h.1 c0
    refine ak_EH (as := [.int x1, .int x2]) (rest := [.int (0 : Int32), .ref 262]) d_LA_type_5 cw_LA_type_5 rfl (ct_CB_type hg hc) rfl rfl (by decide) sh_0 rfl (Nat.le_of_ble_eq_true rfl) (by decide) (by decide) (fun n => absurd c0 n) (fun _ => ?_)
    refine am_i2l d_LA_type_8 ?_
    obtain ⟨hv, h⟩ := h
    refine am_last (y := (f_CB_type s x1 x2).2.1) d_LA_type_9 (by decide) sh_262 hv ?_
    refine am_goto (tgt := 17) d_LA_type_10 (by decide) ?_
    refine am_iconst (v := (0 : Int32)) d_LA_type_17 (by decide) ?_
    exact am_iret d_LA_type_18 rfl rfl (by decide) (by decide) am_oC_ok
  · have h := h.2 c0
    have c1 : (f_CB_type s x1 x2).1 = 2 := by rcases hz with z | z <;> first | exact z | exact absurd z c0
    refine ak_EH (as := [.int x1, .int x2]) (rest := [.int (0 : Int32), .ref 262]) d_LA_type_5 cw_LA_type_5 rfl (ct_CB_type hg hc) rfl rfl (by decide) sh_0 rfl (Nat.le_of_ble_eq_true rfl) (by decide) (by decide) (fun _ => ⟨13, by rw [c1]; exact hd_LA_type_2, fun q9 => ?_⟩) (fun n => absurd n c0)
    refine am_astoreS (lv2 := [(4, .retAddr q9), (0, .ref 0), (1, .int x1), (2, .int x2), (3, .ref 262)]) d_LA_type_13 (by decide) rfl ?_
    refine am_iconst (v := (1 : Int32)) d_LA_type_15 (by decide) ?_
    exact am_iret d_LA_type_16 rfl rfl (by decide) (by decide) am_oC_ok
theorem ct_LA_type {l : Launch} {g : am_Gl} (hg : g.2.2.2.1 = true) {s : am_M} {x1 : Int32} {x2 : Int32} (h : p_LA_type s x1 x2) : AC l g m_LA_type 263 s [.ref 0, .int x1, .int x2, .ref 262] (am_oC (f_LA_type s x1 x2)) := am_enterH ok_LA_type rfl rfl (Nat.le_of_ble_eq_true rfl) rfl (fun ad0 => w_LA_type hg h)
theorem cw_LA_undo_3 : am_cv m_LA_undo m_CB_undo 151 0 := ⟨⟨ok_CB_undo, rfl, by decide +kernel, by decide, by decide⟩, aw_5_223, aw_5_224, aw_5_225⟩
theorem hd_LA_undo_3 : am_hd m_LA_undo 3 (am_exn 3) 11 := ⟨[], ⟨0, 8, 11, 13⟩, [], rfl, by decide, rfl, by decide, aw_2_31, by decide +kernel, fun z h => absurd h List.not_mem_nil⟩
def f_LA_undo  (s : am_M)  : Int32 × am_M := (if (f_CB_undo s).1 = 0 then ((0 : Int32), (am_set (f_CB_undo s).2.2 262 ((0 : Int32)).toNatClampNeg (f_CB_undo s).2.1)) else ((1 : Int32), (f_CB_undo s).2.2))
def p_LA_undo  (s : am_M)  : Prop := p_CB_undo s ∧ (((f_CB_undo s).1 = 0 ∨ (f_CB_undo s).1 = 3) ∧ ((((f_CB_undo s).1 = 0) → vp_in (0 : Int32) 1 ∧ (True)) ∧ (¬ ((f_CB_undo s).1 = 0) → True)))
set_option maxRecDepth 8000 in
theorem w_LA_undo {l : Launch} {g : am_Gl} (hg : g.2.2.2.1 = true) {ad0 : Nat → Nat} {s : am_M}  (h : p_LA_undo s ) : AW l g m_LA_undo 263 ad0 (am_oC (f_LA_undo s )) 0 0 263 s 0 [(0, .ref 0), (1, .ref 262)] [] := by
  refine am_aload_n (j := 1) d_LA_undo_0 rfl rfl ?_
  refine am_iconst (v := (0 : Int32)) d_LA_undo_1 (by decide) ?_
  refine am_aload_n (j := 0) d_LA_undo_2 rfl rfl ?_
  obtain ⟨hc, h⟩ := h
  obtain ⟨hz, h⟩ := h
  refine am_caseN (F := am_oC) (q := (f_CB_undo s).1) (c := 0) (fun c0 => ?_) (fun c0 => ?_)
  · have h := h.1 c0
    refine ak_EH (as := []) (rest := [.int (0 : Int32), .ref 262]) d_LA_undo_3 cw_LA_undo_3 rfl (ct_CB_undo hg hc) rfl rfl (by decide) sh_0 rfl (Nat.le_of_ble_eq_true rfl) (by decide) (by decide) (fun n => absurd c0 n) (fun _ => ?_)
    refine am_i2l d_LA_undo_6 ?_
    obtain ⟨hv, h⟩ := h
    refine am_last (y := (f_CB_undo s).2.1) d_LA_undo_7 (by decide) sh_262 hv ?_
    refine am_goto (tgt := 14) d_LA_undo_8 (by decide) ?_
    refine am_iconst (v := (0 : Int32)) d_LA_undo_14 (by decide) ?_
    exact am_iret d_LA_undo_15 rfl rfl (by decide) (by decide) am_oC_ok
  · have h := h.2 c0
    have c1 : (f_CB_undo s).1 = 3 := by rcases hz with z | z <;> first | exact z | exact absurd z c0
    refine ak_EH (as := []) (rest := [.int (0 : Int32), .ref 262]) d_LA_undo_3 cw_LA_undo_3 rfl (ct_CB_undo hg hc) rfl rfl (by decide) sh_0 rfl (Nat.le_of_ble_eq_true rfl) (by decide) (by decide) (fun _ => ⟨11, by rw [c1]; exact hd_LA_undo_3, fun q9 => ?_⟩) (fun n => absurd n c0)
    refine am_astoreS_n (lv2 := [(2, .retAddr q9), (0, .ref 0), (1, .ref 262)]) d_LA_undo_11 rfl (by decide) rfl ?_
    refine am_iconst (v := (1 : Int32)) d_LA_undo_12 (by decide) ?_
    exact am_iret d_LA_undo_13 rfl rfl (by decide) (by decide) am_oC_ok
theorem ct_LA_undo {l : Launch} {g : am_Gl} (hg : g.2.2.2.1 = true) {s : am_M}  (h : p_LA_undo s ) : AC l g m_LA_undo 263 s [.ref 0, .ref 262] (am_oC (f_LA_undo s )) := am_enterH ok_LA_undo rfl rfl (Nat.le_of_ble_eq_true rfl) rfl (fun ad0 => w_LA_undo hg h)
theorem cw_LA_wouldLose_9 : am_cv m_LA_wouldLose m_CB_wouldLose 41 4 := ⟨⟨ok_CB_wouldLose, rfl, by decide +kernel, by decide, by decide⟩, aw_3_118, aw_3_119, aw_3_120⟩
theorem hd_LA_wouldLose_1 : am_hd m_LA_wouldLose 9 (am_exn 1) 17 := ⟨[], ⟨0, 14, 17, 19⟩, [⟨0, 14, 21, 21⟩], rfl, by decide, rfl, by decide, aw_2_106, by decide +kernel, fun z h => absurd h List.not_mem_nil⟩
theorem hd_LA_wouldLose_2 : am_hd m_LA_wouldLose 9 (am_exn 2) 21 := ⟨[⟨0, 14, 17, 19⟩], ⟨0, 14, 21, 21⟩, [], rfl, by decide, rfl, by decide, aw_2_107, by decide +kernel, List.forall_mem_cons.mpr ⟨Or.inr ⟨by decide, "java/lang/IndexOutOfBoundsException", aw_2_106, by decide⟩, fun z h => absurd h List.not_mem_nil⟩⟩
def f_LA_wouldLose  (s : am_M) (x1 : Int32) (x2 : Int32) (x3 : Int32) (x4 : Int32) : Int32 × am_M := (if (f_CB_wouldLose s x1 x2 x3 x4).1 = 0 then ((0 : Int32), (am_set (f_CB_wouldLose s x1 x2 x3 x4).2.2 262 ((0 : Int32)).toNatClampNeg (f_CB_wouldLose s x1 x2 x3 x4).2.1)) else (if (f_CB_wouldLose s x1 x2 x3 x4).1 = 1 then ((1 : Int32), (f_CB_wouldLose s x1 x2 x3 x4).2.2) else ((2 : Int32), (f_CB_wouldLose s x1 x2 x3 x4).2.2)))
def p_LA_wouldLose  (s : am_M) (x1 : Int32) (x2 : Int32) (x3 : Int32) (x4 : Int32) : Prop := p_CB_wouldLose s x1 x2 x3 x4 ∧ (((f_CB_wouldLose s x1 x2 x3 x4).1 = 0 ∨ (f_CB_wouldLose s x1 x2 x3 x4).1 = 1 ∨ (f_CB_wouldLose s x1 x2 x3 x4).1 = 2) ∧ ((((f_CB_wouldLose s x1 x2 x3 x4).1 = 0) → vp_in (0 : Int32) 1 ∧ (True)) ∧ (¬ ((f_CB_wouldLose s x1 x2 x3 x4).1 = 0) → (((f_CB_wouldLose s x1 x2 x3 x4).1 = 1) → True) ∧ (¬ ((f_CB_wouldLose s x1 x2 x3 x4).1 = 1) → True))))
set_option maxRecDepth 8000 in
theorem w_LA_wouldLose {l : Launch} {g : am_Gl} (hg : g.2.2.2.1 = true) {ad0 : Nat → Nat} {s : am_M} {x1 : Int32} {x2 : Int32} {x3 : Int32} {x4 : Int32} (h : p_LA_wouldLose s x1 x2 x3 x4) : AW l g m_LA_wouldLose 263 ad0 (am_oC (f_LA_wouldLose s x1 x2 x3 x4)) 0 0 263 s 0 [(0, .ref 0), (1, .int x1), (2, .int x2), (3, .int x3), (4, .int x4), (5, .ref 262)] [] := by
  refine am_aload (j := 5) d_LA_wouldLose_0 rfl ?_
  refine am_iconst (v := (0 : Int32)) d_LA_wouldLose_2 (by decide) ?_
  refine am_aload_n (j := 0) d_LA_wouldLose_3 rfl rfl ?_
  refine am_iload_n (j := 1) d_LA_wouldLose_4 rfl rfl ?_
  refine am_iload_n (j := 2) d_LA_wouldLose_5 rfl rfl ?_
  refine am_iload_n (j := 3) d_LA_wouldLose_6 rfl rfl ?_
  refine am_iload (j := 4) d_LA_wouldLose_7 rfl ?_
  obtain ⟨hc, h⟩ := h
  obtain ⟨hz, h⟩ := h
  refine am_caseN (F := am_oC) (q := (f_CB_wouldLose s x1 x2 x3 x4).1) (c := 0) (fun c0 => ?_) (fun c0 => ?_)
  · have h := h.1 c0
    refine ak_EH (as := [.int x1, .int x2, .int x3, .int x4]) (rest := [.int (0 : Int32), .ref 262]) d_LA_wouldLose_9 cw_LA_wouldLose_9 rfl (ct_CB_wouldLose hg hc) rfl rfl (by decide) sh_0 rfl (Nat.le_of_ble_eq_true rfl) (by decide) (by decide) (fun n => absurd c0 n) (fun _ => ?_)
    refine am_i2l d_LA_wouldLose_12 ?_
    obtain ⟨hv, h⟩ := h
    refine am_last (y := (f_CB_wouldLose s x1 x2 x3 x4).2.1) d_LA_wouldLose_13 (by decide) sh_262 hv ?_
    refine am_goto (tgt := 25) d_LA_wouldLose_14 (by decide) ?_
    refine am_iconst (v := (0 : Int32)) d_LA_wouldLose_25 (by decide) ?_
    exact am_iret d_LA_wouldLose_26 rfl rfl (by decide) (by decide) am_oC_ok
  · have h := h.2 c0
    refine am_caseN (F := am_oC) (q := (f_CB_wouldLose s x1 x2 x3 x4).1) (c := 1) (fun c1 => ?_) (fun c1 => ?_)
    · have h := h.1 c1
      refine ak_EH (as := [.int x1, .int x2, .int x3, .int x4]) (rest := [.int (0 : Int32), .ref 262]) d_LA_wouldLose_9 cw_LA_wouldLose_9 rfl (ct_CB_wouldLose hg hc) rfl rfl (by decide) sh_0 rfl (Nat.le_of_ble_eq_true rfl) (by decide) (by decide) (fun _ => ⟨17, by rw [c1]; exact hd_LA_wouldLose_1, fun q9 => ?_⟩) (fun n => absurd n c0)
      refine am_astoreS (lv2 := [(6, .retAddr q9), (0, .ref 0), (1, .int x1), (2, .int x2), (3, .int x3), (4, .int x4), (5, .ref 262)]) d_LA_wouldLose_17 (by decide) rfl ?_
      refine am_iconst (v := (1 : Int32)) d_LA_wouldLose_19 (by decide) ?_
      exact am_iret d_LA_wouldLose_20 rfl rfl (by decide) (by decide) am_oC_ok
    · have h := h.2 c1
      have c2 : (f_CB_wouldLose s x1 x2 x3 x4).1 = 2 := by rcases hz with z | z | z <;> first | exact z | exact absurd z c0 | exact absurd z c1
      refine ak_EH (as := [.int x1, .int x2, .int x3, .int x4]) (rest := [.int (0 : Int32), .ref 262]) d_LA_wouldLose_9 cw_LA_wouldLose_9 rfl (ct_CB_wouldLose hg hc) rfl rfl (by decide) sh_0 rfl (Nat.le_of_ble_eq_true rfl) (by decide) (by decide) (fun _ => ⟨21, by rw [c2]; exact hd_LA_wouldLose_2, fun q9 => ?_⟩) (fun n => absurd n c0)
      refine am_astoreS (lv2 := [(6, .retAddr q9), (0, .ref 0), (1, .int x1), (2, .int x2), (3, .int x3), (4, .int x4), (5, .ref 262)]) d_LA_wouldLose_21 (by decide) rfl ?_
      refine am_iconst (v := (2 : Int32)) d_LA_wouldLose_23 (by decide) ?_
      exact am_iret d_LA_wouldLose_24 rfl rfl (by decide) (by decide) am_oC_ok
theorem ct_LA_wouldLose {l : Launch} {g : am_Gl} (hg : g.2.2.2.1 = true) {s : am_M} {x1 : Int32} {x2 : Int32} {x3 : Int32} {x4 : Int32} (h : p_LA_wouldLose s x1 x2 x3 x4) : AC l g m_LA_wouldLose 263 s [.ref 0, .int x1, .int x2, .int x3, .int x4, .ref 262] (am_oC (f_LA_wouldLose s x1 x2 x3 x4)) := am_enterH ok_LA_wouldLose rfl rfl (Nat.le_of_ble_eq_true rfl) rfl (fun ad0 => w_LA_wouldLose hg h)
theorem cw_LA_wouldLoseAll_5 : am_cv m_LA_wouldLoseAll m_CB_wouldLoseAll 49 2 := ⟨⟨ok_CB_wouldLoseAll, rfl, by decide +kernel, by decide, by decide⟩, aw_3_144, aw_3_145, aw_3_146⟩
theorem hd_LA_wouldLoseAll_1 : am_hd m_LA_wouldLoseAll 5 (am_exn 1) 13 := ⟨[], ⟨0, 10, 13, 19⟩, [], rfl, by decide, rfl, by decide, aw_2_106, by decide +kernel, fun z h => absurd h List.not_mem_nil⟩
def f_LA_wouldLoseAll  (s : am_M) (x1 : Int32) (x2 : Int32) : Int32 × am_M := (if (f_CB_wouldLoseAll s x1 x2).1 = 0 then ((0 : Int32), (am_set (f_CB_wouldLoseAll s x1 x2).2.2 262 ((0 : Int32)).toNatClampNeg (f_CB_wouldLoseAll s x1 x2).2.1)) else ((1 : Int32), (f_CB_wouldLoseAll s x1 x2).2.2))
def p_LA_wouldLoseAll  (s : am_M) (x1 : Int32) (x2 : Int32) : Prop := p_CB_wouldLoseAll s x1 x2 ∧ (((f_CB_wouldLoseAll s x1 x2).1 = 0 ∨ (f_CB_wouldLoseAll s x1 x2).1 = 1) ∧ ((((f_CB_wouldLoseAll s x1 x2).1 = 0) → vp_in (0 : Int32) 1 ∧ (True)) ∧ (¬ ((f_CB_wouldLoseAll s x1 x2).1 = 0) → True)))
set_option maxRecDepth 8000 in
theorem w_LA_wouldLoseAll {l : Launch} {g : am_Gl} (hg : g.2.2.2.1 = true) {ad0 : Nat → Nat} {s : am_M} {x1 : Int32} {x2 : Int32} (h : p_LA_wouldLoseAll s x1 x2) : AW l g m_LA_wouldLoseAll 263 ad0 (am_oC (f_LA_wouldLoseAll s x1 x2)) 0 0 263 s 0 [(0, .ref 0), (1, .int x1), (2, .int x2), (3, .ref 262)] [] := by
  refine am_aload_n (j := 3) d_LA_wouldLoseAll_0 rfl rfl ?_
  refine am_iconst (v := (0 : Int32)) d_LA_wouldLoseAll_1 (by decide) ?_
  refine am_aload_n (j := 0) d_LA_wouldLoseAll_2 rfl rfl ?_
  refine am_iload_n (j := 1) d_LA_wouldLoseAll_3 rfl rfl ?_
  refine am_iload_n (j := 2) d_LA_wouldLoseAll_4 rfl rfl ?_
  obtain ⟨hc, h⟩ := h
  obtain ⟨hz, h⟩ := h
  refine am_caseN (F := am_oC) (q := (f_CB_wouldLoseAll s x1 x2).1) (c := 0) (fun c0 => ?_) (fun c0 => ?_)
  · have h := h.1 c0
    refine ak_EH (as := [.int x1, .int x2]) (rest := [.int (0 : Int32), .ref 262]) d_LA_wouldLoseAll_5 cw_LA_wouldLoseAll_5 rfl (ct_CB_wouldLoseAll hg hc) rfl rfl (by decide) sh_0 rfl (Nat.le_of_ble_eq_true rfl) (by decide) (by decide) (fun n => absurd c0 n) (fun _ => ?_)
    refine am_i2l d_LA_wouldLoseAll_8 ?_
    obtain ⟨hv, h⟩ := h
    refine am_last (y := (f_CB_wouldLoseAll s x1 x2).2.1) d_LA_wouldLoseAll_9 (by decide) sh_262 hv ?_
    refine am_goto (tgt := 17) d_LA_wouldLoseAll_10 (by decide) ?_
    refine am_iconst (v := (0 : Int32)) d_LA_wouldLoseAll_17 (by decide) ?_
    exact am_iret d_LA_wouldLoseAll_18 rfl rfl (by decide) (by decide) am_oC_ok
  · have h := h.2 c0
    have c1 : (f_CB_wouldLoseAll s x1 x2).1 = 1 := by rcases hz with z | z <;> first | exact z | exact absurd z c0
    refine ak_EH (as := [.int x1, .int x2]) (rest := [.int (0 : Int32), .ref 262]) d_LA_wouldLoseAll_5 cw_LA_wouldLoseAll_5 rfl (ct_CB_wouldLoseAll hg hc) rfl rfl (by decide) sh_0 rfl (Nat.le_of_ble_eq_true rfl) (by decide) (by decide) (fun _ => ⟨13, by rw [c1]; exact hd_LA_wouldLoseAll_1, fun q9 => ?_⟩) (fun n => absurd n c0)
    refine am_astoreS (lv2 := [(4, .retAddr q9), (0, .ref 0), (1, .int x1), (2, .int x2), (3, .ref 262)]) d_LA_wouldLoseAll_13 (by decide) rfl ?_
    refine am_iconst (v := (1 : Int32)) d_LA_wouldLoseAll_15 (by decide) ?_
    exact am_iret d_LA_wouldLoseAll_16 rfl rfl (by decide) (by decide) am_oC_ok
theorem ct_LA_wouldLoseAll {l : Launch} {g : am_Gl} (hg : g.2.2.2.1 = true) {s : am_M} {x1 : Int32} {x2 : Int32} (h : p_LA_wouldLoseAll s x1 x2) : AC l g m_LA_wouldLoseAll 263 s [.ref 0, .int x1, .int x2, .ref 262] (am_oC (f_LA_wouldLoseAll s x1 x2)) := am_enterH ok_LA_wouldLoseAll rfl rfl (Nat.le_of_ble_eq_true rfl) rfl (fun ad0 => w_LA_wouldLoseAll hg h)
theorem cw_LA_write_9 : am_cv m_LA_write m_CB_write 129 4 := ⟨⟨ok_CB_write, rfl, by decide +kernel, by decide, by decide⟩, aw_5_132, aw_5_133, aw_5_134⟩
theorem hd_LA_write_1 : am_hd m_LA_write 9 (am_exn 1) 24 := ⟨[], ⟨0, 21, 24, 19⟩, [⟨0, 21, 28, 21⟩], rfl, by decide, rfl, by decide, aw_2_106, by decide +kernel, fun z h => absurd h List.not_mem_nil⟩
theorem hd_LA_write_2 : am_hd m_LA_write 9 (am_exn 2) 28 := ⟨[⟨0, 21, 24, 19⟩], ⟨0, 21, 28, 21⟩, [], rfl, by decide, rfl, by decide, aw_2_107, by decide +kernel, List.forall_mem_cons.mpr ⟨Or.inr ⟨by decide, "java/lang/IndexOutOfBoundsException", aw_2_106, by decide⟩, fun z h => absurd h List.not_mem_nil⟩⟩
def f_LA_write  (s : am_M) (x1 : Int32) (x2 : Int32) (x3 : Int32) (x4 : Int32) : Int32 × am_M := (if (f_CB_write s x1 x2 x3 x4).1 = 0 then (if (f_CB_write s x1 x2 x3 x4).2.1 = 0 then ((0 : Int32), (am_set (f_CB_write s x1 x2 x3 x4).2.2 262 ((0 : Int32)).toNatClampNeg (0 : Int32))) else ((0 : Int32), (am_set (f_CB_write s x1 x2 x3 x4).2.2 262 ((0 : Int32)).toNatClampNeg (1 : Int32)))) else (if (f_CB_write s x1 x2 x3 x4).1 = 1 then ((1 : Int32), (f_CB_write s x1 x2 x3 x4).2.2) else ((2 : Int32), (f_CB_write s x1 x2 x3 x4).2.2)))
def p_LA_write  (s : am_M) (x1 : Int32) (x2 : Int32) (x3 : Int32) (x4 : Int32) : Prop := p_CB_write s x1 x2 x3 x4 ∧ (((f_CB_write s x1 x2 x3 x4).1 = 0 ∨ (f_CB_write s x1 x2 x3 x4).1 = 1 ∨ (f_CB_write s x1 x2 x3 x4).1 = 2) ∧ ((((f_CB_write s x1 x2 x3 x4).1 = 0) → (((f_CB_write s x1 x2 x3 x4).2.1 = 0) → vp_in (0 : Int32) 1 ∧ (True)) ∧ (¬ ((f_CB_write s x1 x2 x3 x4).2.1 = 0) → vp_in (0 : Int32) 1 ∧ (True))) ∧ (¬ ((f_CB_write s x1 x2 x3 x4).1 = 0) → (((f_CB_write s x1 x2 x3 x4).1 = 1) → True) ∧ (¬ ((f_CB_write s x1 x2 x3 x4).1 = 1) → True))))
set_option maxRecDepth 8000 in
theorem w_LA_write {l : Launch} {g : am_Gl} (hg : g.2.2.2.1 = true) {ad0 : Nat → Nat} {s : am_M} {x1 : Int32} {x2 : Int32} {x3 : Int32} {x4 : Int32} (h : p_LA_write s x1 x2 x3 x4) : AW l g m_LA_write 263 ad0 (am_oC (f_LA_write s x1 x2 x3 x4)) 0 0 263 s 0 [(0, .ref 0), (1, .int x1), (2, .int x2), (3, .int x3), (4, .int x4), (5, .ref 262)] [] := by
  refine am_aload (j := 5) d_LA_write_0 rfl ?_
  refine am_iconst (v := (0 : Int32)) d_LA_write_2 (by decide) ?_
  refine am_aload_n (j := 0) d_LA_write_3 rfl rfl ?_
  refine am_iload_n (j := 1) d_LA_write_4 rfl rfl ?_
  refine am_iload_n (j := 2) d_LA_write_5 rfl rfl ?_
  refine am_iload_n (j := 3) d_LA_write_6 rfl rfl ?_
  refine am_iload (j := 4) d_LA_write_7 rfl ?_
  obtain ⟨hc, h⟩ := h
  obtain ⟨hz, h⟩ := h
  refine am_caseN (F := am_oC) (q := (f_CB_write s x1 x2 x3 x4).1) (c := 0) (fun c0 => ?_) (fun c0 => ?_)
  · have h := h.1 c0
    refine ak_EH (as := [.int x1, .int x2, .int x3, .int x4]) (rest := [.int (0 : Int32), .ref 262]) d_LA_write_9 cw_LA_write_9 rfl (ct_CB_write hg hc) rfl rfl (by decide) sh_0 rfl (Nat.le_of_ble_eq_true rfl) (by decide) (by decide) (fun n => absurd c0 n) (fun _ => ?_)
    refine ai_eq (F := am_oC) (tgt := 19) d_LA_write_12 (by decide) (fun c => ?_) (fun c => ?_)
    · have h := h.1 c
      refine am_lconst (v := (0 : Int32).toInt64) d_LA_write_19 (by decide) ?_
      obtain ⟨hv, h⟩ := h
      refine am_last (y := (0 : Int32)) d_LA_write_20 (by decide) sh_262 hv ?_
      refine am_goto (tgt := 32) d_LA_write_21 (by decide) ?_
      refine am_iconst (v := (0 : Int32)) d_LA_write_32 (by decide) ?_
      exact am_iret d_LA_write_33 rfl rfl (by decide) (by decide) am_oC_ok
    · have h := h.2 c
      refine am_lconst (v := (1 : Int32).toInt64) d_LA_write_15 (by decide) ?_
      refine am_goto (tgt := 20) d_LA_write_16 (by decide) ?_
      obtain ⟨hv, h⟩ := h
      refine am_last (y := (1 : Int32)) d_LA_write_20 (by decide) sh_262 hv ?_
      refine am_goto (tgt := 32) d_LA_write_21 (by decide) ?_
      refine am_iconst (v := (0 : Int32)) d_LA_write_32 (by decide) ?_
      exact am_iret d_LA_write_33 rfl rfl (by decide) (by decide) am_oC_ok
  · have h := h.2 c0
    refine am_caseN (F := am_oC) (q := (f_CB_write s x1 x2 x3 x4).1) (c := 1) (fun c1 => ?_) (fun c1 => ?_)
    · have h := h.1 c1
      refine ak_EH (as := [.int x1, .int x2, .int x3, .int x4]) (rest := [.int (0 : Int32), .ref 262]) d_LA_write_9 cw_LA_write_9 rfl (ct_CB_write hg hc) rfl rfl (by decide) sh_0 rfl (Nat.le_of_ble_eq_true rfl) (by decide) (by decide) (fun _ => ⟨24, by rw [c1]; exact hd_LA_write_1, fun q9 => ?_⟩) (fun n => absurd n c0)
      refine am_astoreS (lv2 := [(6, .retAddr q9), (0, .ref 0), (1, .int x1), (2, .int x2), (3, .int x3), (4, .int x4), (5, .ref 262)]) d_LA_write_24 (by decide) rfl ?_
      refine am_iconst (v := (1 : Int32)) d_LA_write_26 (by decide) ?_
      exact am_iret d_LA_write_27 rfl rfl (by decide) (by decide) am_oC_ok
    · have h := h.2 c1
      have c2 : (f_CB_write s x1 x2 x3 x4).1 = 2 := by rcases hz with z | z | z <;> first | exact z | exact absurd z c0 | exact absurd z c1
      refine ak_EH (as := [.int x1, .int x2, .int x3, .int x4]) (rest := [.int (0 : Int32), .ref 262]) d_LA_write_9 cw_LA_write_9 rfl (ct_CB_write hg hc) rfl rfl (by decide) sh_0 rfl (Nat.le_of_ble_eq_true rfl) (by decide) (by decide) (fun _ => ⟨28, by rw [c2]; exact hd_LA_write_2, fun q9 => ?_⟩) (fun n => absurd n c0)
      refine am_astoreS (lv2 := [(6, .retAddr q9), (0, .ref 0), (1, .int x1), (2, .int x2), (3, .int x3), (4, .int x4), (5, .ref 262)]) d_LA_write_28 (by decide) rfl ?_
      refine am_iconst (v := (2 : Int32)) d_LA_write_30 (by decide) ?_
      exact am_iret d_LA_write_31 rfl rfl (by decide) (by decide) am_oC_ok
theorem ct_LA_write {l : Launch} {g : am_Gl} (hg : g.2.2.2.1 = true) {s : am_M} {x1 : Int32} {x2 : Int32} {x3 : Int32} {x4 : Int32} (h : p_LA_write s x1 x2 x3 x4) : AC l g m_LA_write 263 s [.ref 0, .int x1, .int x2, .int x3, .int x4, .ref 262] (am_oC (f_LA_write s x1 x2 x3 x4)) := am_enterH ok_LA_write rfl rfl (Nat.le_of_ble_eq_true rfl) rfl (fun ad0 => w_LA_write hg h)
end

noncomputable section
def f_CB_addAct  (s : am_M)  : Nat × Int32 × am_M := (if (s 0 5) < (4 : Int32) then (0, (s 0 5), (am_set s 0 5 ((s 0 5) + (1 : Int32)))) else (3, 0, s))
def p_CB_addAct  (s : am_M)  : Prop := (((s 0 5) < (4 : Int32)) → True) ∧ (¬ ((s 0 5) < (4 : Int32)) → True)
set_option maxRecDepth 8000 in
theorem w_CB_addAct {l : Launch} {g : am_Gl} (hg : g.2.2.2.1 = true) {ad0 : Nat → Nat} {s : am_M}  : AW l g m_CB_addAct 207 ad0 (am_oE (f_CB_addAct s )) 0 0 207 s 0 [(0, .ref 0)] [] := by
  have h : p_CB_addAct s  := by
    unfold p_CB_addAct
    first | exact trivial | simp
  refine am_aload_n (j := 0) d_CB_addAct_0 rfl rfl ?_
  refine am_getI d_CB_addAct_1 fl_CB_339 (by decide) sh_0 (by decide) rfl ?_
  refine am_iconst (v := (4 : Int32)) d_CB_addAct_4 (by decide) ?_
  refine aj_lt (F := am_oE) (tgt := 16) d_CB_addAct_5 (by decide) (fun c => ?_) (fun c => ?_)
  · have h := h.1 c
    refine am_aload_n (j := 0) d_CB_addAct_16 rfl rfl ?_
    refine am_dup d_CB_addAct_17 rfl ?_
    refine am_getI d_CB_addAct_18 fl_CB_339 (by decide) sh_0 (by decide) rfl ?_
    refine am_dup_x1 d_CB_addAct_21 rfl rfl ?_
    refine am_iconst (v := (1 : Int32)) d_CB_addAct_22 (by decide) ?_
    refine am_iadd d_CB_addAct_23 ?_
    refine am_putI (ty := .int) d_CB_addAct_24 fl_CB_339 ft_9_5 (by decide) sh_0 (by decide) rfl rfl rfl ?_
    exact am_iret d_CB_addAct_27 rfl rfl (by decide) (by decide) am_oE_ok
  · have h := h.2 c
    exact am_throw d_CB_addAct_8 d_CB_addAct_11 d_CB_addAct_12 d_CB_addAct_15 tw_ISE rfl rfl (by decide) (by decide) (by decide) am_oE_3
theorem ct_CB_addAct {l : Launch} {g : am_Gl} (hg : g.2.2.2.1 = true) {s : am_M}  : AC l g m_CB_addAct 207 s [.ref 0] (am_oE (f_CB_addAct s )) := am_enter ok_CB_addAct rfl (Nat.le_of_ble_eq_true rfl) rfl (fun ad0 => w_CB_addAct hg)
theorem cw_CB_addFrom_11 : am_cv m_CB_addFrom m_RO_isFull 217 1 := ⟨⟨ok_RO_isFull, rfl, by decide +kernel, by decide, by decide⟩, aw_2_129, aw_2_130, aw_2_131⟩
theorem cw_CB_addFrom_47 : am_cv m_CB_addFrom m_BA_enterRow 220 4 := ⟨⟨ok_BA_enterRow, rfl, by decide +kernel, by decide, by decide⟩, aw_2_137, aw_2_138, aw_2_139⟩
theorem cw_CB_addFrom_28 : am_cv m_CB_addFrom m_BA_refuse 155 3 := ⟨⟨ok_BA_refuse, rfl, by decide +kernel, by decide, by decide⟩, aw_3_207, aw_3_200, aw_3_201⟩
def f_CB_addFrom  (s : am_M) (x1 : Nat) : Int32 × am_M := (if (f_RO_isFull s 8 (s x1 3)) = 0 then (if (f_BA_enterRow s (s x1 3) (am_lk x1 4) (-1 : Int32) (-1000000 : Int32)).1 < 0 then ((0 : Int32), (f_BA_enterRow s (s x1 3) (am_lk x1 4) (-1 : Int32) (-1000000 : Int32)).2) else ((1 : Int32), (f_BA_enterRow s (s x1 3) (am_lk x1 4) (-1 : Int32) (-1000000 : Int32)).2)) else ((f_BA_refuse s (10 : Int32) (s x1 3) (-1 : Int32)).1, (f_BA_refuse s (10 : Int32) (s x1 3) (-1 : Int32)).2))
def p_CB_addFrom  (s : am_M) (x1 : Nat) : Prop := (x1 < 207 ∧ am_sh x1 = (0, 8, 5)) ∧ (p_RO_isFull s 8 (s x1 3) ∧ ((((f_RO_isFull s 8 (s x1 3)) = 0) → ((am_lk x1 4) < 207 ∧ am_sh (am_lk x1 4) = (1, 0, 6)) ∧ (p_BA_enterRow s (s x1 3) (am_lk x1 4) (-1 : Int32) (-1000000 : Int32) ∧ ((((f_BA_enterRow s (s x1 3) (am_lk x1 4) (-1 : Int32) (-1000000 : Int32)).1 < 0) → True) ∧ (¬ ((f_BA_enterRow s (s x1 3) (am_lk x1 4) (-1 : Int32) (-1000000 : Int32)).1 < 0) → True)))) ∧ (¬ ((f_RO_isFull s 8 (s x1 3)) = 0) → p_BA_refuse s (10 : Int32) (s x1 3) (-1 : Int32) ∧ (((f_BA_refuse s (10 : Int32) (s x1 3) (-1 : Int32)).1 = 0 ∨ (f_BA_refuse s (10 : Int32) (s x1 3) (-1 : Int32)).1 = 1) ∧ (True)))))
set_option maxRecDepth 8000 in
theorem w_CB_addFrom {l : Launch} {g : am_Gl} (hg : g.2.2.2.1 = true) {ad0 : Nat → Nat} {s : am_M} {x1 : Nat} (h : p_CB_addFrom s x1) : AW l g m_CB_addFrom 207 ad0 (am_oC (f_CB_addFrom s x1)) 0 0 207 s 0 [(0, .ref 0), (1, .ref x1)] [] := by
  refine am_aload_n (j := 0) d_CB_addFrom_0 rfl rfl ?_
  refine am_getR (t := 1) d_CB_addFrom_1 fl_CB_12 hg (by decide) sh_0 (by decide) rfl (by decide) lk_0_0 (by decide) ?_
  refine am_getR (t := 8) d_CB_addFrom_4 fl_CB_213 hg (by decide) sh_1 (by decide) rfl (by decide) lk_1_9 (by decide) ?_
  refine am_aload_n (j := 1) d_CB_addFrom_7 rfl rfl ?_
  obtain ⟨⟨b1, t1⟩, h⟩ := h
  refine am_getI d_CB_addFrom_8 fl_CB_380 b1 t1 (by decide) rfl ?_
  obtain ⟨hc, h⟩ := h
  refine ak_VI (as := [.int (s x1 3)]) (rest := []) d_CB_addFrom_11 cw_CB_addFrom_11 rfl rfl rfl (ct_RO_isFull hg hc) rfl rfl (by decide) sh_8 rfl (Nat.le_of_ble_eq_true rfl) (by decide) (by decide) ?_
  refine ai_eq (F := am_oC) (tgt := 32) d_CB_addFrom_14 (by decide) (fun c => ?_) (fun c => ?_)
  · have h := h.1 c
    refine am_aload_n (j := 0) d_CB_addFrom_32 rfl rfl ?_
    refine am_getR (t := 1) d_CB_addFrom_33 fl_CB_12 hg (by decide) sh_0 (by decide) rfl (by decide) lk_0_0 (by decide) ?_
    refine am_aload_n (j := 1) d_CB_addFrom_36 rfl rfl ?_
    refine am_getI d_CB_addFrom_37 fl_CB_380 b1 t1 (by decide) rfl ?_
    refine am_aload_n (j := 1) d_CB_addFrom_40 rfl rfl ?_
    obtain ⟨⟨b2, t2⟩, h⟩ := h
    refine am_getR (t := (am_lk x1 4)) d_CB_addFrom_41 fl_CB_406 hg b1 t1 (by decide) rfl (am_ne0 t1) rfl b2 ?_
    refine am_iconst (v := (-1 : Int32)) d_CB_addFrom_44 (by decide) ?_
    refine am_ldc (v := (-1000000 : Int32)) d_CB_addFrom_45 aw_1_99 ?_
    obtain ⟨hc, h⟩ := h
    refine ak_VC (as := [.int (s x1 3), .ref (am_lk x1 4), .int (-1 : Int32), .int (-1000000 : Int32)]) (rest := []) d_CB_addFrom_47 cw_CB_addFrom_47 rfl rfl rfl (ct_BA_enterRow hg hc) rfl rfl (by decide) sh_1 rfl (Nat.le_of_ble_eq_true rfl) (by decide) (by decide) ?_
    refine ai_lt (F := am_oC) (tgt := 57) d_CB_addFrom_50 (by decide) (fun c => ?_) (fun c => ?_)
    · have h := h.1 c
      refine am_iconst (v := (0 : Int32)) d_CB_addFrom_57 (by decide) ?_
      exact am_iret d_CB_addFrom_58 rfl (am_bool (Or.inl rfl)).1 (by decide) (by decide) am_oC_ok
    · have h := h.2 c
      refine am_iconst (v := (1 : Int32)) d_CB_addFrom_53 (by decide) ?_
      refine am_goto (tgt := 58) d_CB_addFrom_54 (by decide) ?_
      exact am_iret d_CB_addFrom_58 rfl (am_bool (Or.inr rfl)).1 (by decide) (by decide) am_oC_ok
  · have h := h.2 c
    refine am_aload_n (j := 0) d_CB_addFrom_17 rfl rfl ?_
    refine am_getR (t := 1) d_CB_addFrom_18 fl_CB_12 hg (by decide) sh_0 (by decide) rfl (by decide) lk_0_0 (by decide) ?_
    refine am_bipush (v := (10 : Int32)) d_CB_addFrom_21 (by decide) ?_
    refine am_aload_n (j := 1) d_CB_addFrom_23 rfl rfl ?_
    refine am_getI d_CB_addFrom_24 fl_CB_380 b1 t1 (by decide) rfl ?_
    refine am_iconst (v := (-1 : Int32)) d_CB_addFrom_27 (by decide) ?_
    obtain ⟨hc, h⟩ := h
    refine ak_VC (as := [.int (10 : Int32), .int (s x1 3), .int (-1 : Int32)]) (rest := []) d_CB_addFrom_28 cw_CB_addFrom_28 rfl rfl rfl (ct_BA_refuse hg hc) rfl rfl (by decide) sh_1 rfl (Nat.le_of_ble_eq_true rfl) (by decide) (by decide) ?_
    obtain ⟨hz, h⟩ := h
    exact am_iret d_CB_addFrom_31 rfl (am_bool hz).1 (by decide) (by decide) am_oC_ok
theorem ct_CB_addFrom {l : Launch} {g : am_Gl} (hg : g.2.2.2.1 = true) {s : am_M} {x1 : Nat} (h : p_CB_addFrom s x1) : AC l g m_CB_addFrom 207 s [.ref 0, .ref x1] (am_oC (f_CB_addFrom s x1)) := am_enter ok_CB_addFrom rfl (Nat.le_of_ble_eq_true rfl) rfl (fun ad0 => w_CB_addFrom hg h)
theorem cw_CB_wantTable_5 : am_cv m_CB_wantTable m_BA_hasTable 402 1 := ⟨⟨ok_BA_hasTable, rfl, by decide +kernel, by decide, by decide⟩, aw_2_38, aw_2_39, aw_2_40⟩
def f_CB_wantTable  (s : am_M) (x1 : Int32) : Nat := (if (f_BA_hasTable s x1) = 0 then 1 else 0)
def p_CB_wantTable  (s : am_M) (x1 : Int32) : Prop := (((f_BA_hasTable s x1) = 0) → True) ∧ (¬ ((f_BA_hasTable s x1) = 0) → True)
set_option maxRecDepth 8000 in
theorem w_CB_wantTable {l : Launch} {g : am_Gl} (hg : g.2.2.2.1 = true) {ad0 : Nat → Nat} {s : am_M} {x1 : Int32} : AW l g m_CB_wantTable 207 ad0 ((am_oD s) (f_CB_wantTable s x1)) 0 0 207 s 0 [(0, .ref 0), (1, .int x1)] [] := by
  have h : p_CB_wantTable s x1 := by
    unfold p_CB_wantTable
    first | exact trivial | simp
  refine am_aload_n (j := 0) d_CB_wantTable_0 rfl rfl ?_
  refine am_getR (t := 1) d_CB_wantTable_1 fl_CB_12 hg (by decide) sh_0 (by decide) rfl (by decide) lk_0_0 (by decide) ?_
  refine am_iload_n (j := 1) d_CB_wantTable_4 rfl rfl ?_
  refine ak_VI (as := [.int x1]) (rest := []) d_CB_wantTable_5 cw_CB_wantTable_5 rfl rfl rfl (ct_BA_hasTable hg) rfl rfl (by decide) sh_1 rfl (Nat.le_of_ble_eq_true rfl) (by decide) (by decide) ?_
  refine ai_ne (F := (am_oD s)) (tgt := 19) d_CB_wantTable_8 (by decide) (fun c => ?_) (fun c => ?_)
  · have h := h.2 c
    exact am_vret d_CB_wantTable_19 rfl (by decide) (by decide) am_oD_ok
  · have h := h.1 c
    exact am_throw d_CB_wantTable_11 d_CB_wantTable_14 d_CB_wantTable_15 d_CB_wantTable_18 tw_IOB rfl rfl (by decide) (by decide) (by decide) am_oD_1
theorem ct_CB_wantTable {l : Launch} {g : am_Gl} (hg : g.2.2.2.1 = true) {s : am_M} {x1 : Int32} : AC l g m_CB_wantTable 207 s [.ref 0, .int x1] ((am_oD s) (f_CB_wantTable s x1)) := am_enter ok_CB_wantTable rfl (Nat.le_of_ble_eq_true rfl) rfl (fun ad0 => w_CB_wantTable hg)
def f_CB_wantRemoval  (s : am_M) (x1 : Int32) : Nat := (if x1 < 0 then 2 else (if x1 ≤ (2 : Int32) then 0 else 2))
def p_CB_wantRemoval  (s : am_M) (x1 : Int32) : Prop := ((x1 < 0) → True) ∧ (¬ (x1 < 0) → ((x1 ≤ (2 : Int32)) → True) ∧ (¬ (x1 ≤ (2 : Int32)) → True))
set_option maxRecDepth 8000 in
theorem w_CB_wantRemoval {l : Launch} {g : am_Gl} (hg : g.2.2.2.1 = true) {ad0 : Nat → Nat} {s : am_M} {x1 : Int32} : AW l g m_CB_wantRemoval 207 ad0 ((am_oD s) (f_CB_wantRemoval s x1)) 0 0 207 s 0 [(0, .ref 0), (1, .int x1)] [] := by
  have h : p_CB_wantRemoval s x1 := by
    unfold p_CB_wantRemoval
    first | exact trivial | simp
  refine am_iload_n (j := 1) d_CB_wantRemoval_0 rfl rfl ?_
  refine ai_lt (F := (am_oD s)) (tgt := 9) d_CB_wantRemoval_1 (by decide) (fun c => ?_) (fun c => ?_)
  · have h := h.1 c
    exact am_throw d_CB_wantRemoval_9 d_CB_wantRemoval_12 d_CB_wantRemoval_13 d_CB_wantRemoval_16 tw_IAE rfl rfl (by decide) (by decide) (by decide) am_oD_2
  · have h := h.2 c
    refine am_iload_n (j := 1) d_CB_wantRemoval_4 rfl rfl ?_
    refine am_iconst (v := (2 : Int32)) d_CB_wantRemoval_5 (by decide) ?_
    refine aj_le (F := (am_oD s)) (tgt := 17) d_CB_wantRemoval_6 (by decide) (fun c => ?_) (fun c => ?_)
    · have h := h.1 c
      exact am_vret d_CB_wantRemoval_17 rfl (by decide) (by decide) am_oD_ok
    · have h := h.2 c
      exact am_throw d_CB_wantRemoval_9 d_CB_wantRemoval_12 d_CB_wantRemoval_13 d_CB_wantRemoval_16 tw_IAE rfl rfl (by decide) (by decide) (by decide) am_oD_2
theorem ct_CB_wantRemoval {l : Launch} {g : am_Gl} (hg : g.2.2.2.1 = true) {s : am_M} {x1 : Int32} : AC l g m_CB_wantRemoval 207 s [.ref 0, .int x1] ((am_oD s) (f_CB_wantRemoval s x1)) := am_enter ok_CB_wantRemoval rfl (Nat.le_of_ble_eq_true rfl) rfl (fun ad0 => w_CB_wantRemoval hg)
theorem cw_CB_wantColumnPlace_5 : am_cv m_CB_wantColumnPlace m_BA_widthOf 413 1 := ⟨⟨ok_BA_widthOf, rfl, by decide +kernel, by decide, by decide⟩, aw_2_80, aw_2_81, aw_2_82⟩
def f_CB_wantColumnPlace  (s : am_M) (x1 : Int32) : Nat := (if (f_BA_widthOf s x1) < (6 : Int32) then 0 else 3)
def p_CB_wantColumnPlace  (s : am_M) (x1 : Int32) : Prop := p_BA_widthOf s x1 ∧ ((((f_BA_widthOf s x1) < (6 : Int32)) → True) ∧ (¬ ((f_BA_widthOf s x1) < (6 : Int32)) → True))
set_option maxRecDepth 8000 in
theorem w_CB_wantColumnPlace {l : Launch} {g : am_Gl} (hg : g.2.2.2.1 = true) {ad0 : Nat → Nat} {s : am_M} {x1 : Int32} (h : p_CB_wantColumnPlace s x1) : AW l g m_CB_wantColumnPlace 207 ad0 ((am_oD s) (f_CB_wantColumnPlace s x1)) 0 0 207 s 0 [(0, .ref 0), (1, .int x1)] [] := by
  refine am_aload_n (j := 0) d_CB_wantColumnPlace_0 rfl rfl ?_
  refine am_getR (t := 1) d_CB_wantColumnPlace_1 fl_CB_12 hg (by decide) sh_0 (by decide) rfl (by decide) lk_0_0 (by decide) ?_
  refine am_iload_n (j := 1) d_CB_wantColumnPlace_4 rfl rfl ?_
  obtain ⟨hc, h⟩ := h
  refine ak_VI (as := [.int x1]) (rest := []) d_CB_wantColumnPlace_5 cw_CB_wantColumnPlace_5 rfl rfl rfl (ct_BA_widthOf hg hc) rfl rfl (by decide) sh_1 rfl (Nat.le_of_ble_eq_true rfl) (by decide) (by decide) ?_
  refine am_bipush (v := (6 : Int32)) d_CB_wantColumnPlace_8 (by decide) ?_
  refine aj_lt (F := (am_oD s)) (tgt := 21) d_CB_wantColumnPlace_10 (by decide) (fun c => ?_) (fun c => ?_)
  · have h := h.1 c
    exact am_vret d_CB_wantColumnPlace_21 rfl (by decide) (by decide) am_oD_ok
  · have h := h.2 c
    exact am_throw d_CB_wantColumnPlace_13 d_CB_wantColumnPlace_16 d_CB_wantColumnPlace_17 d_CB_wantColumnPlace_20 tw_ISE rfl rfl (by decide) (by decide) (by decide) am_oD_3
theorem ct_CB_wantColumnPlace {l : Launch} {g : am_Gl} (hg : g.2.2.2.1 = true) {s : am_M} {x1 : Int32} (h : p_CB_wantColumnPlace s x1) : AC l g m_CB_wantColumnPlace 207 s [.ref 0, .int x1] ((am_oD s) (f_CB_wantColumnPlace s x1)) := am_enter ok_CB_wantColumnPlace rfl (Nat.le_of_ble_eq_true rfl) rfl (fun ad0 => w_CB_wantColumnPlace hg h)
def f_CB_forgetActs  (s : am_M)  : am_M := (am_set s 0 7 (0 : Int32))
def p_CB_forgetActs  (s : am_M)  : Prop := True
set_option maxRecDepth 8000 in
theorem w_CB_forgetActs {l : Launch} {g : am_Gl} (hg : g.2.2.2.1 = true) {ad0 : Nat → Nat} {s : am_M}  : AW l g m_CB_forgetActs 207 ad0 (am_oM (f_CB_forgetActs s )) 0 0 207 s 0 [(0, .ref 0)] [] := by
  have h : p_CB_forgetActs s  := by
    unfold p_CB_forgetActs
    first | exact trivial | simp
  refine am_aload_n (j := 0) d_CB_forgetActs_0 rfl rfl ?_
  refine am_iconst (v := (0 : Int32)) d_CB_forgetActs_1 (by decide) ?_
  refine am_putI (ty := .int) d_CB_forgetActs_2 fl_CB_386 ft_9_7 (by decide) sh_0 (by decide) rfl rfl rfl ?_
  exact am_vret d_CB_forgetActs_5 rfl (by decide) (by decide) am_oM_ok
theorem ct_CB_forgetActs {l : Launch} {g : am_Gl} (hg : g.2.2.2.1 = true) {s : am_M}  : AC l g m_CB_forgetActs 207 s [.ref 0] (am_oM (f_CB_forgetActs s )) := am_enter ok_CB_forgetActs rfl (Nat.le_of_ble_eq_true rfl) rfl (fun ad0 => w_CB_forgetActs hg)
theorem cw_CB_addLink_2 : am_cv m_CB_addLink m_CB_wantTable 70 1 := ⟨⟨ok_CB_wantTable, rfl, by decide +kernel, by decide, by decide⟩, aw_2_34, aw_2_36, as_0_2⟩
theorem cw_CB_addLink_7 : am_cv m_CB_addLink m_CB_wantTable 70 1 := ⟨⟨ok_CB_wantTable, rfl, by decide +kernel, by decide, by decide⟩, aw_2_34, aw_2_36, as_0_2⟩
theorem cw_CB_addLink_12 : am_cv m_CB_addLink m_CB_wantRemoval 85 1 := ⟨⟨ok_CB_wantRemoval, rfl, by decide +kernel, by decide, by decide⟩, aw_2_101, aw_2_103, as_0_6⟩
theorem cw_CB_addLink_17 : am_cv m_CB_addLink m_CB_wantColumnPlace 78 1 := ⟨⟨ok_CB_wantColumnPlace, rfl, by decide +kernel, by decide, by decide⟩, aw_2_76, aw_2_78, as_0_4⟩
theorem cw_CB_addLink_21 : am_cv m_CB_addLink m_CB_forgetActs 67 0 := ⟨⟨ok_CB_forgetActs, rfl, by decide +kernel, by decide, by decide⟩, aw_2_26, aw_2_28, as_0_1⟩
theorem cw_CB_addLink_31 : am_cv m_CB_addLink m_BA_makeLink 88 3 := ⟨⟨ok_BA_makeLink, rfl, by decide +kernel, by decide, by decide⟩, aw_2_105, aw_2_106, aw_2_107⟩
def f_CB_addLink  (s : am_M) (x1 : Int32) (x2 : Int32) (x3 : Int32) : Nat × Int32 × am_M := (if (f_CB_wantTable s x1) = 0 then (if (f_CB_wantTable s x2) = 0 then (if (f_CB_wantRemoval s x3) = 0 then (if (f_CB_wantColumnPlace s x1) = 0 then (0, (f_BA_makeLink (f_CB_forgetActs s) x1 x2 x3).1, (f_BA_makeLink (f_CB_forgetActs s) x1 x2 x3).2) else ((f_CB_wantColumnPlace s x1), 0, s)) else ((f_CB_wantRemoval s x3), 0, s)) else ((f_CB_wantTable s x2), 0, s)) else ((f_CB_wantTable s x1), 0, s))
def p_CB_addLink  (s : am_M) (x1 : Int32) (x2 : Int32) (x3 : Int32) : Prop := (((f_CB_wantTable s x1) = 0) → (((f_CB_wantTable s x2) = 0) → (((f_CB_wantRemoval s x3) = 0) → p_CB_wantColumnPlace s x1 ∧ ((((f_CB_wantColumnPlace s x1) = 0) → p_BA_makeLink (f_CB_forgetActs s) x1 x2 x3 ∧ (True))))))
set_option maxRecDepth 8000 in
theorem w_CB_addLink {l : Launch} {g : am_Gl} (hg : g.2.2.2.1 = true) {ad0 : Nat → Nat} {s : am_M} {x1 : Int32} {x2 : Int32} {x3 : Int32} (h : p_CB_addLink s x1 x2 x3) : AW l g m_CB_addLink 207 ad0 (am_oE (f_CB_addLink s x1 x2 x3)) 0 0 207 s 0 [(0, .ref 0), (1, .int x1), (2, .int x2), (3, .int x3)] [] := by
  refine am_aload_n (j := 0) d_CB_addLink_0 rfl rfl ?_
  refine am_iload_n (j := 1) d_CB_addLink_1 rfl rfl ?_
  refine ak_D (F := am_oE) (as := [.int x1]) (rest := []) d_CB_addLink_2 cw_CB_addLink_2 rfl rfl rfl (ct_CB_wantTable hg) rfl rfl (by decide) sh_0 rfl (Nat.le_of_ble_eq_true rfl) (by decide) (by decide) am_oE_x (fun c => ?_)
  have h := h c
  refine am_aload_n (j := 0) d_CB_addLink_5 rfl rfl ?_
  refine am_iload_n (j := 2) d_CB_addLink_6 rfl rfl ?_
  refine ak_D (F := am_oE) (as := [.int x2]) (rest := []) d_CB_addLink_7 cw_CB_addLink_7 rfl rfl rfl (ct_CB_wantTable hg) rfl rfl (by decide) sh_0 rfl (Nat.le_of_ble_eq_true rfl) (by decide) (by decide) am_oE_x (fun c => ?_)
  have h := h c
  refine am_aload_n (j := 0) d_CB_addLink_10 rfl rfl ?_
  refine am_iload_n (j := 3) d_CB_addLink_11 rfl rfl ?_
  refine ak_D (F := am_oE) (as := [.int x3]) (rest := []) d_CB_addLink_12 cw_CB_addLink_12 rfl rfl rfl (ct_CB_wantRemoval hg) rfl rfl (by decide) sh_0 rfl (Nat.le_of_ble_eq_true rfl) (by decide) (by decide) am_oE_x (fun c => ?_)
  have h := h c
  refine am_aload_n (j := 0) d_CB_addLink_15 rfl rfl ?_
  refine am_iload_n (j := 1) d_CB_addLink_16 rfl rfl ?_
  obtain ⟨hc, h⟩ := h
  refine ak_D (F := am_oE) (as := [.int x1]) (rest := []) d_CB_addLink_17 cw_CB_addLink_17 rfl rfl rfl (ct_CB_wantColumnPlace hg hc) rfl rfl (by decide) sh_0 rfl (Nat.le_of_ble_eq_true rfl) (by decide) (by decide) am_oE_x (fun c => ?_)
  have h := h c
  refine am_aload_n (j := 0) d_CB_addLink_20 rfl rfl ?_
  refine ak_VM (as := []) (rest := []) d_CB_addLink_21 cw_CB_addLink_21 rfl rfl rfl (ct_CB_forgetActs hg) rfl rfl (by decide) sh_0 rfl (Nat.le_of_ble_eq_true rfl) (by decide) (by decide) ?_
  refine am_aload_n (j := 0) d_CB_addLink_24 rfl rfl ?_
  refine am_getR (t := 1) d_CB_addLink_25 fl_CB_12 hg (by decide) sh_0 (by decide) rfl (by decide) lk_0_0 (by decide) ?_
  refine am_iload_n (j := 1) d_CB_addLink_28 rfl rfl ?_
  refine am_iload_n (j := 2) d_CB_addLink_29 rfl rfl ?_
  refine am_iload_n (j := 3) d_CB_addLink_30 rfl rfl ?_
  obtain ⟨hc, h⟩ := h
  refine ak_VC (as := [.int x1, .int x2, .int x3]) (rest := []) d_CB_addLink_31 cw_CB_addLink_31 rfl rfl rfl (ct_BA_makeLink hg hc) rfl rfl (by decide) sh_1 rfl (Nat.le_of_ble_eq_true rfl) (by decide) (by decide) ?_
  exact am_iret d_CB_addLink_34 rfl rfl (by decide) (by decide) am_oE_ok
theorem ct_CB_addLink {l : Launch} {g : am_Gl} (hg : g.2.2.2.1 = true) {s : am_M} {x1 : Int32} {x2 : Int32} {x3 : Int32} (h : p_CB_addLink s x1 x2 x3) : AC l g m_CB_addLink 207 s [.ref 0, .int x1, .int x2, .int x3] (am_oE (f_CB_addLink s x1 x2 x3)) := am_enter ok_CB_addLink rfl (Nat.le_of_ble_eq_true rfl) rfl (fun ad0 => w_CB_addLink hg h)
def f_CB_wantRange  (s : am_M) (x1 : Int32) (x2 : Int32) : Nat := (if x1 < (-9999 : Int32) then 2 else (if (9999 : Int32) < x2 then 2 else (if x1 ≤ x2 then 0 else 2)))
def p_CB_wantRange  (s : am_M) (x1 : Int32) (x2 : Int32) : Prop := ((x1 < (-9999 : Int32)) → True) ∧ (¬ (x1 < (-9999 : Int32)) → (((9999 : Int32) < x2) → True) ∧ (¬ ((9999 : Int32) < x2) → ((x1 ≤ x2) → True) ∧ (¬ (x1 ≤ x2) → True)))
set_option maxRecDepth 8000 in
theorem w_CB_wantRange {l : Launch} {g : am_Gl} (hg : g.2.2.2.1 = true) {ad0 : Nat → Nat} {s : am_M} {x1 : Int32} {x2 : Int32} : AW l g m_CB_wantRange 207 ad0 ((am_oD s) (f_CB_wantRange s x1 x2)) 0 0 207 s 0 [(0, .ref 0), (1, .int x1), (2, .int x2)] [] := by
  have h : p_CB_wantRange s x1 x2 := by
    unfold p_CB_wantRange
    first | exact trivial | simp
  refine am_iload_n (j := 1) d_CB_wantRange_0 rfl rfl ?_
  refine am_sipush (v := (-9999 : Int32)) d_CB_wantRange_1 (by decide) ?_
  refine aj_lt (F := (am_oD s)) (tgt := 19) d_CB_wantRange_4 (by decide) (fun c => ?_) (fun c => ?_)
  · have h := h.1 c
    exact am_throw d_CB_wantRange_19 d_CB_wantRange_22 d_CB_wantRange_23 d_CB_wantRange_26 tw_IAE rfl rfl (by decide) (by decide) (by decide) am_oD_2
  · have h := h.2 c
    refine am_iload_n (j := 2) d_CB_wantRange_7 rfl rfl ?_
    refine am_sipush (v := (9999 : Int32)) d_CB_wantRange_8 (by decide) ?_
    refine aj_gt (F := (am_oD s)) (tgt := 19) d_CB_wantRange_11 (by decide) (fun c => ?_) (fun c => ?_)
    · have h := h.1 c
      exact am_throw d_CB_wantRange_19 d_CB_wantRange_22 d_CB_wantRange_23 d_CB_wantRange_26 tw_IAE rfl rfl (by decide) (by decide) (by decide) am_oD_2
    · have h := h.2 c
      refine am_iload_n (j := 1) d_CB_wantRange_14 rfl rfl ?_
      refine am_iload_n (j := 2) d_CB_wantRange_15 rfl rfl ?_
      refine aj_le (F := (am_oD s)) (tgt := 27) d_CB_wantRange_16 (by decide) (fun c => ?_) (fun c => ?_)
      · have h := h.1 c
        exact am_vret d_CB_wantRange_27 rfl (by decide) (by decide) am_oD_ok
      · have h := h.2 c
        exact am_throw d_CB_wantRange_19 d_CB_wantRange_22 d_CB_wantRange_23 d_CB_wantRange_26 tw_IAE rfl rfl (by decide) (by decide) (by decide) am_oD_2
theorem ct_CB_wantRange {l : Launch} {g : am_Gl} (hg : g.2.2.2.1 = true) {s : am_M} {x1 : Int32} {x2 : Int32} : AC l g m_CB_wantRange 207 s [.ref 0, .int x1, .int x2] ((am_oD s) (f_CB_wantRange s x1 x2)) := am_enter ok_CB_wantRange rfl (Nat.le_of_ble_eq_true rfl) rfl (fun ad0 => w_CB_wantRange hg)
theorem cw_CB_addNumber_2 : am_cv m_CB_addNumber m_CB_wantTable 70 1 := ⟨⟨ok_CB_wantTable, rfl, by decide +kernel, by decide, by decide⟩, aw_2_34, aw_2_36, as_0_2⟩
theorem cw_CB_addNumber_8 : am_cv m_CB_addNumber m_CB_wantRange 74 2 := ⟨⟨ok_CB_wantRange, rfl, by decide +kernel, by decide, by decide⟩, aw_2_57, aw_2_59, as_0_3⟩
theorem cw_CB_addNumber_13 : am_cv m_CB_addNumber m_CB_wantColumnPlace 78 1 := ⟨⟨ok_CB_wantColumnPlace, rfl, by decide +kernel, by decide, by decide⟩, aw_2_76, aw_2_78, as_0_4⟩
theorem cw_CB_addNumber_17 : am_cv m_CB_addNumber m_CB_forgetActs 67 0 := ⟨⟨ok_CB_forgetActs, rfl, by decide +kernel, by decide, by decide⟩, aw_2_26, aw_2_28, as_0_1⟩
theorem cw_CB_addNumber_27 : am_cv m_CB_addNumber m_BA_makeNumber 81 3 := ⟨⟨ok_BA_makeNumber, rfl, by decide +kernel, by decide, by decide⟩, aw_2_84, aw_2_85, aw_2_86⟩
def f_CB_addNumber  (s : am_M) (x1 : Int32) (x2 : Int32) (x3 : Int32) : Nat × Int32 × am_M := (if (f_CB_wantTable s x1) = 0 then (if (f_CB_wantRange s x2 x3) = 0 then (if (f_CB_wantColumnPlace s x1) = 0 then (0, (f_BA_makeNumber (f_CB_forgetActs s) x1 x2 x3).1, (f_BA_makeNumber (f_CB_forgetActs s) x1 x2 x3).2) else ((f_CB_wantColumnPlace s x1), 0, s)) else ((f_CB_wantRange s x2 x3), 0, s)) else ((f_CB_wantTable s x1), 0, s))
def p_CB_addNumber  (s : am_M) (x1 : Int32) (x2 : Int32) (x3 : Int32) : Prop := (((f_CB_wantTable s x1) = 0) → (((f_CB_wantRange s x2 x3) = 0) → p_CB_wantColumnPlace s x1 ∧ ((((f_CB_wantColumnPlace s x1) = 0) → p_BA_makeNumber (f_CB_forgetActs s) x1 x2 x3 ∧ (True)))))
set_option maxRecDepth 8000 in
theorem w_CB_addNumber {l : Launch} {g : am_Gl} (hg : g.2.2.2.1 = true) {ad0 : Nat → Nat} {s : am_M} {x1 : Int32} {x2 : Int32} {x3 : Int32} (h : p_CB_addNumber s x1 x2 x3) : AW l g m_CB_addNumber 207 ad0 (am_oE (f_CB_addNumber s x1 x2 x3)) 0 0 207 s 0 [(0, .ref 0), (1, .int x1), (2, .int x2), (3, .int x3)] [] := by
  refine am_aload_n (j := 0) d_CB_addNumber_0 rfl rfl ?_
  refine am_iload_n (j := 1) d_CB_addNumber_1 rfl rfl ?_
  refine ak_D (F := am_oE) (as := [.int x1]) (rest := []) d_CB_addNumber_2 cw_CB_addNumber_2 rfl rfl rfl (ct_CB_wantTable hg) rfl rfl (by decide) sh_0 rfl (Nat.le_of_ble_eq_true rfl) (by decide) (by decide) am_oE_x (fun c => ?_)
  have h := h c
  refine am_aload_n (j := 0) d_CB_addNumber_5 rfl rfl ?_
  refine am_iload_n (j := 2) d_CB_addNumber_6 rfl rfl ?_
  refine am_iload_n (j := 3) d_CB_addNumber_7 rfl rfl ?_
  refine ak_D (F := am_oE) (as := [.int x2, .int x3]) (rest := []) d_CB_addNumber_8 cw_CB_addNumber_8 rfl rfl rfl (ct_CB_wantRange hg) rfl rfl (by decide) sh_0 rfl (Nat.le_of_ble_eq_true rfl) (by decide) (by decide) am_oE_x (fun c => ?_)
  have h := h c
  refine am_aload_n (j := 0) d_CB_addNumber_11 rfl rfl ?_
  refine am_iload_n (j := 1) d_CB_addNumber_12 rfl rfl ?_
  obtain ⟨hc, h⟩ := h
  refine ak_D (F := am_oE) (as := [.int x1]) (rest := []) d_CB_addNumber_13 cw_CB_addNumber_13 rfl rfl rfl (ct_CB_wantColumnPlace hg hc) rfl rfl (by decide) sh_0 rfl (Nat.le_of_ble_eq_true rfl) (by decide) (by decide) am_oE_x (fun c => ?_)
  have h := h c
  refine am_aload_n (j := 0) d_CB_addNumber_16 rfl rfl ?_
  refine ak_VM (as := []) (rest := []) d_CB_addNumber_17 cw_CB_addNumber_17 rfl rfl rfl (ct_CB_forgetActs hg) rfl rfl (by decide) sh_0 rfl (Nat.le_of_ble_eq_true rfl) (by decide) (by decide) ?_
  refine am_aload_n (j := 0) d_CB_addNumber_20 rfl rfl ?_
  refine am_getR (t := 1) d_CB_addNumber_21 fl_CB_12 hg (by decide) sh_0 (by decide) rfl (by decide) lk_0_0 (by decide) ?_
  refine am_iload_n (j := 1) d_CB_addNumber_24 rfl rfl ?_
  refine am_iload_n (j := 2) d_CB_addNumber_25 rfl rfl ?_
  refine am_iload_n (j := 3) d_CB_addNumber_26 rfl rfl ?_
  obtain ⟨hc, h⟩ := h
  refine ak_VC (as := [.int x1, .int x2, .int x3]) (rest := []) d_CB_addNumber_27 cw_CB_addNumber_27 rfl rfl rfl (ct_BA_makeNumber hg hc) rfl rfl (by decide) sh_1 rfl (Nat.le_of_ble_eq_true rfl) (by decide) (by decide) ?_
  exact am_iret d_CB_addNumber_30 rfl rfl (by decide) (by decide) am_oE_ok
theorem ct_CB_addNumber {l : Launch} {g : am_Gl} (hg : g.2.2.2.1 = true) {s : am_M} {x1 : Int32} {x2 : Int32} {x3 : Int32} (h : p_CB_addNumber s x1 x2 x3) : AC l g m_CB_addNumber 207 s [.ref 0, .int x1, .int x2, .int x3] (am_oE (f_CB_addNumber s x1 x2 x3)) := am_enter ok_CB_addNumber rfl (Nat.le_of_ble_eq_true rfl) rfl (fun ad0 => w_CB_addNumber hg h)
theorem cw_CB_wantColumn_6 : am_cv m_CB_wantColumn m_BA_hasColumn 410 2 := ⟨⟨ok_BA_hasColumn, rfl, by decide +kernel, by decide, by decide⟩, aw_3_18, aw_3_19, aw_3_20⟩
def f_CB_wantColumn  (s : am_M) (x1 : Int32) (x2 : Int32) : Nat := (if (f_BA_hasColumn s x1 x2) = 0 then 1 else 0)
def p_CB_wantColumn  (s : am_M) (x1 : Int32) (x2 : Int32) : Prop := p_BA_hasColumn s x1 x2 ∧ ((((f_BA_hasColumn s x1 x2) = 0) → True) ∧ (¬ ((f_BA_hasColumn s x1 x2) = 0) → True))
set_option maxRecDepth 8000 in
theorem w_CB_wantColumn {l : Launch} {g : am_Gl} (hg : g.2.2.2.1 = true) {ad0 : Nat → Nat} {s : am_M} {x1 : Int32} {x2 : Int32} (h : p_CB_wantColumn s x1 x2) : AW l g m_CB_wantColumn 207 ad0 ((am_oD s) (f_CB_wantColumn s x1 x2)) 0 0 207 s 0 [(0, .ref 0), (1, .int x1), (2, .int x2)] [] := by
  refine am_aload_n (j := 0) d_CB_wantColumn_0 rfl rfl ?_
  refine am_getR (t := 1) d_CB_wantColumn_1 fl_CB_12 hg (by decide) sh_0 (by decide) rfl (by decide) lk_0_0 (by decide) ?_
  refine am_iload_n (j := 1) d_CB_wantColumn_4 rfl rfl ?_
  refine am_iload_n (j := 2) d_CB_wantColumn_5 rfl rfl ?_
  obtain ⟨hc, h⟩ := h
  refine ak_VI (as := [.int x1, .int x2]) (rest := []) d_CB_wantColumn_6 cw_CB_wantColumn_6 rfl rfl rfl (ct_BA_hasColumn hg hc) rfl rfl (by decide) sh_1 rfl (Nat.le_of_ble_eq_true rfl) (by decide) (by decide) ?_
  refine ai_ne (F := (am_oD s)) (tgt := 20) d_CB_wantColumn_9 (by decide) (fun c => ?_) (fun c => ?_)
  · have h := h.2 c
    exact am_vret d_CB_wantColumn_20 rfl (by decide) (by decide) am_oD_ok
  · have h := h.1 c
    exact am_throw d_CB_wantColumn_12 d_CB_wantColumn_15 d_CB_wantColumn_16 d_CB_wantColumn_19 tw_IOB rfl rfl (by decide) (by decide) (by decide) am_oD_1
theorem ct_CB_wantColumn {l : Launch} {g : am_Gl} (hg : g.2.2.2.1 = true) {s : am_M} {x1 : Int32} {x2 : Int32} (h : p_CB_wantColumn s x1 x2) : AC l g m_CB_wantColumn 207 s [.ref 0, .int x1, .int x2] ((am_oD s) (f_CB_wantColumn s x1 x2)) := am_enter ok_CB_wantColumn rfl (Nat.le_of_ble_eq_true rfl) rfl (fun ad0 => w_CB_wantColumn hg h)
theorem cw_CB_wantNotDropped_6 : am_cv m_CB_wantNotDropped m_BA_column 102 2 := ⟨⟨ok_BA_column, rfl, by decide +kernel, by decide, by decide⟩, aw_3_40, aw_2_94, aw_2_95⟩
def f_CB_wantNotDropped  (s : am_M) (x1 : Int32) (x2 : Int32) : Nat := (if (s (f_BA_column s x1 x2) 0) = 0 then 2 else 0)
def p_CB_wantNotDropped  (s : am_M) (x1 : Int32) (x2 : Int32) : Prop := p_BA_column s x1 x2 ∧ (((f_BA_column s x1 x2) < 207 ∧ am_sh (f_BA_column s x1 x2) = (0, 3, 11)) ∧ ((((s (f_BA_column s x1 x2) 0) = 0) → True) ∧ (¬ ((s (f_BA_column s x1 x2) 0) = 0) → True)))
set_option maxRecDepth 8000 in
theorem w_CB_wantNotDropped {l : Launch} {g : am_Gl} (hg : g.2.2.2.1 = true) {ad0 : Nat → Nat} {s : am_M} {x1 : Int32} {x2 : Int32} (h : p_CB_wantNotDropped s x1 x2) : AW l g m_CB_wantNotDropped 207 ad0 ((am_oD s) (f_CB_wantNotDropped s x1 x2)) 0 0 207 s 0 [(0, .ref 0), (1, .int x1), (2, .int x2)] [] := by
  refine am_aload_n (j := 0) d_CB_wantNotDropped_0 rfl rfl ?_
  refine am_getR (t := 1) d_CB_wantNotDropped_1 fl_CB_12 hg (by decide) sh_0 (by decide) rfl (by decide) lk_0_0 (by decide) ?_
  refine am_iload_n (j := 1) d_CB_wantNotDropped_4 rfl rfl ?_
  refine am_iload_n (j := 2) d_CB_wantNotDropped_5 rfl rfl ?_
  obtain ⟨hc, h⟩ := h
  refine ak_VR (as := [.int x1, .int x2]) (rest := []) d_CB_wantNotDropped_6 cw_CB_wantNotDropped_6 rfl rfl rfl (ct_BA_column hg hc) rfl rfl (by decide) sh_1 rfl (Nat.le_of_ble_eq_true rfl) (by decide) (by decide) ?_
  obtain ⟨⟨b1, t1⟩, h⟩ := h
  refine am_getI d_CB_wantNotDropped_9 fl_CB_106 b1 t1 (by decide) rfl ?_
  refine ai_ne (F := (am_oD s)) (tgt := 23) d_CB_wantNotDropped_12 (by decide) (fun c => ?_) (fun c => ?_)
  · have h := h.2 c
    exact am_vret d_CB_wantNotDropped_23 rfl (by decide) (by decide) am_oD_ok
  · have h := h.1 c
    exact am_throw d_CB_wantNotDropped_15 d_CB_wantNotDropped_18 d_CB_wantNotDropped_19 d_CB_wantNotDropped_22 tw_IAE rfl rfl (by decide) (by decide) (by decide) am_oD_2
theorem ct_CB_wantNotDropped {l : Launch} {g : am_Gl} (hg : g.2.2.2.1 = true) {s : am_M} {x1 : Int32} {x2 : Int32} (h : p_CB_wantNotDropped s x1 x2) : AC l g m_CB_wantNotDropped 207 s [.ref 0, .int x1, .int x2] ((am_oD s) (f_CB_wantNotDropped s x1 x2)) := am_enter ok_CB_wantNotDropped rfl (Nat.le_of_ble_eq_true rfl) rfl (fun ad0 => w_CB_wantNotDropped hg h)
theorem cw_CB_wantPair_3 : am_cv m_CB_wantPair m_CB_wantColumn 99 2 := ⟨⟨ok_CB_wantColumn, rfl, by decide +kernel, by decide, by decide⟩, aw_3_14, aw_3_16, as_1_2⟩
theorem cw_CB_wantPair_9 : am_cv m_CB_wantPair m_CB_wantColumn 99 2 := ⟨⟨ok_CB_wantColumn, rfl, by decide +kernel, by decide, by decide⟩, aw_3_14, aw_3_16, as_1_2⟩
theorem cw_CB_wantPair_15 : am_cv m_CB_wantPair m_CB_wantNotDropped 147 2 := ⟨⟨ok_CB_wantNotDropped, rfl, by decide +kernel, by decide, by decide⟩, aw_3_236, aw_3_238, as_3_1⟩
theorem cw_CB_wantPair_21 : am_cv m_CB_wantPair m_CB_wantNotDropped 147 2 := ⟨⟨ok_CB_wantNotDropped, rfl, by decide +kernel, by decide, by decide⟩, aw_3_236, aw_3_238, as_3_1⟩
def f_CB_wantPair  (s : am_M) (x1 : Int32) (x2 : Int32) (x3 : Int32) : Nat := (if (f_CB_wantColumn s x1 x2) = 0 then (if (f_CB_wantColumn s x1 x3) = 0 then (if (f_CB_wantNotDropped s x1 x2) = 0 then (if (f_CB_wantNotDropped s x1 x3) = 0 then 0 else (f_CB_wantNotDropped s x1 x3)) else (f_CB_wantNotDropped s x1 x2)) else (f_CB_wantColumn s x1 x3)) else (f_CB_wantColumn s x1 x2))
def p_CB_wantPair  (s : am_M) (x1 : Int32) (x2 : Int32) (x3 : Int32) : Prop := p_CB_wantColumn s x1 x2 ∧ ((((f_CB_wantColumn s x1 x2) = 0) → p_CB_wantColumn s x1 x3 ∧ ((((f_CB_wantColumn s x1 x3) = 0) → p_CB_wantNotDropped s x1 x2 ∧ ((((f_CB_wantNotDropped s x1 x2) = 0) → p_CB_wantNotDropped s x1 x3 ∧ ((((f_CB_wantNotDropped s x1 x3) = 0) → True))))))))
set_option maxRecDepth 8000 in
theorem w_CB_wantPair {l : Launch} {g : am_Gl} (hg : g.2.2.2.1 = true) {ad0 : Nat → Nat} {s : am_M} {x1 : Int32} {x2 : Int32} {x3 : Int32} (h : p_CB_wantPair s x1 x2 x3) : AW l g m_CB_wantPair 207 ad0 ((am_oD s) (f_CB_wantPair s x1 x2 x3)) 0 0 207 s 0 [(0, .ref 0), (1, .int x1), (2, .int x2), (3, .int x3)] [] := by
  refine am_aload_n (j := 0) d_CB_wantPair_0 rfl rfl ?_
  refine am_iload_n (j := 1) d_CB_wantPair_1 rfl rfl ?_
  refine am_iload_n (j := 2) d_CB_wantPair_2 rfl rfl ?_
  obtain ⟨hc, h⟩ := h
  refine ak_D (F := (am_oD s)) (as := [.int x1, .int x2]) (rest := []) d_CB_wantPair_3 cw_CB_wantPair_3 rfl rfl rfl (ct_CB_wantColumn hg hc) rfl rfl (by decide) sh_0 rfl (Nat.le_of_ble_eq_true rfl) (by decide) (by decide) am_oD_x (fun c => ?_)
  have h := h c
  refine am_aload_n (j := 0) d_CB_wantPair_6 rfl rfl ?_
  refine am_iload_n (j := 1) d_CB_wantPair_7 rfl rfl ?_
  refine am_iload_n (j := 3) d_CB_wantPair_8 rfl rfl ?_
  obtain ⟨hc, h⟩ := h
  refine ak_D (F := (am_oD s)) (as := [.int x1, .int x3]) (rest := []) d_CB_wantPair_9 cw_CB_wantPair_9 rfl rfl rfl (ct_CB_wantColumn hg hc) rfl rfl (by decide) sh_0 rfl (Nat.le_of_ble_eq_true rfl) (by decide) (by decide) am_oD_x (fun c => ?_)
  have h := h c
  refine am_aload_n (j := 0) d_CB_wantPair_12 rfl rfl ?_
  refine am_iload_n (j := 1) d_CB_wantPair_13 rfl rfl ?_
  refine am_iload_n (j := 2) d_CB_wantPair_14 rfl rfl ?_
  obtain ⟨hc, h⟩ := h
  refine ak_D (F := (am_oD s)) (as := [.int x1, .int x2]) (rest := []) d_CB_wantPair_15 cw_CB_wantPair_15 rfl rfl rfl (ct_CB_wantNotDropped hg hc) rfl rfl (by decide) sh_0 rfl (Nat.le_of_ble_eq_true rfl) (by decide) (by decide) am_oD_x (fun c => ?_)
  have h := h c
  refine am_aload_n (j := 0) d_CB_wantPair_18 rfl rfl ?_
  refine am_iload_n (j := 1) d_CB_wantPair_19 rfl rfl ?_
  refine am_iload_n (j := 3) d_CB_wantPair_20 rfl rfl ?_
  obtain ⟨hc, h⟩ := h
  refine ak_D (F := (am_oD s)) (as := [.int x1, .int x3]) (rest := []) d_CB_wantPair_21 cw_CB_wantPair_21 rfl rfl rfl (ct_CB_wantNotDropped hg hc) rfl rfl (by decide) sh_0 rfl (Nat.le_of_ble_eq_true rfl) (by decide) (by decide) am_oD_x (fun c => ?_)
  have h := h c
  exact am_vret d_CB_wantPair_24 rfl (by decide) (by decide) am_oD_ok
theorem ct_CB_wantPair {l : Launch} {g : am_Gl} (hg : g.2.2.2.1 = true) {s : am_M} {x1 : Int32} {x2 : Int32} {x3 : Int32} (h : p_CB_wantPair s x1 x2 x3) : AC l g m_CB_wantPair 207 s [.ref 0, .int x1, .int x2, .int x3] ((am_oD s) (f_CB_wantPair s x1 x2 x3)) := am_enter ok_CB_wantPair rfl (Nat.le_of_ble_eq_true rfl) rfl (fun ad0 => w_CB_wantPair hg h)
theorem cw_CB_wantLink_6 : am_cv m_CB_wantLink m_BA_column 102 2 := ⟨⟨ok_BA_column, rfl, by decide +kernel, by decide, by decide⟩, aw_3_40, aw_2_94, aw_2_95⟩
def f_CB_wantLink  (s : am_M) (x1 : Int32) (x2 : Int32) : Nat := (if (s (f_BA_column s x1 x2) 0) = (2 : Int32) then 0 else 2)
def p_CB_wantLink  (s : am_M) (x1 : Int32) (x2 : Int32) : Prop := p_BA_column s x1 x2 ∧ (((f_BA_column s x1 x2) < 207 ∧ am_sh (f_BA_column s x1 x2) = (0, 3, 11)) ∧ ((((s (f_BA_column s x1 x2) 0) = (2 : Int32)) → True) ∧ (¬ ((s (f_BA_column s x1 x2) 0) = (2 : Int32)) → True)))
set_option maxRecDepth 8000 in
theorem w_CB_wantLink {l : Launch} {g : am_Gl} (hg : g.2.2.2.1 = true) {ad0 : Nat → Nat} {s : am_M} {x1 : Int32} {x2 : Int32} (h : p_CB_wantLink s x1 x2) : AW l g m_CB_wantLink 207 ad0 ((am_oD s) (f_CB_wantLink s x1 x2)) 0 0 207 s 0 [(0, .ref 0), (1, .int x1), (2, .int x2)] [] := by
  refine am_aload_n (j := 0) d_CB_wantLink_0 rfl rfl ?_
  refine am_getR (t := 1) d_CB_wantLink_1 fl_CB_12 hg (by decide) sh_0 (by decide) rfl (by decide) lk_0_0 (by decide) ?_
  refine am_iload_n (j := 1) d_CB_wantLink_4 rfl rfl ?_
  refine am_iload_n (j := 2) d_CB_wantLink_5 rfl rfl ?_
  obtain ⟨hc, h⟩ := h
  refine ak_VR (as := [.int x1, .int x2]) (rest := []) d_CB_wantLink_6 cw_CB_wantLink_6 rfl rfl rfl (ct_BA_column hg hc) rfl rfl (by decide) sh_1 rfl (Nat.le_of_ble_eq_true rfl) (by decide) (by decide) ?_
  obtain ⟨⟨b1, t1⟩, h⟩ := h
  refine am_getI d_CB_wantLink_9 fl_CB_106 b1 t1 (by decide) rfl ?_
  refine am_iconst (v := (2 : Int32)) d_CB_wantLink_12 (by decide) ?_
  refine aj_eq (F := (am_oD s)) (tgt := 24) d_CB_wantLink_13 (by decide) (fun c => ?_) (fun c => ?_)
  · have h := h.1 c
    exact am_vret d_CB_wantLink_24 rfl (by decide) (by decide) am_oD_ok
  · have h := h.2 c
    exact am_throw d_CB_wantLink_16 d_CB_wantLink_19 d_CB_wantLink_20 d_CB_wantLink_23 tw_IAE rfl rfl (by decide) (by decide) (by decide) am_oD_2
theorem ct_CB_wantLink {l : Launch} {g : am_Gl} (hg : g.2.2.2.1 = true) {s : am_M} {x1 : Int32} {x2 : Int32} (h : p_CB_wantLink s x1 x2) : AC l g m_CB_wantLink 207 s [.ref 0, .int x1, .int x2] ((am_oD s) (f_CB_wantLink s x1 x2)) := am_enter ok_CB_wantLink rfl (Nat.le_of_ble_eq_true rfl) rfl (fun ad0 => w_CB_wantLink hg h)
theorem cw_CB_wantLook_3 : am_cv m_CB_wantLook m_CB_wantColumn 99 2 := ⟨⟨ok_CB_wantColumn, rfl, by decide +kernel, by decide, by decide⟩, aw_3_14, aw_3_16, as_1_2⟩
theorem cw_CB_wantLook_9 : am_cv m_CB_wantLook m_CB_wantLink 162 2 := ⟨⟨ok_CB_wantLink, rfl, by decide +kernel, by decide, by decide⟩, aw_3_36, aw_3_38, as_1_5⟩
theorem cw_CB_wantLook_18 : am_cv m_CB_wantLook m_BA_column 102 2 := ⟨⟨ok_BA_column, rfl, by decide +kernel, by decide, by decide⟩, aw_3_40, aw_2_94, aw_2_95⟩
theorem cw_CB_wantLook_30 : am_cv m_CB_wantLook m_CB_wantColumn 99 2 := ⟨⟨ok_CB_wantColumn, rfl, by decide +kernel, by decide, by decide⟩, aw_3_14, aw_3_16, as_1_2⟩
theorem cw_CB_wantLook_37 : am_cv m_CB_wantLook m_CB_wantNotDropped 147 2 := ⟨⟨ok_CB_wantNotDropped, rfl, by decide +kernel, by decide, by decide⟩, aw_3_236, aw_3_238, as_3_1⟩
def f_CB_wantLook  (s : am_M) (x1 : Int32) (x2 : Int32) (x3 : Int32) : Nat := (if (f_CB_wantColumn s x1 x2) = 0 then (if (f_CB_wantLink s x1 x2) = 0 then (if (f_CB_wantColumn s (s (f_BA_column s x1 x2) 3) x3) = 0 then (if (f_CB_wantNotDropped s (s (f_BA_column s x1 x2) 3) x3) = 0 then 0 else (f_CB_wantNotDropped s (s (f_BA_column s x1 x2) 3) x3)) else (f_CB_wantColumn s (s (f_BA_column s x1 x2) 3) x3)) else (f_CB_wantLink s x1 x2)) else (f_CB_wantColumn s x1 x2))
def p_CB_wantLook  (s : am_M) (x1 : Int32) (x2 : Int32) (x3 : Int32) : Prop := p_CB_wantColumn s x1 x2 ∧ ((((f_CB_wantColumn s x1 x2) = 0) → p_CB_wantLink s x1 x2 ∧ ((((f_CB_wantLink s x1 x2) = 0) → p_BA_column s x1 x2 ∧ (((f_BA_column s x1 x2) < 207 ∧ am_sh (f_BA_column s x1 x2) = (0, 3, 11)) ∧ (p_CB_wantColumn s (s (f_BA_column s x1 x2) 3) x3 ∧ ((((f_CB_wantColumn s (s (f_BA_column s x1 x2) 3) x3) = 0) → p_CB_wantNotDropped s (s (f_BA_column s x1 x2) 3) x3 ∧ ((((f_CB_wantNotDropped s (s (f_BA_column s x1 x2) 3) x3) = 0) → True))))))))))
set_option maxRecDepth 8000 in
theorem w_CB_wantLook {l : Launch} {g : am_Gl} (hg : g.2.2.2.1 = true) {ad0 : Nat → Nat} {s : am_M} {x1 : Int32} {x2 : Int32} {x3 : Int32} (h : p_CB_wantLook s x1 x2 x3) : AW l g m_CB_wantLook 207 ad0 ((am_oD s) (f_CB_wantLook s x1 x2 x3)) 0 0 207 s 0 [(0, .ref 0), (1, .int x1), (2, .int x2), (3, .int x3)] [] := by
  refine am_aload_n (j := 0) d_CB_wantLook_0 rfl rfl ?_
  refine am_iload_n (j := 1) d_CB_wantLook_1 rfl rfl ?_
  refine am_iload_n (j := 2) d_CB_wantLook_2 rfl rfl ?_
  obtain ⟨hc, h⟩ := h
  refine ak_D (F := (am_oD s)) (as := [.int x1, .int x2]) (rest := []) d_CB_wantLook_3 cw_CB_wantLook_3 rfl rfl rfl (ct_CB_wantColumn hg hc) rfl rfl (by decide) sh_0 rfl (Nat.le_of_ble_eq_true rfl) (by decide) (by decide) am_oD_x (fun c => ?_)
  have h := h c
  refine am_aload_n (j := 0) d_CB_wantLook_6 rfl rfl ?_
  refine am_iload_n (j := 1) d_CB_wantLook_7 rfl rfl ?_
  refine am_iload_n (j := 2) d_CB_wantLook_8 rfl rfl ?_
  obtain ⟨hc, h⟩ := h
  refine ak_D (F := (am_oD s)) (as := [.int x1, .int x2]) (rest := []) d_CB_wantLook_9 cw_CB_wantLook_9 rfl rfl rfl (ct_CB_wantLink hg hc) rfl rfl (by decide) sh_0 rfl (Nat.le_of_ble_eq_true rfl) (by decide) (by decide) am_oD_x (fun c => ?_)
  have h := h c
  refine am_aload_n (j := 0) d_CB_wantLook_12 rfl rfl ?_
  refine am_getR (t := 1) d_CB_wantLook_13 fl_CB_12 hg (by decide) sh_0 (by decide) rfl (by decide) lk_0_0 (by decide) ?_
  refine am_iload_n (j := 1) d_CB_wantLook_16 rfl rfl ?_
  refine am_iload_n (j := 2) d_CB_wantLook_17 rfl rfl ?_
  obtain ⟨hc, h⟩ := h
  refine ak_VR (as := [.int x1, .int x2]) (rest := []) d_CB_wantLook_18 cw_CB_wantLook_18 rfl rfl rfl (ct_BA_column hg hc) rfl rfl (by decide) sh_1 rfl (Nat.le_of_ble_eq_true rfl) (by decide) (by decide) ?_
  obtain ⟨⟨b1, t1⟩, h⟩ := h
  refine am_getI d_CB_wantLook_21 fl_CB_254 b1 t1 (by decide) rfl ?_
  refine am_istore (lv2 := [(4, .int (s (f_BA_column s x1 x2) 3)), (0, .ref 0), (1, .int x1), (2, .int x2), (3, .int x3)]) d_CB_wantLook_24 (by decide) rfl ?_
  refine am_aload_n (j := 1) d_CB_wantLook_26 rfl rfl ?_
  refine am_iload (j := 0) d_CB_wantLook_27 rfl ?_
  refine am_iload_n (j := 4) d_CB_wantLook_29 rfl rfl ?_
  obtain ⟨hc, h⟩ := h
  refine ak_D (F := (am_oD s)) (as := [.int (s (f_BA_column s x1 x2) 3), .int x3]) (rest := []) d_CB_wantLook_30 cw_CB_wantLook_30 rfl rfl rfl (ct_CB_wantColumn hg hc) rfl rfl (by decide) sh_0 rfl (Nat.le_of_ble_eq_true rfl) (by decide) (by decide) am_oD_x (fun c => ?_)
  have h := h c
  refine am_aload_n (j := 1) d_CB_wantLook_33 rfl rfl ?_
  refine am_iload (j := 0) d_CB_wantLook_34 rfl ?_
  refine am_iload_n (j := 4) d_CB_wantLook_36 rfl rfl ?_
  obtain ⟨hc, h⟩ := h
  refine ak_D (F := (am_oD s)) (as := [.int (s (f_BA_column s x1 x2) 3), .int x3]) (rest := []) d_CB_wantLook_37 cw_CB_wantLook_37 rfl rfl rfl (ct_CB_wantNotDropped hg hc) rfl rfl (by decide) sh_0 rfl (Nat.le_of_ble_eq_true rfl) (by decide) (by decide) am_oD_x (fun c => ?_)
  have h := h c
  exact am_vret d_CB_wantLook_40 rfl (by decide) (by decide) am_oD_ok
theorem ct_CB_wantLook {l : Launch} {g : am_Gl} (hg : g.2.2.2.1 = true) {s : am_M} {x1 : Int32} {x2 : Int32} {x3 : Int32} (h : p_CB_wantLook s x1 x2 x3) : AC l g m_CB_wantLook 207 s [.ref 0, .int x1, .int x2, .int x3] ((am_oD s) (f_CB_wantLook s x1 x2 x3)) := am_enter ok_CB_wantLook rfl (Nat.le_of_ble_eq_true rfl) rfl (fun ad0 => w_CB_wantLook hg h)
theorem cw_CB_wantLinkTo_3 : am_cv m_CB_wantLinkTo m_CB_wantLink 162 2 := ⟨⟨ok_CB_wantLink, rfl, by decide +kernel, by decide, by decide⟩, aw_3_36, aw_3_38, as_1_5⟩
theorem cw_CB_wantLinkTo_12 : am_cv m_CB_wantLinkTo m_BA_column 102 2 := ⟨⟨ok_BA_column, rfl, by decide +kernel, by decide, by decide⟩, aw_3_40, aw_2_94, aw_2_95⟩
def f_CB_wantLinkTo  (s : am_M) (x1 : Int32) (x2 : Int32) (x3 : Int32) : Nat := (if (f_CB_wantLink s x1 x2) = 0 then (if (s (f_BA_column s x1 x2) 3) = x3 then 0 else 2) else (f_CB_wantLink s x1 x2))
def p_CB_wantLinkTo  (s : am_M) (x1 : Int32) (x2 : Int32) (x3 : Int32) : Prop := p_CB_wantLink s x1 x2 ∧ ((((f_CB_wantLink s x1 x2) = 0) → p_BA_column s x1 x2 ∧ (((f_BA_column s x1 x2) < 207 ∧ am_sh (f_BA_column s x1 x2) = (0, 3, 11)) ∧ ((((s (f_BA_column s x1 x2) 3) = x3) → True) ∧ (¬ ((s (f_BA_column s x1 x2) 3) = x3) → True)))))
set_option maxRecDepth 8000 in
theorem w_CB_wantLinkTo {l : Launch} {g : am_Gl} (hg : g.2.2.2.1 = true) {ad0 : Nat → Nat} {s : am_M} {x1 : Int32} {x2 : Int32} {x3 : Int32} (h : p_CB_wantLinkTo s x1 x2 x3) : AW l g m_CB_wantLinkTo 207 ad0 ((am_oD s) (f_CB_wantLinkTo s x1 x2 x3)) 0 0 207 s 0 [(0, .ref 0), (1, .int x1), (2, .int x2), (3, .int x3)] [] := by
  refine am_aload_n (j := 0) d_CB_wantLinkTo_0 rfl rfl ?_
  refine am_iload_n (j := 1) d_CB_wantLinkTo_1 rfl rfl ?_
  refine am_iload_n (j := 2) d_CB_wantLinkTo_2 rfl rfl ?_
  obtain ⟨hc, h⟩ := h
  refine ak_D (F := (am_oD s)) (as := [.int x1, .int x2]) (rest := []) d_CB_wantLinkTo_3 cw_CB_wantLinkTo_3 rfl rfl rfl (ct_CB_wantLink hg hc) rfl rfl (by decide) sh_0 rfl (Nat.le_of_ble_eq_true rfl) (by decide) (by decide) am_oD_x (fun c => ?_)
  have h := h c
  refine am_aload_n (j := 0) d_CB_wantLinkTo_6 rfl rfl ?_
  refine am_getR (t := 1) d_CB_wantLinkTo_7 fl_CB_12 hg (by decide) sh_0 (by decide) rfl (by decide) lk_0_0 (by decide) ?_
  refine am_iload_n (j := 1) d_CB_wantLinkTo_10 rfl rfl ?_
  refine am_iload_n (j := 2) d_CB_wantLinkTo_11 rfl rfl ?_
  obtain ⟨hc, h⟩ := h
  refine ak_VR (as := [.int x1, .int x2]) (rest := []) d_CB_wantLinkTo_12 cw_CB_wantLinkTo_12 rfl rfl rfl (ct_BA_column hg hc) rfl rfl (by decide) sh_1 rfl (Nat.le_of_ble_eq_true rfl) (by decide) (by decide) ?_
  obtain ⟨⟨b1, t1⟩, h⟩ := h
  refine am_getI d_CB_wantLinkTo_15 fl_CB_254 b1 t1 (by decide) rfl ?_
  refine am_iload_n (j := 3) d_CB_wantLinkTo_18 rfl rfl ?_
  refine aj_eq (F := (am_oD s)) (tgt := 30) d_CB_wantLinkTo_19 (by decide) (fun c => ?_) (fun c => ?_)
  · have h := h.1 c
    exact am_vret d_CB_wantLinkTo_30 rfl (by decide) (by decide) am_oD_ok
  · have h := h.2 c
    exact am_throw d_CB_wantLinkTo_22 d_CB_wantLinkTo_25 d_CB_wantLinkTo_26 d_CB_wantLinkTo_29 tw_IAE rfl rfl (by decide) (by decide) (by decide) am_oD_2
theorem ct_CB_wantLinkTo {l : Launch} {g : am_Gl} (hg : g.2.2.2.1 = true) {s : am_M} {x1 : Int32} {x2 : Int32} {x3 : Int32} (h : p_CB_wantLinkTo s x1 x2 x3) : AC l g m_CB_wantLinkTo 207 s [.ref 0, .int x1, .int x2, .int x3] ((am_oD s) (f_CB_wantLinkTo s x1 x2 x3)) := am_enter ok_CB_wantLinkTo rfl (Nat.le_of_ble_eq_true rfl) rfl (fun ad0 => w_CB_wantLinkTo hg h)
theorem cw_CB_wantGathering_4 : am_cv m_CB_wantGathering m_CB_wantColumn 99 2 := ⟨⟨ok_CB_wantColumn, rfl, by decide +kernel, by decide, by decide⟩, aw_3_14, aw_3_16, as_1_2⟩
theorem cw_CB_wantGathering_17 : am_cv m_CB_wantGathering m_CB_wantColumn 99 2 := ⟨⟨ok_CB_wantColumn, rfl, by decide +kernel, by decide, by decide⟩, aw_3_14, aw_3_16, as_1_2⟩
theorem cw_CB_wantGathering_25 : am_cv m_CB_wantGathering m_CB_wantLinkTo 250 3 := ⟨⟨ok_CB_wantLinkTo, rfl, by decide +kernel, by decide, by decide⟩, aw_3_32, aw_3_34, as_1_4⟩
theorem cw_CB_wantGathering_38 : am_cv m_CB_wantGathering m_CB_wantNotDropped 147 2 := ⟨⟨ok_CB_wantNotDropped, rfl, by decide +kernel, by decide, by decide⟩, aw_3_236, aw_3_238, as_3_1⟩
def f_CB_wantGathering_20  (s : am_M) (x1 : Int32) (x2 : Int32) (x3 : Int32) (x4 : Int32) (x5 : Int32) : Nat := (if (f_CB_wantLinkTo s x5 x3 x1) = 0 then (if x2 = (3 : Int32) then (if (f_CB_wantNotDropped s x5 x4) = 0 then 0 else (f_CB_wantNotDropped s x5 x4)) else 0) else (f_CB_wantLinkTo s x5 x3 x1))
def p_CB_wantGathering_20  (s : am_M) (x1 : Int32) (x2 : Int32) (x3 : Int32) (x4 : Int32) (x5 : Int32) : Prop := p_CB_wantLinkTo s x5 x3 x1 ∧ ((((f_CB_wantLinkTo s x5 x3 x1) = 0) → ((x2 = (3 : Int32)) → p_CB_wantNotDropped s x5 x4 ∧ ((((f_CB_wantNotDropped s x5 x4) = 0) → True))) ∧ (¬ (x2 = (3 : Int32)) → True)))
set_option maxRecDepth 8000 in
theorem w_CB_wantGathering_20 {l : Launch} {g : am_Gl} (hg : g.2.2.2.1 = true) {ad0 : Nat → Nat} {s : am_M}  {x1 : Int32} {x2 : Int32} {x3 : Int32} {x4 : Int32} {x5 : Int32} (h : p_CB_wantGathering_20  s x1 x2 x3 x4 x5) : AW l g m_CB_wantGathering 207 ad0 ((am_oD s) (f_CB_wantGathering_20  s x1 x2 x3 x4 x5)) 2 12 207 s 20 [(0, .ref 0), (1, .int x1), (2, .int x2), (3, .int x3), (4, .int x4), (5, .int x5)] [] := by
  refine am_aload_n (j := 0) d_CB_wantGathering_20 rfl rfl ?_
  refine am_iload (j := 5) d_CB_wantGathering_21 rfl ?_
  refine am_iload_n (j := 3) d_CB_wantGathering_23 rfl rfl ?_
  refine am_iload_n (j := 1) d_CB_wantGathering_24 rfl rfl ?_
  obtain ⟨hc, h⟩ := h
  refine ak_D (F := (am_oD s)) (as := [.int x5, .int x3, .int x1]) (rest := []) d_CB_wantGathering_25 cw_CB_wantGathering_25 rfl rfl rfl (ct_CB_wantLinkTo hg hc) rfl rfl (by decide) sh_0 rfl (Nat.le_of_ble_eq_true rfl) (by decide) (by decide) am_oD_x (fun c => ?_)
  have h := h c
  refine am_iload_n (j := 2) d_CB_wantGathering_28 rfl rfl ?_
  refine am_iconst (v := (3 : Int32)) d_CB_wantGathering_29 (by decide) ?_
  refine aj_ne (F := (am_oD s)) (tgt := 41) d_CB_wantGathering_30 (by decide) (fun c => ?_) (fun c => ?_)
  · have h := h.2 c
    exact am_vret d_CB_wantGathering_41 rfl (by decide) (by decide) am_oD_ok
  · have h := h.1 c
    refine am_aload_n (j := 0) d_CB_wantGathering_33 rfl rfl ?_
    refine am_iload (j := 5) d_CB_wantGathering_34 rfl ?_
    refine am_iload (j := 4) d_CB_wantGathering_36 rfl ?_
    obtain ⟨hc, h⟩ := h
    refine ak_D (F := (am_oD s)) (as := [.int x5, .int x4]) (rest := []) d_CB_wantGathering_38 cw_CB_wantGathering_38 rfl rfl rfl (ct_CB_wantNotDropped hg hc) rfl rfl (by decide) sh_0 rfl (Nat.le_of_ble_eq_true rfl) (by decide) (by decide) am_oD_x (fun c => ?_)
    have h := h c
    exact am_vret d_CB_wantGathering_41 rfl (by decide) (by decide) am_oD_ok
def f_CB_wantGathering  (s : am_M) (x1 : Int32) (x2 : Int32) (x3 : Int32) (x4 : Int32) (x5 : Int32) : Nat := (if (f_CB_wantColumn s x5 x3) = 0 then (if x2 = (3 : Int32) then (if (f_CB_wantColumn s x5 x4) = 0 then (f_CB_wantGathering_20 s x1 x2 x3 x4 x5) else (f_CB_wantColumn s x5 x4)) else (f_CB_wantGathering_20 s x1 x2 x3 x4 x5)) else (f_CB_wantColumn s x5 x3))
def p_CB_wantGathering  (s : am_M) (x1 : Int32) (x2 : Int32) (x3 : Int32) (x4 : Int32) (x5 : Int32) : Prop := p_CB_wantColumn s x5 x3 ∧ ((((f_CB_wantColumn s x5 x3) = 0) → ((x2 = (3 : Int32)) → p_CB_wantColumn s x5 x4 ∧ ((((f_CB_wantColumn s x5 x4) = 0) → (p_CB_wantGathering_20 s x1 x2 x3 x4 x5)))) ∧ (¬ (x2 = (3 : Int32)) → (p_CB_wantGathering_20 s x1 x2 x3 x4 x5))))
set_option maxRecDepth 8000 in
theorem w_CB_wantGathering {l : Launch} {g : am_Gl} (hg : g.2.2.2.1 = true) {ad0 : Nat → Nat} {s : am_M} {x1 : Int32} {x2 : Int32} {x3 : Int32} {x4 : Int32} {x5 : Int32} (h : p_CB_wantGathering s x1 x2 x3 x4 x5) : AW l g m_CB_wantGathering 207 ad0 ((am_oD s) (f_CB_wantGathering s x1 x2 x3 x4 x5)) 0 0 207 s 0 [(0, .ref 0), (1, .int x1), (2, .int x2), (3, .int x3), (4, .int x4), (5, .int x5)] [] := by
  refine am_aload_n (j := 0) d_CB_wantGathering_0 rfl rfl ?_
  refine am_iload (j := 5) d_CB_wantGathering_1 rfl ?_
  refine am_iload_n (j := 3) d_CB_wantGathering_3 rfl rfl ?_
  obtain ⟨hc, h⟩ := h
  refine ak_D (F := (am_oD s)) (as := [.int x5, .int x3]) (rest := []) d_CB_wantGathering_4 cw_CB_wantGathering_4 rfl rfl rfl (ct_CB_wantColumn hg hc) rfl rfl (by decide) sh_0 rfl (Nat.le_of_ble_eq_true rfl) (by decide) (by decide) am_oD_x (fun c => ?_)
  have h := h c
  refine am_iload_n (j := 2) d_CB_wantGathering_7 rfl rfl ?_
  refine am_iconst (v := (3 : Int32)) d_CB_wantGathering_8 (by decide) ?_
  refine aj_ne (F := (am_oD s)) (tgt := 20) d_CB_wantGathering_9 (by decide) (fun c => ?_) (fun c => ?_)
  · have h := h.2 c
    refine am_widen (k2 := 2) (z2 := 12) (by decide) (by decide) ?_
    exact w_CB_wantGathering_20 hg h
  · have h := h.1 c
    refine am_aload_n (j := 0) d_CB_wantGathering_12 rfl rfl ?_
    refine am_iload (j := 5) d_CB_wantGathering_13 rfl ?_
    refine am_iload (j := 4) d_CB_wantGathering_15 rfl ?_
    obtain ⟨hc, h⟩ := h
    refine ak_D (F := (am_oD s)) (as := [.int x5, .int x4]) (rest := []) d_CB_wantGathering_17 cw_CB_wantGathering_17 rfl rfl rfl (ct_CB_wantColumn hg hc) rfl rfl (by decide) sh_0 rfl (Nat.le_of_ble_eq_true rfl) (by decide) (by decide) am_oD_x (fun c => ?_)
    have h := h c
    refine am_widen (k2 := 2) (z2 := 12) (by decide) (by decide) ?_
    exact w_CB_wantGathering_20 hg h
theorem ct_CB_wantGathering {l : Launch} {g : am_Gl} (hg : g.2.2.2.1 = true) {s : am_M} {x1 : Int32} {x2 : Int32} {x3 : Int32} {x4 : Int32} {x5 : Int32} (h : p_CB_wantGathering s x1 x2 x3 x4 x5) : AC l g m_CB_wantGathering 207 s [.ref 0, .int x1, .int x2, .int x3, .int x4, .int x5] ((am_oD s) (f_CB_wantGathering s x1 x2 x3 x4 x5)) := am_enter ok_CB_wantGathering rfl (Nat.le_of_ble_eq_true rfl) rfl (fun ad0 => w_CB_wantGathering hg h)
theorem cw_CB_wantFormula_41 : am_cv m_CB_wantFormula m_CB_wantPair 416 3 := ⟨⟨ok_CB_wantPair, rfl, by decide +kernel, by decide, by decide⟩, aw_3_232, aw_3_234, as_3_0⟩
theorem cw_CB_wantFormula_52 : am_cv m_CB_wantFormula m_CB_wantLook 419 3 := ⟨⟨ok_CB_wantLook, rfl, by decide +kernel, by decide, by decide⟩, aw_4_0, aw_4_2, as_3_2⟩
theorem cw_CB_wantFormula_66 : am_cv m_CB_wantFormula m_CB_wantGathering 422 5 := ⟨⟨ok_CB_wantGathering, rfl, by decide +kernel, by decide, by decide⟩, aw_4_4, aw_4_6, as_3_3⟩
def f_CB_wantFormula  (s : am_M) (x1 : Int32) (x2 : Int32) (x3 : Int32) (x4 : Int32) (x5 : Int32) : Nat := (if x2 = (0 : Int32) then (if (f_CB_wantPair s x1 x3 x4) = 0 then 0 else (f_CB_wantPair s x1 x3 x4)) else (if x2 = (1 : Int32) then (if (f_CB_wantPair s x1 x3 x4) = 0 then 0 else (f_CB_wantPair s x1 x3 x4)) else (if x2 = (2 : Int32) then (if (f_CB_wantLook s x1 x3 x4) = 0 then 0 else (f_CB_wantLook s x1 x3 x4)) else (if x2 = (3 : Int32) then (if (f_CB_wantGathering s x1 x2 x3 x4 x5) = 0 then 0 else (f_CB_wantGathering s x1 x2 x3 x4 x5)) else (if x2 = (4 : Int32) then (if (f_CB_wantGathering s x1 x2 x3 x4 x5) = 0 then 0 else (f_CB_wantGathering s x1 x2 x3 x4 x5)) else 2)))))
def p_CB_wantFormula  (s : am_M) (x1 : Int32) (x2 : Int32) (x3 : Int32) (x4 : Int32) (x5 : Int32) : Prop := ((x2 = (0 : Int32)) → p_CB_wantPair s x1 x3 x4 ∧ ((((f_CB_wantPair s x1 x3 x4) = 0) → True))) ∧ (¬ (x2 = (0 : Int32)) → ((x2 = (1 : Int32)) → p_CB_wantPair s x1 x3 x4 ∧ ((((f_CB_wantPair s x1 x3 x4) = 0) → True))) ∧ (¬ (x2 = (1 : Int32)) → ((x2 = (2 : Int32)) → p_CB_wantLook s x1 x3 x4 ∧ ((((f_CB_wantLook s x1 x3 x4) = 0) → True))) ∧ (¬ (x2 = (2 : Int32)) → ((x2 = (3 : Int32)) → p_CB_wantGathering s x1 x2 x3 x4 x5 ∧ ((((f_CB_wantGathering s x1 x2 x3 x4 x5) = 0) → True))) ∧ (¬ (x2 = (3 : Int32)) → ((x2 = (4 : Int32)) → p_CB_wantGathering s x1 x2 x3 x4 x5 ∧ ((((f_CB_wantGathering s x1 x2 x3 x4 x5) = 0) → True))) ∧ (¬ (x2 = (4 : Int32)) → True)))))
set_option maxRecDepth 8000 in
theorem w_CB_wantFormula {l : Launch} {g : am_Gl} (hg : g.2.2.2.1 = true) {ad0 : Nat → Nat} {s : am_M} {x1 : Int32} {x2 : Int32} {x3 : Int32} {x4 : Int32} {x5 : Int32} (h : p_CB_wantFormula s x1 x2 x3 x4 x5) : AW l g m_CB_wantFormula 207 ad0 ((am_oD s) (f_CB_wantFormula s x1 x2 x3 x4 x5)) 0 0 207 s 0 [(0, .ref 0), (1, .int x1), (2, .int x2), (3, .int x3), (4, .int x4), (5, .int x5)] [] := by
  refine am_iload_n (j := 2) d_CB_wantFormula_0 rfl rfl ?_
  refine am_case (F := (am_oD s)) (c := (0 : Int32)) (fun c => ?_) (fun c => ?_)
  · have h := h.1 c
    refine am_tableIn (off := (35 : Int)) (tgt := 36) d_CB_wantFormula_1 (by rw [c]; decide) (by rw [c]; decide) (by rw [c]; rfl) (by decide) ?_
    refine am_aload_n (j := 0) d_CB_wantFormula_36 rfl rfl ?_
    refine am_iload_n (j := 1) d_CB_wantFormula_37 rfl rfl ?_
    refine am_iload_n (j := 3) d_CB_wantFormula_38 rfl rfl ?_
    refine am_iload (j := 4) d_CB_wantFormula_39 rfl ?_
    obtain ⟨hc, h⟩ := h
    refine ak_D (F := (am_oD s)) (as := [.int x1, .int x3, .int x4]) (rest := []) d_CB_wantFormula_41 cw_CB_wantFormula_41 rfl rfl rfl (ct_CB_wantPair hg hc) rfl rfl (by decide) sh_0 rfl (Nat.le_of_ble_eq_true rfl) (by decide) (by decide) am_oD_x (fun c => ?_)
    have h := h c
    refine am_goto (tgt := 80) d_CB_wantFormula_44 (by decide) ?_
    exact am_vret d_CB_wantFormula_80 rfl (by decide) (by decide) am_oD_ok
  · have h := h.2 c
    have n0 := c
    refine am_case (F := (am_oD s)) (c := (1 : Int32)) (fun c => ?_) (fun c => ?_)
    · have h := h.1 c
      refine am_tableIn (off := (35 : Int)) (tgt := 36) d_CB_wantFormula_1 (by rw [c]; decide) (by rw [c]; decide) (by rw [c]; rfl) (by decide) ?_
      refine am_aload_n (j := 0) d_CB_wantFormula_36 rfl rfl ?_
      refine am_iload_n (j := 1) d_CB_wantFormula_37 rfl rfl ?_
      refine am_iload_n (j := 3) d_CB_wantFormula_38 rfl rfl ?_
      refine am_iload (j := 4) d_CB_wantFormula_39 rfl ?_
      obtain ⟨hc, h⟩ := h
      refine ak_D (F := (am_oD s)) (as := [.int x1, .int x3, .int x4]) (rest := []) d_CB_wantFormula_41 cw_CB_wantFormula_41 rfl rfl rfl (ct_CB_wantPair hg hc) rfl rfl (by decide) sh_0 rfl (Nat.le_of_ble_eq_true rfl) (by decide) (by decide) am_oD_x (fun c => ?_)
      have h := h c
      refine am_goto (tgt := 80) d_CB_wantFormula_44 (by decide) ?_
      exact am_vret d_CB_wantFormula_80 rfl (by decide) (by decide) am_oD_ok
    · have h := h.2 c
      have n1 := c
      refine am_case (F := (am_oD s)) (c := (2 : Int32)) (fun c => ?_) (fun c => ?_)
      · have h := h.1 c
        refine am_tableIn (off := (46 : Int)) (tgt := 47) d_CB_wantFormula_1 (by rw [c]; decide) (by rw [c]; decide) (by rw [c]; rfl) (by decide) ?_
        refine am_aload_n (j := 0) d_CB_wantFormula_47 rfl rfl ?_
        refine am_iload_n (j := 1) d_CB_wantFormula_48 rfl rfl ?_
        refine am_iload_n (j := 3) d_CB_wantFormula_49 rfl rfl ?_
        refine am_iload (j := 4) d_CB_wantFormula_50 rfl ?_
        obtain ⟨hc, h⟩ := h
        refine ak_D (F := (am_oD s)) (as := [.int x1, .int x3, .int x4]) (rest := []) d_CB_wantFormula_52 cw_CB_wantFormula_52 rfl rfl rfl (ct_CB_wantLook hg hc) rfl rfl (by decide) sh_0 rfl (Nat.le_of_ble_eq_true rfl) (by decide) (by decide) am_oD_x (fun c => ?_)
        have h := h c
        refine am_goto (tgt := 80) d_CB_wantFormula_55 (by decide) ?_
        exact am_vret d_CB_wantFormula_80 rfl (by decide) (by decide) am_oD_ok
      · have h := h.2 c
        have n2 := c
        refine am_case (F := (am_oD s)) (c := (3 : Int32)) (fun c => ?_) (fun c => ?_)
        · have h := h.1 c
          refine am_tableIn (off := (57 : Int)) (tgt := 58) d_CB_wantFormula_1 (by rw [c]; decide) (by rw [c]; decide) (by rw [c]; rfl) (by decide) ?_
          refine am_aload_n (j := 0) d_CB_wantFormula_58 rfl rfl ?_
          refine am_iload_n (j := 1) d_CB_wantFormula_59 rfl rfl ?_
          refine am_iload_n (j := 2) d_CB_wantFormula_60 rfl rfl ?_
          refine am_iload_n (j := 3) d_CB_wantFormula_61 rfl rfl ?_
          refine am_iload (j := 4) d_CB_wantFormula_62 rfl ?_
          refine am_iload (j := 5) d_CB_wantFormula_64 rfl ?_
          obtain ⟨hc, h⟩ := h
          refine ak_D (F := (am_oD s)) (as := [.int x1, .int x2, .int x3, .int x4, .int x5]) (rest := []) d_CB_wantFormula_66 cw_CB_wantFormula_66 rfl rfl rfl (ct_CB_wantGathering hg hc) rfl rfl (by decide) sh_0 rfl (Nat.le_of_ble_eq_true rfl) (by decide) (by decide) am_oD_x (fun c => ?_)
          have h := h c
          refine am_goto (tgt := 80) d_CB_wantFormula_69 (by decide) ?_
          exact am_vret d_CB_wantFormula_80 rfl (by decide) (by decide) am_oD_ok
        · have h := h.2 c
          have n3 := c
          refine am_case (F := (am_oD s)) (c := (4 : Int32)) (fun c => ?_) (fun c => ?_)
          · have h := h.1 c
            refine am_tableIn (off := (57 : Int)) (tgt := 58) d_CB_wantFormula_1 (by rw [c]; decide) (by rw [c]; decide) (by rw [c]; rfl) (by decide) ?_
            refine am_aload_n (j := 0) d_CB_wantFormula_58 rfl rfl ?_
            refine am_iload_n (j := 1) d_CB_wantFormula_59 rfl rfl ?_
            refine am_iload_n (j := 2) d_CB_wantFormula_60 rfl rfl ?_
            refine am_iload_n (j := 3) d_CB_wantFormula_61 rfl rfl ?_
            refine am_iload (j := 4) d_CB_wantFormula_62 rfl ?_
            refine am_iload (j := 5) d_CB_wantFormula_64 rfl ?_
            obtain ⟨hc, h⟩ := h
            refine ak_D (F := (am_oD s)) (as := [.int x1, .int x2, .int x3, .int x4, .int x5]) (rest := []) d_CB_wantFormula_66 cw_CB_wantFormula_66 rfl rfl rfl (ct_CB_wantGathering hg hc) rfl rfl (by decide) sh_0 rfl (Nat.le_of_ble_eq_true rfl) (by decide) (by decide) am_oD_x (fun c => ?_)
            have h := h c
            refine am_goto (tgt := 80) d_CB_wantFormula_69 (by decide) ?_
            exact am_vret d_CB_wantFormula_80 rfl (by decide) (by decide) am_oD_ok
          · have h := h.2 c
            have n4 := c
            refine am_tableOut (tgt := 72) d_CB_wantFormula_1 (am_out5 (fun j j1 j2 e => ?_)) (by decide) ?_
            · exact am_sw5 j1 j2 e n0 n1 n2 n3 n4
            exact am_throw d_CB_wantFormula_72 d_CB_wantFormula_75 d_CB_wantFormula_76 d_CB_wantFormula_79 tw_IAE rfl rfl (by decide) (by decide) (by decide) am_oD_2
theorem ct_CB_wantFormula {l : Launch} {g : am_Gl} (hg : g.2.2.2.1 = true) {s : am_M} {x1 : Int32} {x2 : Int32} {x3 : Int32} {x4 : Int32} {x5 : Int32} (h : p_CB_wantFormula s x1 x2 x3 x4 x5) : AC l g m_CB_wantFormula 207 s [.ref 0, .int x1, .int x2, .int x3, .int x4, .int x5] ((am_oD s) (f_CB_wantFormula s x1 x2 x3 x4 x5)) := am_enter ok_CB_wantFormula rfl (Nat.le_of_ble_eq_true rfl) rfl (fun ad0 => w_CB_wantFormula hg h)
theorem cw_CB_addReckoned_2 : am_cv m_CB_addReckoned m_CB_wantTable 70 1 := ⟨⟨ok_CB_wantTable, rfl, by decide +kernel, by decide, by decide⟩, aw_2_34, aw_2_36, as_0_2⟩
theorem cw_CB_addReckoned_13 : am_cv m_CB_addReckoned m_CB_wantFormula 91 5 := ⟨⟨ok_CB_wantFormula, rfl, by decide +kernel, by decide, by decide⟩, aw_3_228, aw_3_230, as_2_15⟩
theorem cw_CB_addReckoned_18 : am_cv m_CB_addReckoned m_CB_wantColumnPlace 78 1 := ⟨⟨ok_CB_wantColumnPlace, rfl, by decide +kernel, by decide, by decide⟩, aw_2_76, aw_2_78, as_0_4⟩
theorem cw_CB_addReckoned_22 : am_cv m_CB_addReckoned m_CB_forgetActs 67 0 := ⟨⟨ok_CB_forgetActs, rfl, by decide +kernel, by decide, by decide⟩, aw_2_26, aw_2_28, as_0_1⟩
theorem cw_CB_addReckoned_36 : am_cv m_CB_addReckoned m_BA_makeReckoned 95 5 := ⟨⟨ok_BA_makeReckoned, rfl, by decide +kernel, by decide, by decide⟩, aw_4_8, aw_4_9, aw_4_10⟩
def f_CB_addReckoned  (s : am_M) (x1 : Int32) (x2 : Int32) (x3 : Int32) (x4 : Int32) (x5 : Int32) : Nat × Int32 × am_M := (if (f_CB_wantTable s x1) = 0 then (if (f_CB_wantFormula s x1 x2 x3 x4 x5) = 0 then (if (f_CB_wantColumnPlace s x1) = 0 then (0, (f_BA_makeReckoned (f_CB_forgetActs s) x1 x2 x3 x4 x5).1, (f_BA_makeReckoned (f_CB_forgetActs s) x1 x2 x3 x4 x5).2) else ((f_CB_wantColumnPlace s x1), 0, s)) else ((f_CB_wantFormula s x1 x2 x3 x4 x5), 0, s)) else ((f_CB_wantTable s x1), 0, s))
def p_CB_addReckoned  (s : am_M) (x1 : Int32) (x2 : Int32) (x3 : Int32) (x4 : Int32) (x5 : Int32) : Prop := (((f_CB_wantTable s x1) = 0) → p_CB_wantFormula s x1 x2 x3 x4 x5 ∧ ((((f_CB_wantFormula s x1 x2 x3 x4 x5) = 0) → p_CB_wantColumnPlace s x1 ∧ ((((f_CB_wantColumnPlace s x1) = 0) → p_BA_makeReckoned (f_CB_forgetActs s) x1 x2 x3 x4 x5 ∧ (True))))))
set_option maxRecDepth 8000 in
theorem w_CB_addReckoned {l : Launch} {g : am_Gl} (hg : g.2.2.2.1 = true) {ad0 : Nat → Nat} {s : am_M} {x1 : Int32} {x2 : Int32} {x3 : Int32} {x4 : Int32} {x5 : Int32} (h : p_CB_addReckoned s x1 x2 x3 x4 x5) : AW l g m_CB_addReckoned 207 ad0 (am_oE (f_CB_addReckoned s x1 x2 x3 x4 x5)) 0 0 207 s 0 [(0, .ref 0), (1, .int x1), (2, .int x2), (3, .int x3), (4, .int x4), (5, .int x5)] [] := by
  refine am_aload_n (j := 0) d_CB_addReckoned_0 rfl rfl ?_
  refine am_iload_n (j := 1) d_CB_addReckoned_1 rfl rfl ?_
  refine ak_D (F := am_oE) (as := [.int x1]) (rest := []) d_CB_addReckoned_2 cw_CB_addReckoned_2 rfl rfl rfl (ct_CB_wantTable hg) rfl rfl (by decide) sh_0 rfl (Nat.le_of_ble_eq_true rfl) (by decide) (by decide) am_oE_x (fun c => ?_)
  have h := h c
  refine am_aload_n (j := 0) d_CB_addReckoned_5 rfl rfl ?_
  refine am_iload_n (j := 1) d_CB_addReckoned_6 rfl rfl ?_
  refine am_iload_n (j := 2) d_CB_addReckoned_7 rfl rfl ?_
  refine am_iload_n (j := 3) d_CB_addReckoned_8 rfl rfl ?_
  refine am_iload (j := 4) d_CB_addReckoned_9 rfl ?_
  refine am_iload (j := 5) d_CB_addReckoned_11 rfl ?_
  obtain ⟨hc, h⟩ := h
  refine ak_D (F := am_oE) (as := [.int x1, .int x2, .int x3, .int x4, .int x5]) (rest := []) d_CB_addReckoned_13 cw_CB_addReckoned_13 rfl rfl rfl (ct_CB_wantFormula hg hc) rfl rfl (by decide) sh_0 rfl (Nat.le_of_ble_eq_true rfl) (by decide) (by decide) am_oE_x (fun c => ?_)
  have h := h c
  refine am_aload_n (j := 0) d_CB_addReckoned_16 rfl rfl ?_
  refine am_iload_n (j := 1) d_CB_addReckoned_17 rfl rfl ?_
  obtain ⟨hc, h⟩ := h
  refine ak_D (F := am_oE) (as := [.int x1]) (rest := []) d_CB_addReckoned_18 cw_CB_addReckoned_18 rfl rfl rfl (ct_CB_wantColumnPlace hg hc) rfl rfl (by decide) sh_0 rfl (Nat.le_of_ble_eq_true rfl) (by decide) (by decide) am_oE_x (fun c => ?_)
  have h := h c
  refine am_aload_n (j := 0) d_CB_addReckoned_21 rfl rfl ?_
  refine ak_VM (as := []) (rest := []) d_CB_addReckoned_22 cw_CB_addReckoned_22 rfl rfl rfl (ct_CB_forgetActs hg) rfl rfl (by decide) sh_0 rfl (Nat.le_of_ble_eq_true rfl) (by decide) (by decide) ?_
  refine am_aload_n (j := 0) d_CB_addReckoned_25 rfl rfl ?_
  refine am_getR (t := 1) d_CB_addReckoned_26 fl_CB_12 hg (by decide) sh_0 (by decide) rfl (by decide) lk_0_0 (by decide) ?_
  refine am_iload_n (j := 1) d_CB_addReckoned_29 rfl rfl ?_
  refine am_iload_n (j := 2) d_CB_addReckoned_30 rfl rfl ?_
  refine am_iload_n (j := 3) d_CB_addReckoned_31 rfl rfl ?_
  refine am_iload (j := 4) d_CB_addReckoned_32 rfl ?_
  refine am_iload (j := 5) d_CB_addReckoned_34 rfl ?_
  obtain ⟨hc, h⟩ := h
  refine ak_VC (as := [.int x1, .int x2, .int x3, .int x4, .int x5]) (rest := []) d_CB_addReckoned_36 cw_CB_addReckoned_36 rfl rfl rfl (ct_BA_makeReckoned hg hc) rfl rfl (by decide) sh_1 rfl (Nat.le_of_ble_eq_true rfl) (by decide) (by decide) ?_
  exact am_iret d_CB_addReckoned_39 rfl rfl (by decide) (by decide) am_oE_ok
theorem ct_CB_addReckoned {l : Launch} {g : am_Gl} (hg : g.2.2.2.1 = true) {s : am_M} {x1 : Int32} {x2 : Int32} {x3 : Int32} {x4 : Int32} {x5 : Int32} (h : p_CB_addReckoned s x1 x2 x3 x4 x5) : AC l g m_CB_addReckoned 207 s [.ref 0, .int x1, .int x2, .int x3, .int x4, .int x5] (am_oE (f_CB_addReckoned s x1 x2 x3 x4 x5)) := am_enter ok_CB_addReckoned rfl (Nat.le_of_ble_eq_true rfl) rfl (fun ad0 => w_CB_addReckoned hg h)
theorem cw_CB_tell_29 : am_cv m_CB_tell m_RE_copyFrom 399 1 := ⟨⟨ok_RE_copyFrom, rfl, by decide +kernel, by decide, by decide⟩, aw_3_6, aw_3_7, aw_3_8⟩
theorem cw_CB_tell_8 : am_cv m_CB_tell m_RE_clear 393 0 := ⟨⟨ok_RE_clear, rfl, by decide +kernel, by decide, by decide⟩, aw_3_5, aw_2_204, aw_2_205⟩
theorem cw_CB_tell_12 : am_cv m_CB_tell m_CB_forgetActs 67 0 := ⟨⟨ok_CB_forgetActs, rfl, by decide +kernel, by decide, by decide⟩, aw_2_26, aw_2_28, as_0_1⟩
def f_CB_tell  (s : am_M) (x1 : Int32) : Int32 × am_M := (if x1 = 0 then (x1, (f_RE_copyFrom s 123 16)) else (x1, (f_CB_forgetActs (f_RE_clear s 123))))
def p_CB_tell  (s : am_M) (x1 : Int32) : Prop := ((x1 = 0) → p_RE_copyFrom s 123 16 ∧ ((x1 = 0 ∨ x1 = 1) ∧ (True))) ∧ (¬ (x1 = 0) → p_RE_clear s 123 ∧ ((x1 = 0 ∨ x1 = 1) ∧ (True)))
set_option maxRecDepth 8000 in
theorem w_CB_tell {l : Launch} {g : am_Gl} (hg : g.2.2.2.1 = true) {ad0 : Nat → Nat} {s : am_M} {x1 : Int32} (h : p_CB_tell s x1) : AW l g m_CB_tell 207 ad0 (am_oC (f_CB_tell s x1)) 0 0 207 s 0 [(0, .ref 0), (1, .int x1)] [] := by
  refine am_iload_n (j := 1) d_CB_tell_0 rfl rfl ?_
  refine ai_eq (F := am_oC) (tgt := 18) d_CB_tell_1 (by decide) (fun c => ?_) (fun c => ?_)
  · have h := h.1 c
    refine am_aload_n (j := 0) d_CB_tell_18 rfl rfl ?_
    refine am_getR (t := 123) d_CB_tell_19 fl_CB_28 hg (by decide) sh_0 (by decide) rfl (by decide) lk_0_2 (by decide) ?_
    refine am_aload_n (j := 0) d_CB_tell_22 rfl rfl ?_
    refine am_getR (t := 1) d_CB_tell_23 fl_CB_12 hg (by decide) sh_0 (by decide) rfl (by decide) lk_0_0 (by decide) ?_
    refine am_getR (t := 16) d_CB_tell_26 fl_CB_396 hg (by decide) sh_1 (by decide) rfl (by decide) lk_1_11 (by decide) ?_
    obtain ⟨hc, h⟩ := h
    refine ak_VM (as := [.ref 16]) (rest := []) d_CB_tell_29 cw_CB_tell_29 rfl rfl rfl (ct_RE_copyFrom hg hc) rfl rfl (by decide) sh_123 rfl (Nat.le_of_ble_eq_true rfl) (by decide) (by decide) ?_
    refine am_iload_n (j := 1) d_CB_tell_32 rfl rfl ?_
    obtain ⟨hz, h⟩ := h
    exact am_iret d_CB_tell_33 rfl (am_bool hz).1 (by decide) (by decide) am_oC_ok
  · have h := h.2 c
    refine am_aload_n (j := 0) d_CB_tell_4 rfl rfl ?_
    refine am_getR (t := 123) d_CB_tell_5 fl_CB_28 hg (by decide) sh_0 (by decide) rfl (by decide) lk_0_2 (by decide) ?_
    obtain ⟨hc, h⟩ := h
    refine ak_VM (as := []) (rest := []) d_CB_tell_8 cw_CB_tell_8 rfl rfl rfl (ct_RE_clear hg hc) rfl rfl (by decide) sh_123 rfl (Nat.le_of_ble_eq_true rfl) (by decide) (by decide) ?_
    refine am_aload_n (j := 0) d_CB_tell_11 rfl rfl ?_
    refine ak_VM (as := []) (rest := []) d_CB_tell_12 cw_CB_tell_12 rfl rfl rfl (ct_CB_forgetActs hg) rfl rfl (by decide) sh_0 rfl (Nat.le_of_ble_eq_true rfl) (by decide) (by decide) ?_
    refine am_goto (tgt := 32) d_CB_tell_15 (by decide) ?_
    refine am_iload_n (j := 1) d_CB_tell_32 rfl rfl ?_
    obtain ⟨hz, h⟩ := h
    exact am_iret d_CB_tell_33 rfl (am_bool hz).1 (by decide) (by decide) am_oC_ok
theorem ct_CB_tell {l : Launch} {g : am_Gl} (hg : g.2.2.2.1 = true) {s : am_M} {x1 : Int32} (h : p_CB_tell s x1) : AC l g m_CB_tell 207 s [.ref 0, .int x1] (am_oC (f_CB_tell s x1)) := am_enter ok_CB_tell rfl (Nat.le_of_ble_eq_true rfl) rfl (fun ad0 => w_CB_tell hg h)
theorem cw_CB_addRule_3 : am_cv m_CB_addRule m_CB_wantColumn 99 2 := ⟨⟨ok_CB_wantColumn, rfl, by decide +kernel, by decide, by decide⟩, aw_3_14, aw_3_16, as_1_2⟩
theorem cw_CB_addRule_10 : am_cv m_CB_addRule m_CB_wantColumn 99 2 := ⟨⟨ok_CB_wantColumn, rfl, by decide +kernel, by decide, by decide⟩, aw_3_14, aw_3_16, as_1_2⟩
theorem cw_CB_addRule_49 : am_cv m_CB_addRule m_CB_wantNotDropped 147 2 := ⟨⟨ok_CB_wantNotDropped, rfl, by decide +kernel, by decide, by decide⟩, aw_3_236, aw_3_238, as_3_1⟩
theorem cw_CB_addRule_56 : am_cv m_CB_addRule m_CB_wantNotDropped 147 2 := ⟨⟨ok_CB_wantNotDropped, rfl, by decide +kernel, by decide, by decide⟩, aw_3_236, aw_3_238, as_3_1⟩
theorem cw_CB_addRule_90 : am_cv m_CB_addRule m_BA_makeRule 171 5 := ⟨⟨ok_BA_makeRule, rfl, by decide +kernel, by decide, by decide⟩, aw_4_123, aw_4_124, aw_4_125⟩
theorem cw_CB_addRule_106 : am_cv m_CB_addRule m_CB_tell 118 1 := ⟨⟨ok_CB_tell, rfl, by decide +kernel, by decide, by decide⟩, aw_3_1, aw_3_3, as_1_1⟩
def f_CB_addRule  (s : am_M) (x1 : Int32) (x2 : Int32) (x3 : Int32) (x4 : Int32) (x5 : Int32) : Nat × Int32 × am_M := (if (f_CB_wantColumn s x1 x2) = 0 then (if (f_CB_wantColumn s x1 x4) = 0 then (if x3 < 0 then (2, 0, s) else (if (3 : Int32) < x3 then (2, 0, s) else (if x5 < (-9999 : Int32) then (2, 0, s) else (if x5 ≤ (9999 : Int32) then (if (f_CB_wantNotDropped s x1 x2) = 0 then (if (f_CB_wantNotDropped s x1 x4) = 0 then (if (s 1 6) < (8 : Int32) then (if (f_BA_makeRule s x1 x2 x3 x4 x5).1 < 0 then (0, (f_BA_makeRule s x1 x2 x3 x4 x5).1, (f_CB_tell (f_BA_makeRule s x1 x2 x3 x4 x5).2 (0 : Int32)).2) else (0, (f_BA_makeRule s x1 x2 x3 x4 x5).1, (f_CB_tell (f_BA_makeRule s x1 x2 x3 x4 x5).2 (1 : Int32)).2)) else (3, 0, s)) else ((f_CB_wantNotDropped s x1 x4), 0, s)) else ((f_CB_wantNotDropped s x1 x2), 0, s)) else (2, 0, s))))) else ((f_CB_wantColumn s x1 x4), 0, s)) else ((f_CB_wantColumn s x1 x2), 0, s))
def p_CB_addRule  (s : am_M) (x1 : Int32) (x2 : Int32) (x3 : Int32) (x4 : Int32) (x5 : Int32) : Prop := p_CB_wantColumn s x1 x2 ∧ ((((f_CB_wantColumn s x1 x2) = 0) → p_CB_wantColumn s x1 x4 ∧ ((((f_CB_wantColumn s x1 x4) = 0) → ((x3 < 0) → True) ∧ (¬ (x3 < 0) → (((3 : Int32) < x3) → True) ∧ (¬ ((3 : Int32) < x3) → ((x5 < (-9999 : Int32)) → True) ∧ (¬ (x5 < (-9999 : Int32)) → ((x5 ≤ (9999 : Int32)) → p_CB_wantNotDropped s x1 x2 ∧ ((((f_CB_wantNotDropped s x1 x2) = 0) → p_CB_wantNotDropped s x1 x4 ∧ ((((f_CB_wantNotDropped s x1 x4) = 0) → (((s 1 6) < (8 : Int32)) → p_BA_makeRule s x1 x2 x3 x4 x5 ∧ ((((f_BA_makeRule s x1 x2 x3 x4 x5).1 < 0) → p_CB_tell (f_BA_makeRule s x1 x2 x3 x4 x5).2 (0 : Int32) ∧ (True)) ∧ (¬ ((f_BA_makeRule s x1 x2 x3 x4 x5).1 < 0) → p_CB_tell (f_BA_makeRule s x1 x2 x3 x4 x5).2 (1 : Int32) ∧ (True)))) ∧ (¬ ((s 1 6) < (8 : Int32)) → True)))))) ∧ (¬ (x5 ≤ (9999 : Int32)) → True))))))))
set_option maxRecDepth 8000 in
theorem w_CB_addRule {l : Launch} {g : am_Gl} (hg : g.2.2.2.1 = true) {ad0 : Nat → Nat} {s : am_M} {x1 : Int32} {x2 : Int32} {x3 : Int32} {x4 : Int32} {x5 : Int32} (h : p_CB_addRule s x1 x2 x3 x4 x5) : AW l g m_CB_addRule 207 ad0 (am_oE (f_CB_addRule s x1 x2 x3 x4 x5)) 0 0 207 s 0 [(0, .ref 0), (1, .int x1), (2, .int x2), (3, .int x3), (4, .int x4), (5, .int x5)] [] := by
  refine am_aload_n (j := 0) d_CB_addRule_0 rfl rfl ?_
  refine am_iload_n (j := 1) d_CB_addRule_1 rfl rfl ?_
  refine am_iload_n (j := 2) d_CB_addRule_2 rfl rfl ?_
  obtain ⟨hc, h⟩ := h
  refine ak_D (F := am_oE) (as := [.int x1, .int x2]) (rest := []) d_CB_addRule_3 cw_CB_addRule_3 rfl rfl rfl (ct_CB_wantColumn hg hc) rfl rfl (by decide) sh_0 rfl (Nat.le_of_ble_eq_true rfl) (by decide) (by decide) am_oE_x (fun c => ?_)
  have h := h c
  refine am_aload_n (j := 0) d_CB_addRule_6 rfl rfl ?_
  refine am_iload_n (j := 1) d_CB_addRule_7 rfl rfl ?_
  refine am_iload (j := 4) d_CB_addRule_8 rfl ?_
  obtain ⟨hc, h⟩ := h
  refine ak_D (F := am_oE) (as := [.int x1, .int x4]) (rest := []) d_CB_addRule_10 cw_CB_addRule_10 rfl rfl rfl (ct_CB_wantColumn hg hc) rfl rfl (by decide) sh_0 rfl (Nat.le_of_ble_eq_true rfl) (by decide) (by decide) am_oE_x (fun c => ?_)
  have h := h c
  refine am_iload_n (j := 3) d_CB_addRule_13 rfl rfl ?_
  refine ai_lt (F := am_oE) (tgt := 38) d_CB_addRule_14 (by decide) (fun c => ?_) (fun c => ?_)
  · have h := h.1 c
    exact am_throw d_CB_addRule_38 d_CB_addRule_41 d_CB_addRule_42 d_CB_addRule_45 tw_IAE rfl rfl (by decide) (by decide) (by decide) am_oE_2
  · have h := h.2 c
    refine am_iload_n (j := 3) d_CB_addRule_17 rfl rfl ?_
    refine am_iconst (v := (3 : Int32)) d_CB_addRule_18 (by decide) ?_
    refine aj_gt (F := am_oE) (tgt := 38) d_CB_addRule_19 (by decide) (fun c => ?_) (fun c => ?_)
    · have h := h.1 c
      exact am_throw d_CB_addRule_38 d_CB_addRule_41 d_CB_addRule_42 d_CB_addRule_45 tw_IAE rfl rfl (by decide) (by decide) (by decide) am_oE_2
    · have h := h.2 c
      refine am_iload (j := 5) d_CB_addRule_22 rfl ?_
      refine am_sipush (v := (-9999 : Int32)) d_CB_addRule_24 (by decide) ?_
      refine aj_lt (F := am_oE) (tgt := 38) d_CB_addRule_27 (by decide) (fun c => ?_) (fun c => ?_)
      · have h := h.1 c
        exact am_throw d_CB_addRule_38 d_CB_addRule_41 d_CB_addRule_42 d_CB_addRule_45 tw_IAE rfl rfl (by decide) (by decide) (by decide) am_oE_2
      · have h := h.2 c
        refine am_iload (j := 5) d_CB_addRule_30 rfl ?_
        refine am_sipush (v := (9999 : Int32)) d_CB_addRule_32 (by decide) ?_
        refine aj_le (F := am_oE) (tgt := 46) d_CB_addRule_35 (by decide) (fun c => ?_) (fun c => ?_)
        · have h := h.1 c
          refine am_aload_n (j := 0) d_CB_addRule_46 rfl rfl ?_
          refine am_iload_n (j := 1) d_CB_addRule_47 rfl rfl ?_
          refine am_iload_n (j := 2) d_CB_addRule_48 rfl rfl ?_
          obtain ⟨hc, h⟩ := h
          refine ak_D (F := am_oE) (as := [.int x1, .int x2]) (rest := []) d_CB_addRule_49 cw_CB_addRule_49 rfl rfl rfl (ct_CB_wantNotDropped hg hc) rfl rfl (by decide) sh_0 rfl (Nat.le_of_ble_eq_true rfl) (by decide) (by decide) am_oE_x (fun c => ?_)
          have h := h c
          refine am_aload_n (j := 0) d_CB_addRule_52 rfl rfl ?_
          refine am_iload_n (j := 1) d_CB_addRule_53 rfl rfl ?_
          refine am_iload (j := 4) d_CB_addRule_54 rfl ?_
          obtain ⟨hc, h⟩ := h
          refine ak_D (F := am_oE) (as := [.int x1, .int x4]) (rest := []) d_CB_addRule_56 cw_CB_addRule_56 rfl rfl rfl (ct_CB_wantNotDropped hg hc) rfl rfl (by decide) sh_0 rfl (Nat.le_of_ble_eq_true rfl) (by decide) (by decide) am_oE_x (fun c => ?_)
          have h := h c
          refine am_aload_n (j := 0) d_CB_addRule_59 rfl rfl ?_
          refine am_getR (t := 1) d_CB_addRule_60 fl_CB_12 hg (by decide) sh_0 (by decide) rfl (by decide) lk_0_0 (by decide) ?_
          refine am_getI d_CB_addRule_63 fl_CB_168 (by decide) sh_1 (by decide) rfl ?_
          refine am_bipush (v := (8 : Int32)) d_CB_addRule_66 (by decide) ?_
          refine aj_lt (F := am_oE) (tgt := 79) d_CB_addRule_68 (by decide) (fun c => ?_) (fun c => ?_)
          · have h := h.1 c
            refine am_aload_n (j := 0) d_CB_addRule_79 rfl rfl ?_
            refine am_getR (t := 1) d_CB_addRule_80 fl_CB_12 hg (by decide) sh_0 (by decide) rfl (by decide) lk_0_0 (by decide) ?_
            refine am_iload_n (j := 1) d_CB_addRule_83 rfl rfl ?_
            refine am_iload_n (j := 2) d_CB_addRule_84 rfl rfl ?_
            refine am_iload_n (j := 3) d_CB_addRule_85 rfl rfl ?_
            refine am_iload (j := 4) d_CB_addRule_86 rfl ?_
            refine am_iload (j := 5) d_CB_addRule_88 rfl ?_
            obtain ⟨hc, h⟩ := h
            refine ak_VC (as := [.int x1, .int x2, .int x3, .int x4, .int x5]) (rest := []) d_CB_addRule_90 cw_CB_addRule_90 rfl rfl rfl (ct_BA_makeRule hg hc) rfl rfl (by decide) sh_1 rfl (Nat.le_of_ble_eq_true rfl) (by decide) (by decide) ?_
            refine am_istore (lv2 := [(6, .int (f_BA_makeRule s x1 x2 x3 x4 x5).1), (0, .ref 0), (1, .int x1), (2, .int x2), (3, .int x3), (4, .int x4), (5, .int x5)]) d_CB_addRule_93 (by decide) rfl ?_
            refine am_aload_n (j := 1) d_CB_addRule_95 rfl rfl ?_
            refine am_iload (j := 0) d_CB_addRule_96 rfl ?_
            refine ai_lt (F := am_oE) (tgt := 105) d_CB_addRule_98 (by decide) (fun c => ?_) (fun c => ?_)
            · have h := h.1 c
              refine am_iconst (v := (0 : Int32)) d_CB_addRule_105 (by decide) ?_
              obtain ⟨hc, h⟩ := h
              refine ak_VC (as := [.int (0 : Int32)]) (rest := []) d_CB_addRule_106 cw_CB_addRule_106 rfl rfl rfl (ct_CB_tell hg hc) rfl rfl (by decide) sh_0 rfl (Nat.le_of_ble_eq_true rfl) (by decide) (by decide) ?_
              refine am_pop d_CB_addRule_109 rfl ?_
              refine am_iload (j := 0) d_CB_addRule_110 rfl ?_
              exact am_iret d_CB_addRule_112 rfl rfl (by decide) (by decide) am_oE_ok
            · have h := h.2 c
              refine am_iconst (v := (1 : Int32)) d_CB_addRule_101 (by decide) ?_
              refine am_goto (tgt := 106) d_CB_addRule_102 (by decide) ?_
              obtain ⟨hc, h⟩ := h
              refine ak_VC (as := [.int (1 : Int32)]) (rest := []) d_CB_addRule_106 cw_CB_addRule_106 rfl rfl rfl (ct_CB_tell hg hc) rfl rfl (by decide) sh_0 rfl (Nat.le_of_ble_eq_true rfl) (by decide) (by decide) ?_
              refine am_pop d_CB_addRule_109 rfl ?_
              refine am_iload (j := 0) d_CB_addRule_110 rfl ?_
              exact am_iret d_CB_addRule_112 rfl rfl (by decide) (by decide) am_oE_ok
          · have h := h.2 c
            exact am_throw d_CB_addRule_71 d_CB_addRule_74 d_CB_addRule_75 d_CB_addRule_78 tw_ISE rfl rfl (by decide) (by decide) (by decide) am_oE_3
        · have h := h.2 c
          exact am_throw d_CB_addRule_38 d_CB_addRule_41 d_CB_addRule_42 d_CB_addRule_45 tw_IAE rfl rfl (by decide) (by decide) (by decide) am_oE_2
theorem ct_CB_addRule {l : Launch} {g : am_Gl} (hg : g.2.2.2.1 = true) {s : am_M} {x1 : Int32} {x2 : Int32} {x3 : Int32} {x4 : Int32} {x5 : Int32} (h : p_CB_addRule s x1 x2 x3 x4 x5) : AC l g m_CB_addRule 207 s [.ref 0, .int x1, .int x2, .int x3, .int x4, .int x5] (am_oE (f_CB_addRule s x1 x2 x3 x4 x5)) := am_enter ok_CB_addRule rfl (Nat.le_of_ble_eq_true rfl) rfl (fun ad0 => w_CB_addRule hg h)
theorem cw_CB_addTable_20 : am_cv m_CB_addTable m_CB_forgetActs 67 0 := ⟨⟨ok_CB_forgetActs, rfl, by decide +kernel, by decide, by decide⟩, aw_2_26, aw_2_28, as_0_1⟩
def f_CB_addTable  (s : am_M)  : Nat × Int32 × am_M := (if (s 1 3) < (4 : Int32) then (0, ((f_CB_forgetActs s) 1 3), (am_set (f_CB_forgetActs s) 1 3 (((f_CB_forgetActs s) 1 3) + (1 : Int32)))) else (3, 0, s))
def p_CB_addTable  (s : am_M)  : Prop := (((s 1 3) < (4 : Int32)) → True) ∧ (¬ ((s 1 3) < (4 : Int32)) → True)
set_option maxRecDepth 8000 in
theorem w_CB_addTable {l : Launch} {g : am_Gl} (hg : g.2.2.2.1 = true) {ad0 : Nat → Nat} {s : am_M}  : AW l g m_CB_addTable 207 ad0 (am_oE (f_CB_addTable s )) 0 0 207 s 0 [(0, .ref 0)] [] := by
  have h : p_CB_addTable s  := by
    unfold p_CB_addTable
    first | exact trivial | simp
  refine am_aload_n (j := 0) d_CB_addTable_0 rfl rfl ?_
  refine am_getR (t := 1) d_CB_addTable_1 fl_CB_12 hg (by decide) sh_0 (by decide) rfl (by decide) lk_0_0 (by decide) ?_
  refine am_getI d_CB_addTable_4 fl_CB_61 (by decide) sh_1 (by decide) rfl ?_
  refine am_iconst (v := (4 : Int32)) d_CB_addTable_7 (by decide) ?_
  refine aj_lt (F := am_oE) (tgt := 19) d_CB_addTable_8 (by decide) (fun c => ?_) (fun c => ?_)
  · have h := h.1 c
    refine am_aload_n (j := 0) d_CB_addTable_19 rfl rfl ?_
    refine ak_VM (as := []) (rest := []) d_CB_addTable_20 cw_CB_addTable_20 rfl rfl rfl (ct_CB_forgetActs hg) rfl rfl (by decide) sh_0 rfl (Nat.le_of_ble_eq_true rfl) (by decide) (by decide) ?_
    refine am_aload_n (j := 0) d_CB_addTable_23 rfl rfl ?_
    refine am_getR (t := 1) d_CB_addTable_24 fl_CB_12 hg (by decide) sh_0 (by decide) rfl (by decide) lk_0_0 (by decide) ?_
    refine am_dup d_CB_addTable_27 rfl ?_
    refine am_getI d_CB_addTable_28 fl_CB_61 (by decide) sh_1 (by decide) rfl ?_
    refine am_dup_x1 d_CB_addTable_31 rfl rfl ?_
    refine am_iconst (v := (1 : Int32)) d_CB_addTable_32 (by decide) ?_
    refine am_iadd d_CB_addTable_33 ?_
    refine am_putI (ty := .int) d_CB_addTable_34 fl_CB_61 ft_2_3 (by decide) sh_1 (by decide) rfl rfl rfl ?_
    exact am_iret d_CB_addTable_37 rfl rfl (by decide) (by decide) am_oE_ok
  · have h := h.2 c
    exact am_throw d_CB_addTable_11 d_CB_addTable_14 d_CB_addTable_15 d_CB_addTable_18 tw_ISE rfl rfl (by decide) (by decide) (by decide) am_oE_3
theorem ct_CB_addTable {l : Launch} {g : am_Gl} (hg : g.2.2.2.1 = true) {s : am_M}  : AC l g m_CB_addTable 207 s [.ref 0] (am_oE (f_CB_addTable s )) := am_enter ok_CB_addTable rfl (Nat.le_of_ble_eq_true rfl) rfl (fun ad0 => w_CB_addTable hg)
theorem cw_CB_wantQuestion_5 : am_cv m_CB_wantQuestion m_AS_has 425 1 := ⟨⟨ok_AS_has, rfl, by decide +kernel, by decide, by decide⟩, aw_4_184, aw_4_185, aw_4_186⟩
def f_CB_wantQuestion  (s : am_M) (x1 : Int32) : Nat := (if (f_AS_has s x1) = 0 then 1 else 0)
def p_CB_wantQuestion  (s : am_M) (x1 : Int32) : Prop := (((f_AS_has s x1) = 0) → True) ∧ (¬ ((f_AS_has s x1) = 0) → True)
set_option maxRecDepth 8000 in
theorem w_CB_wantQuestion {l : Launch} {g : am_Gl} (hg : g.2.2.2.1 = true) {ad0 : Nat → Nat} {s : am_M} {x1 : Int32} : AW l g m_CB_wantQuestion 207 ad0 ((am_oD s) (f_CB_wantQuestion s x1)) 0 0 207 s 0 [(0, .ref 0), (1, .int x1)] [] := by
  have h : p_CB_wantQuestion s x1 := by
    unfold p_CB_wantQuestion
    first | exact trivial | simp
  refine am_aload_n (j := 0) d_CB_wantQuestion_0 rfl rfl ?_
  refine am_getR (t := 52) d_CB_wantQuestion_1 fl_CB_21 hg (by decide) sh_0 (by decide) rfl (by decide) lk_0_1 (by decide) ?_
  refine am_iload_n (j := 1) d_CB_wantQuestion_4 rfl rfl ?_
  refine ak_VI (as := [.int x1]) (rest := []) d_CB_wantQuestion_5 cw_CB_wantQuestion_5 rfl rfl rfl (ct_AS_has hg) rfl rfl (by decide) sh_52 rfl (Nat.le_of_ble_eq_true rfl) (by decide) (by decide) ?_
  refine ai_ne (F := (am_oD s)) (tgt := 19) d_CB_wantQuestion_8 (by decide) (fun c => ?_) (fun c => ?_)
  · have h := h.2 c
    exact am_vret d_CB_wantQuestion_19 rfl (by decide) (by decide) am_oD_ok
  · have h := h.1 c
    exact am_throw d_CB_wantQuestion_11 d_CB_wantQuestion_14 d_CB_wantQuestion_15 d_CB_wantQuestion_18 tw_IOB rfl rfl (by decide) (by decide) (by decide) am_oD_1
theorem ct_CB_wantQuestion {l : Launch} {g : am_Gl} (hg : g.2.2.2.1 = true) {s : am_M} {x1 : Int32} : AC l g m_CB_wantQuestion 207 s [.ref 0, .int x1] ((am_oD s) (f_CB_wantQuestion s x1)) := am_enter ok_CB_wantQuestion rfl (Nat.le_of_ble_eq_true rfl) rfl (fun ad0 => w_CB_wantQuestion hg)
theorem cw_CB_wantAnswer_2 : am_cv m_CB_wantAnswer m_CB_wantQuestion 313 1 := ⟨⟨ok_CB_wantQuestion, rfl, by decide +kernel, by decide, by decide⟩, aw_4_180, aw_4_182, as_3_14⟩
theorem cw_CB_wantAnswer_15 : am_cv m_CB_wantAnswer m_AS_find 316 1 := ⟨⟨ok_AS_find, rfl, by decide +kernel, by decide, by decide⟩, aw_3_102, aw_3_103, aw_3_104⟩
def f_CB_wantAnswer  (s : am_M) (x1 : Int32) (x2 : Int32) (x3 : Int32) : Nat × am_M := (if (f_CB_wantQuestion s x1) = 0 then (if x2 < 0 then (1, s) else (if (f_AS_find s x1).1 ≤ x2 then (1, (f_AS_find s x1).2) else (if x3 < 0 then (1, (f_AS_find s x1).2) else (if x3 < ((f_AS_find s x1).2 52 5) then (0, (f_AS_find s x1).2) else (1, (f_AS_find s x1).2))))) else ((f_CB_wantQuestion s x1), s))
def p_CB_wantAnswer  (s : am_M) (x1 : Int32) (x2 : Int32) (x3 : Int32) : Prop := (((f_CB_wantQuestion s x1) = 0) → ((x2 < 0) → True) ∧ (¬ (x2 < 0) → p_AS_find s x1 ∧ ((((f_AS_find s x1).1 ≤ x2) → True) ∧ (¬ ((f_AS_find s x1).1 ≤ x2) → ((x3 < 0) → True) ∧ (¬ (x3 < 0) → ((x3 < ((f_AS_find s x1).2 52 5)) → True) ∧ (¬ (x3 < ((f_AS_find s x1).2 52 5)) → True))))))
set_option maxRecDepth 8000 in
theorem w_CB_wantAnswer {l : Launch} {g : am_Gl} (hg : g.2.2.2.1 = true) {ad0 : Nat → Nat} {s : am_M} {x1 : Int32} {x2 : Int32} {x3 : Int32} (h : p_CB_wantAnswer s x1 x2 x3) : AW l g m_CB_wantAnswer 207 ad0 (am_oV (f_CB_wantAnswer s x1 x2 x3)) 0 0 207 s 0 [(0, .ref 0), (1, .int x1), (2, .int x2), (3, .int x3)] [] := by
  refine am_aload_n (j := 0) d_CB_wantAnswer_0 rfl rfl ?_
  refine am_iload_n (j := 1) d_CB_wantAnswer_1 rfl rfl ?_
  refine ak_D (F := am_oV) (as := [.int x1]) (rest := []) d_CB_wantAnswer_2 cw_CB_wantAnswer_2 rfl rfl rfl (ct_CB_wantQuestion hg) rfl rfl (by decide) sh_0 rfl (Nat.le_of_ble_eq_true rfl) (by decide) (by decide) am_oV_x (fun c => ?_)
  have h := h c
  refine am_iload_n (j := 2) d_CB_wantAnswer_5 rfl rfl ?_
  refine ai_lt (F := am_oV) (tgt := 36) d_CB_wantAnswer_6 (by decide) (fun c => ?_) (fun c => ?_)
  · have h := h.1 c
    exact am_throw d_CB_wantAnswer_36 d_CB_wantAnswer_39 d_CB_wantAnswer_40 d_CB_wantAnswer_43 tw_IOB rfl rfl (by decide) (by decide) (by decide) am_oV_1
  · have h := h.2 c
    refine am_iload_n (j := 2) d_CB_wantAnswer_9 rfl rfl ?_
    refine am_aload_n (j := 0) d_CB_wantAnswer_10 rfl rfl ?_
    refine am_getR (t := 52) d_CB_wantAnswer_11 fl_CB_21 hg (by decide) sh_0 (by decide) rfl (by decide) lk_0_1 (by decide) ?_
    refine am_iload_n (j := 1) d_CB_wantAnswer_14 rfl rfl ?_
    obtain ⟨hc, h⟩ := h
    refine ak_VC (as := [.int x1]) (rest := [.int x2]) d_CB_wantAnswer_15 cw_CB_wantAnswer_15 rfl rfl rfl (ct_AS_find hg hc) rfl rfl (by decide) sh_52 rfl (Nat.le_of_ble_eq_true rfl) (by decide) (by decide) ?_
    refine aj_ge (F := am_oV) (tgt := 36) d_CB_wantAnswer_18 (by decide) (fun c => ?_) (fun c => ?_)
    · have h := h.1 c
      exact am_throw d_CB_wantAnswer_36 d_CB_wantAnswer_39 d_CB_wantAnswer_40 d_CB_wantAnswer_43 tw_IOB rfl rfl (by decide) (by decide) (by decide) am_oV_1
    · have h := h.2 c
      refine am_iload_n (j := 3) d_CB_wantAnswer_21 rfl rfl ?_
      refine ai_lt (F := am_oV) (tgt := 36) d_CB_wantAnswer_22 (by decide) (fun c => ?_) (fun c => ?_)
      · have h := h.1 c
        exact am_throw d_CB_wantAnswer_36 d_CB_wantAnswer_39 d_CB_wantAnswer_40 d_CB_wantAnswer_43 tw_IOB rfl rfl (by decide) (by decide) (by decide) am_oV_1
      · have h := h.2 c
        refine am_iload_n (j := 3) d_CB_wantAnswer_25 rfl rfl ?_
        refine am_aload_n (j := 0) d_CB_wantAnswer_26 rfl rfl ?_
        refine am_getR (t := 52) d_CB_wantAnswer_27 fl_CB_21 hg (by decide) sh_0 (by decide) rfl (by decide) lk_0_1 (by decide) ?_
        refine am_getI d_CB_wantAnswer_30 fl_CB_427 (by decide) sh_52 (by decide) rfl ?_
        refine aj_lt (F := am_oV) (tgt := 44) d_CB_wantAnswer_33 (by decide) (fun c => ?_) (fun c => ?_)
        · have h := h.1 c
          exact am_vret d_CB_wantAnswer_44 rfl (by decide) (by decide) am_oV_ok
        · have h := h.2 c
          exact am_throw d_CB_wantAnswer_36 d_CB_wantAnswer_39 d_CB_wantAnswer_40 d_CB_wantAnswer_43 tw_IOB rfl rfl (by decide) (by decide) (by decide) am_oV_1
theorem ct_CB_wantAnswer {l : Launch} {g : am_Gl} (hg : g.2.2.2.1 = true) {s : am_M} {x1 : Int32} {x2 : Int32} {x3 : Int32} (h : p_CB_wantAnswer s x1 x2 x3) : AC l g m_CB_wantAnswer 207 s [.ref 0, .int x1, .int x2, .int x3] (am_oV (f_CB_wantAnswer s x1 x2 x3)) := am_enter ok_CB_wantAnswer rfl (Nat.le_of_ble_eq_true rfl) rfl (fun ad0 => w_CB_wantAnswer hg h)
theorem cw_CB_answer_4 : am_cv m_CB_answer m_CB_wantAnswer 322 3 := ⟨⟨ok_CB_wantAnswer, rfl, by decide +kernel, by decide, by decide⟩, aw_5_20, aw_5_22, as_4_5⟩
theorem cw_CB_answer_13 : am_cv m_CB_answer m_AS_get 325 2 := ⟨⟨ok_AS_get, rfl, by decide +kernel, by decide, by decide⟩, aw_5_24, aw_3_135, aw_3_136⟩
def f_CB_answer  (s : am_M) (x1 : Int32) (x2 : Int32) (x3 : Int32) : Nat × Int32 × am_M := (if (f_CB_wantAnswer s x1 x2 x3).1 = 0 then (0, (f_AS_get (f_CB_wantAnswer s x1 x2 x3).2 x2 x3), (f_CB_wantAnswer s x1 x2 x3).2) else ((f_CB_wantAnswer s x1 x2 x3).1, 0, (f_CB_wantAnswer s x1 x2 x3).2))
def p_CB_answer  (s : am_M) (x1 : Int32) (x2 : Int32) (x3 : Int32) : Prop := p_CB_wantAnswer s x1 x2 x3 ∧ ((((f_CB_wantAnswer s x1 x2 x3).1 = 0) → p_AS_get (f_CB_wantAnswer s x1 x2 x3).2 x2 x3 ∧ (True)))
set_option maxRecDepth 8000 in
theorem w_CB_answer {l : Launch} {g : am_Gl} (hg : g.2.2.2.1 = true) {ad0 : Nat → Nat} {s : am_M} {x1 : Int32} {x2 : Int32} {x3 : Int32} (h : p_CB_answer s x1 x2 x3) : AW l g m_CB_answer 207 ad0 (am_oE (f_CB_answer s x1 x2 x3)) 0 0 207 s 0 [(0, .ref 0), (1, .int x1), (2, .int x2), (3, .int x3)] [] := by
  refine am_aload_n (j := 0) d_CB_answer_0 rfl rfl ?_
  refine am_iload_n (j := 1) d_CB_answer_1 rfl rfl ?_
  refine am_iload_n (j := 2) d_CB_answer_2 rfl rfl ?_
  refine am_iload_n (j := 3) d_CB_answer_3 rfl rfl ?_
  obtain ⟨hc, h⟩ := h
  refine ak_V (F := am_oE) (as := [.int x1, .int x2, .int x3]) (rest := []) d_CB_answer_4 cw_CB_answer_4 rfl rfl rfl (ct_CB_wantAnswer hg hc) rfl rfl (by decide) sh_0 rfl (Nat.le_of_ble_eq_true rfl) (by decide) (by decide) am_oE_x (fun c => ?_)
  have h := h c
  refine am_aload_n (j := 0) d_CB_answer_7 rfl rfl ?_
  refine am_getR (t := 52) d_CB_answer_8 fl_CB_21 hg (by decide) sh_0 (by decide) rfl (by decide) lk_0_1 (by decide) ?_
  refine am_iload_n (j := 2) d_CB_answer_11 rfl rfl ?_
  refine am_iload_n (j := 3) d_CB_answer_12 rfl rfl ?_
  obtain ⟨hc, h⟩ := h
  refine ak_VI (as := [.int x2, .int x3]) (rest := []) d_CB_answer_13 cw_CB_answer_13 rfl rfl rfl (ct_AS_get hg hc) rfl rfl (by decide) sh_52 rfl (Nat.le_of_ble_eq_true rfl) (by decide) (by decide) ?_
  exact am_iret d_CB_answer_16 rfl rfl (by decide) (by decide) am_oE_ok
theorem ct_CB_answer {l : Launch} {g : am_Gl} (hg : g.2.2.2.1 = true) {s : am_M} {x1 : Int32} {x2 : Int32} {x3 : Int32} (h : p_CB_answer s x1 x2 x3) : AC l g m_CB_answer 207 s [.ref 0, .int x1, .int x2, .int x3] (am_oE (f_CB_answer s x1 x2 x3)) := am_enter ok_CB_answer rfl (Nat.le_of_ble_eq_true rfl) rfl (fun ad0 => w_CB_answer hg h)
theorem cw_CB_answers_2 : am_cv m_CB_answers m_CB_wantQuestion 313 1 := ⟨⟨ok_CB_wantQuestion, rfl, by decide +kernel, by decide, by decide⟩, aw_4_180, aw_4_182, as_3_14⟩
theorem cw_CB_answers_10 : am_cv m_CB_answers m_AS_find 316 1 := ⟨⟨ok_AS_find, rfl, by decide +kernel, by decide, by decide⟩, aw_3_102, aw_3_103, aw_3_104⟩
def f_CB_answers  (s : am_M) (x1 : Int32) : Nat × Int32 × am_M := (if (f_CB_wantQuestion s x1) = 0 then (0, (f_AS_find s x1).1, (f_AS_find s x1).2) else ((f_CB_wantQuestion s x1), 0, s))
def p_CB_answers  (s : am_M) (x1 : Int32) : Prop := (((f_CB_wantQuestion s x1) = 0) → p_AS_find s x1 ∧ (True))
set_option maxRecDepth 8000 in
theorem w_CB_answers {l : Launch} {g : am_Gl} (hg : g.2.2.2.1 = true) {ad0 : Nat → Nat} {s : am_M} {x1 : Int32} (h : p_CB_answers s x1) : AW l g m_CB_answers 207 ad0 (am_oE (f_CB_answers s x1)) 0 0 207 s 0 [(0, .ref 0), (1, .int x1)] [] := by
  refine am_aload_n (j := 0) d_CB_answers_0 rfl rfl ?_
  refine am_iload_n (j := 1) d_CB_answers_1 rfl rfl ?_
  refine ak_D (F := am_oE) (as := [.int x1]) (rest := []) d_CB_answers_2 cw_CB_answers_2 rfl rfl rfl (ct_CB_wantQuestion hg) rfl rfl (by decide) sh_0 rfl (Nat.le_of_ble_eq_true rfl) (by decide) (by decide) am_oE_x (fun c => ?_)
  have h := h c
  refine am_aload_n (j := 0) d_CB_answers_5 rfl rfl ?_
  refine am_getR (t := 52) d_CB_answers_6 fl_CB_21 hg (by decide) sh_0 (by decide) rfl (by decide) lk_0_1 (by decide) ?_
  refine am_iload_n (j := 1) d_CB_answers_9 rfl rfl ?_
  obtain ⟨hc, h⟩ := h
  refine ak_VC (as := [.int x1]) (rest := []) d_CB_answers_10 cw_CB_answers_10 rfl rfl rfl (ct_AS_find hg hc) rfl rfl (by decide) sh_52 rfl (Nat.le_of_ble_eq_true rfl) (by decide) (by decide) ?_
  exact am_iret d_CB_answers_13 rfl rfl (by decide) (by decide) am_oE_ok
theorem ct_CB_answers {l : Launch} {g : am_Gl} (hg : g.2.2.2.1 = true) {s : am_M} {x1 : Int32} (h : p_CB_answers s x1) : AC l g m_CB_answers 207 s [.ref 0, .int x1] (am_oE (f_CB_answers s x1)) := am_enter ok_CB_answers rfl (Nat.le_of_ble_eq_true rfl) rfl (fun ad0 => w_CB_answers hg h)
theorem cw_CB_wantSource_19 : am_cv m_CB_wantSource m_CB_wantTable 70 1 := ⟨⟨ok_CB_wantTable, rfl, by decide +kernel, by decide, by decide⟩, aw_2_34, aw_2_36, as_0_2⟩
theorem cw_CB_wantSource_11 : am_cv m_CB_wantSource m_CB_wantQuestion 313 1 := ⟨⟨ok_CB_wantQuestion, rfl, by decide +kernel, by decide, by decide⟩, aw_4_180, aw_4_182, as_3_14⟩
def f_CB_wantSource  (s : am_M) (x1 : Int32) : Nat := (if x1 < (10 : Int32) then (if (f_CB_wantTable s x1) = 0 then 0 else (f_CB_wantTable s x1)) else (if (f_CB_wantQuestion s (x1 - (10 : Int32))) = 0 then 0 else (f_CB_wantQuestion s (x1 - (10 : Int32)))))
def p_CB_wantSource  (s : am_M) (x1 : Int32) : Prop := ((x1 < (10 : Int32)) → (((f_CB_wantTable s x1) = 0) → True)) ∧ (¬ (x1 < (10 : Int32)) → (((f_CB_wantQuestion s (x1 - (10 : Int32))) = 0) → True))
set_option maxRecDepth 8000 in
theorem w_CB_wantSource {l : Launch} {g : am_Gl} (hg : g.2.2.2.1 = true) {ad0 : Nat → Nat} {s : am_M} {x1 : Int32} : AW l g m_CB_wantSource 207 ad0 ((am_oD s) (f_CB_wantSource s x1)) 0 0 207 s 0 [(0, .ref 0), (1, .int x1)] [] := by
  have h : p_CB_wantSource s x1 := by
    unfold p_CB_wantSource
    first | exact trivial | simp
  refine am_iload_n (j := 1) d_CB_wantSource_0 rfl rfl ?_
  refine am_bipush (v := (10 : Int32)) d_CB_wantSource_1 (by decide) ?_
  refine aj_lt (F := (am_oD s)) (tgt := 17) d_CB_wantSource_3 (by decide) (fun c => ?_) (fun c => ?_)
  · have h := h.1 c
    refine am_aload_n (j := 0) d_CB_wantSource_17 rfl rfl ?_
    refine am_iload_n (j := 1) d_CB_wantSource_18 rfl rfl ?_
    refine ak_D (F := (am_oD s)) (as := [.int x1]) (rest := []) d_CB_wantSource_19 cw_CB_wantSource_19 rfl rfl rfl (ct_CB_wantTable hg) rfl rfl (by decide) sh_0 rfl (Nat.le_of_ble_eq_true rfl) (by decide) (by decide) am_oD_x (fun c => ?_)
    have h := h c
    exact am_vret d_CB_wantSource_22 rfl (by decide) (by decide) am_oD_ok
  · have h := h.2 c
    refine am_aload_n (j := 0) d_CB_wantSource_6 rfl rfl ?_
    refine am_iload_n (j := 1) d_CB_wantSource_7 rfl rfl ?_
    refine am_bipush (v := (10 : Int32)) d_CB_wantSource_8 (by decide) ?_
    refine am_isub d_CB_wantSource_10 ?_
    refine ak_D (F := (am_oD s)) (as := [.int (x1 - (10 : Int32))]) (rest := []) d_CB_wantSource_11 cw_CB_wantSource_11 rfl rfl rfl (ct_CB_wantQuestion hg) rfl rfl (by decide) sh_0 rfl (Nat.le_of_ble_eq_true rfl) (by decide) (by decide) am_oD_x (fun c => ?_)
    have h := h c
    refine am_goto (tgt := 22) d_CB_wantSource_14 (by decide) ?_
    exact am_vret d_CB_wantSource_22 rfl (by decide) (by decide) am_oD_ok
theorem ct_CB_wantSource {l : Launch} {g : am_Gl} (hg : g.2.2.2.1 = true) {s : am_M} {x1 : Int32} : AC l g m_CB_wantSource 207 s [.ref 0, .int x1] ((am_oD s) (f_CB_wantSource s x1)) := am_enter ok_CB_wantSource rfl (Nat.le_of_ble_eq_true rfl) rfl (fun ad0 => w_CB_wantSource hg)
theorem cw_CB_wantSourceColumn_25 : am_cv m_CB_wantSourceColumn m_BA_widthOf 413 1 := ⟨⟨ok_BA_widthOf, rfl, by decide +kernel, by decide, by decide⟩, aw_2_80, aw_2_81, aw_2_82⟩
theorem cw_CB_wantSourceColumn_14 : am_cv m_CB_wantSourceColumn m_AS_widthOf 319 1 := ⟨⟨ok_AS_widthOf, rfl, by decide +kernel, by decide, by decide⟩, aw_4_192, aw_4_193, aw_4_194⟩
def f_CB_wantSourceColumn  (s : am_M) (x1 : Int32) (x2 : Int32) : Nat × am_M := (if x1 < (10 : Int32) then (if x2 < 0 then (1, s) else (if x2 < (f_BA_widthOf s x1) then (0, s) else (1, s))) else (if x2 < 0 then (1, (f_AS_widthOf s (x1 - (10 : Int32))).2) else (if x2 < (f_AS_widthOf s (x1 - (10 : Int32))).1 then (0, (f_AS_widthOf s (x1 - (10 : Int32))).2) else (1, (f_AS_widthOf s (x1 - (10 : Int32))).2))))
def p_CB_wantSourceColumn  (s : am_M) (x1 : Int32) (x2 : Int32) : Prop := ((x1 < (10 : Int32)) → p_BA_widthOf s x1 ∧ (((x2 < 0) → True) ∧ (¬ (x2 < 0) → ((x2 < (f_BA_widthOf s x1)) → True) ∧ (¬ (x2 < (f_BA_widthOf s x1)) → True)))) ∧ (¬ (x1 < (10 : Int32)) → p_AS_widthOf s (x1 - (10 : Int32)) ∧ (((x2 < 0) → True) ∧ (¬ (x2 < 0) → ((x2 < (f_AS_widthOf s (x1 - (10 : Int32))).1) → True) ∧ (¬ (x2 < (f_AS_widthOf s (x1 - (10 : Int32))).1) → True))))
set_option maxRecDepth 8000 in
theorem w_CB_wantSourceColumn {l : Launch} {g : am_Gl} (hg : g.2.2.2.1 = true) {ad0 : Nat → Nat} {s : am_M} {x1 : Int32} {x2 : Int32} (h : p_CB_wantSourceColumn s x1 x2) : AW l g m_CB_wantSourceColumn 207 ad0 (am_oV (f_CB_wantSourceColumn s x1 x2)) 0 0 207 s 0 [(0, .ref 0), (1, .int x1), (2, .int x2)] [] := by
  refine am_iload_n (j := 1) d_CB_wantSourceColumn_0 rfl rfl ?_
  refine am_bipush (v := (10 : Int32)) d_CB_wantSourceColumn_1 (by decide) ?_
  refine aj_lt (F := am_oV) (tgt := 20) d_CB_wantSourceColumn_3 (by decide) (fun c => ?_) (fun c => ?_)
  · have h := h.1 c
    refine am_aload_n (j := 0) d_CB_wantSourceColumn_20 rfl rfl ?_
    refine am_getR (t := 1) d_CB_wantSourceColumn_21 fl_CB_12 hg (by decide) sh_0 (by decide) rfl (by decide) lk_0_0 (by decide) ?_
    refine am_iload_n (j := 1) d_CB_wantSourceColumn_24 rfl rfl ?_
    obtain ⟨hc, h⟩ := h
    refine ak_VI (as := [.int x1]) (rest := []) d_CB_wantSourceColumn_25 cw_CB_wantSourceColumn_25 rfl rfl rfl (ct_BA_widthOf hg hc) rfl rfl (by decide) sh_1 rfl (Nat.le_of_ble_eq_true rfl) (by decide) (by decide) ?_
    refine am_istore_n (lv2 := [(3, .int (f_BA_widthOf s x1)), (0, .ref 0), (1, .int x1), (2, .int x2)]) d_CB_wantSourceColumn_28 rfl (by decide) rfl ?_
    refine am_iload_n (j := 3) d_CB_wantSourceColumn_29 rfl rfl ?_
    refine ai_lt (F := am_oV) (tgt := 38) d_CB_wantSourceColumn_30 (by decide) (fun c => ?_) (fun c => ?_)
    · have h := h.1 c
      exact am_throw d_CB_wantSourceColumn_38 d_CB_wantSourceColumn_41 d_CB_wantSourceColumn_42 d_CB_wantSourceColumn_45 tw_IOB rfl rfl (by decide) (by decide) (by decide) am_oV_1
    · have h := h.2 c
      refine am_iload_n (j := 3) d_CB_wantSourceColumn_33 rfl rfl ?_
      refine am_iload_n (j := 0) d_CB_wantSourceColumn_34 rfl rfl ?_
      refine aj_lt (F := am_oV) (tgt := 46) d_CB_wantSourceColumn_35 (by decide) (fun c => ?_) (fun c => ?_)
      · have h := h.1 c
        exact am_vret d_CB_wantSourceColumn_46 rfl (by decide) (by decide) am_oV_ok
      · have h := h.2 c
        exact am_throw d_CB_wantSourceColumn_38 d_CB_wantSourceColumn_41 d_CB_wantSourceColumn_42 d_CB_wantSourceColumn_45 tw_IOB rfl rfl (by decide) (by decide) (by decide) am_oV_1
  · have h := h.2 c
    refine am_aload_n (j := 0) d_CB_wantSourceColumn_6 rfl rfl ?_
    refine am_getR (t := 52) d_CB_wantSourceColumn_7 fl_CB_21 hg (by decide) sh_0 (by decide) rfl (by decide) lk_0_1 (by decide) ?_
    refine am_iload_n (j := 1) d_CB_wantSourceColumn_10 rfl rfl ?_
    refine am_bipush (v := (10 : Int32)) d_CB_wantSourceColumn_11 (by decide) ?_
    refine am_isub d_CB_wantSourceColumn_13 ?_
    obtain ⟨hc, h⟩ := h
    refine ak_VC (as := [.int (x1 - (10 : Int32))]) (rest := []) d_CB_wantSourceColumn_14 cw_CB_wantSourceColumn_14 rfl rfl rfl (ct_AS_widthOf hg hc) rfl rfl (by decide) sh_52 rfl (Nat.le_of_ble_eq_true rfl) (by decide) (by decide) ?_
    refine am_goto (tgt := 28) d_CB_wantSourceColumn_17 (by decide) ?_
    refine am_istore_n (lv2 := [(3, .int (f_AS_widthOf s (x1 - (10 : Int32))).1), (0, .ref 0), (1, .int x1), (2, .int x2)]) d_CB_wantSourceColumn_28 rfl (by decide) rfl ?_
    refine am_iload_n (j := 3) d_CB_wantSourceColumn_29 rfl rfl ?_
    refine ai_lt (F := am_oV) (tgt := 38) d_CB_wantSourceColumn_30 (by decide) (fun c => ?_) (fun c => ?_)
    · have h := h.1 c
      exact am_throw d_CB_wantSourceColumn_38 d_CB_wantSourceColumn_41 d_CB_wantSourceColumn_42 d_CB_wantSourceColumn_45 tw_IOB rfl rfl (by decide) (by decide) (by decide) am_oV_1
    · have h := h.2 c
      refine am_iload_n (j := 3) d_CB_wantSourceColumn_33 rfl rfl ?_
      refine am_iload_n (j := 0) d_CB_wantSourceColumn_34 rfl rfl ?_
      refine aj_lt (F := am_oV) (tgt := 46) d_CB_wantSourceColumn_35 (by decide) (fun c => ?_) (fun c => ?_)
      · have h := h.1 c
        exact am_vret d_CB_wantSourceColumn_46 rfl (by decide) (by decide) am_oV_ok
      · have h := h.2 c
        exact am_throw d_CB_wantSourceColumn_38 d_CB_wantSourceColumn_41 d_CB_wantSourceColumn_42 d_CB_wantSourceColumn_45 tw_IOB rfl rfl (by decide) (by decide) (by decide) am_oV_1
theorem ct_CB_wantSourceColumn {l : Launch} {g : am_Gl} (hg : g.2.2.2.1 = true) {s : am_M} {x1 : Int32} {x2 : Int32} (h : p_CB_wantSourceColumn s x1 x2) : AC l g m_CB_wantSourceColumn 207 s [.ref 0, .int x1, .int x2] (am_oV (f_CB_wantSourceColumn s x1 x2)) := am_enter ok_CB_wantSourceColumn rfl (Nat.le_of_ble_eq_true rfl) rfl (fun ad0 => w_CB_wantSourceColumn hg h)
theorem cw_CB_wantNoCross_14 : am_cv m_CB_wantNoCross m_AS_question 298 1 := ⟨⟨ok_AS_question, rfl, by decide +kernel, by decide, by decide⟩, aw_3_182, aw_3_107, aw_3_108⟩
def f_CB_wantNoCross  (s : am_M) (x1 : Int32) : Nat := (if x1 < (10 : Int32) then 0 else (if (s (f_AS_question s (x1 - (10 : Int32))) 0) = (2 : Int32) then 2 else 0))
def p_CB_wantNoCross  (s : am_M) (x1 : Int32) : Prop := ((x1 < (10 : Int32)) → True) ∧ (¬ (x1 < (10 : Int32)) → p_AS_question s (x1 - (10 : Int32)) ∧ (((f_AS_question s (x1 - (10 : Int32))) < 207 ∧ am_sh (f_AS_question s (x1 - (10 : Int32))) = (0, 4, 17)) ∧ ((((s (f_AS_question s (x1 - (10 : Int32))) 0) = (2 : Int32)) → True) ∧ (¬ ((s (f_AS_question s (x1 - (10 : Int32))) 0) = (2 : Int32)) → True))))
set_option maxRecDepth 8000 in
theorem w_CB_wantNoCross {l : Launch} {g : am_Gl} (hg : g.2.2.2.1 = true) {ad0 : Nat → Nat} {s : am_M} {x1 : Int32} (h : p_CB_wantNoCross s x1) : AW l g m_CB_wantNoCross 207 ad0 ((am_oD s) (f_CB_wantNoCross s x1)) 0 0 207 s 0 [(0, .ref 0), (1, .int x1)] [] := by
  refine am_iload_n (j := 1) d_CB_wantNoCross_0 rfl rfl ?_
  refine am_bipush (v := (10 : Int32)) d_CB_wantNoCross_1 (by decide) ?_
  refine aj_lt (F := (am_oD s)) (tgt := 32) d_CB_wantNoCross_3 (by decide) (fun c => ?_) (fun c => ?_)
  · have h := h.1 c
    exact am_vret d_CB_wantNoCross_32 rfl (by decide) (by decide) am_oD_ok
  · have h := h.2 c
    refine am_aload_n (j := 0) d_CB_wantNoCross_6 rfl rfl ?_
    refine am_getR (t := 52) d_CB_wantNoCross_7 fl_CB_21 hg (by decide) sh_0 (by decide) rfl (by decide) lk_0_1 (by decide) ?_
    refine am_iload_n (j := 1) d_CB_wantNoCross_10 rfl rfl ?_
    refine am_bipush (v := (10 : Int32)) d_CB_wantNoCross_11 (by decide) ?_
    refine am_isub d_CB_wantNoCross_13 ?_
    obtain ⟨hc, h⟩ := h
    refine ak_VR (as := [.int (x1 - (10 : Int32))]) (rest := []) d_CB_wantNoCross_14 cw_CB_wantNoCross_14 rfl rfl rfl (ct_AS_question hg hc) rfl rfl (by decide) sh_52 rfl (Nat.le_of_ble_eq_true rfl) (by decide) (by decide) ?_
    obtain ⟨⟨b1, t1⟩, h⟩ := h
    refine am_getI d_CB_wantNoCross_17 fl_CB_327 b1 t1 (by decide) rfl ?_
    refine am_iconst (v := (2 : Int32)) d_CB_wantNoCross_20 (by decide) ?_
    refine aj_ne (F := (am_oD s)) (tgt := 32) d_CB_wantNoCross_21 (by decide) (fun c => ?_) (fun c => ?_)
    · have h := h.2 c
      exact am_vret d_CB_wantNoCross_32 rfl (by decide) (by decide) am_oD_ok
    · have h := h.1 c
      exact am_throw d_CB_wantNoCross_24 d_CB_wantNoCross_27 d_CB_wantNoCross_28 d_CB_wantNoCross_31 tw_IAE rfl rfl (by decide) (by decide) (by decide) am_oD_2
theorem ct_CB_wantNoCross {l : Launch} {g : am_Gl} (hg : g.2.2.2.1 = true) {s : am_M} {x1 : Int32} (h : p_CB_wantNoCross s x1) : AC l g m_CB_wantNoCross 207 s [.ref 0, .int x1] ((am_oD s) (f_CB_wantNoCross s x1)) := am_enter ok_CB_wantNoCross rfl (Nat.le_of_ble_eq_true rfl) rfl (fun ad0 => w_CB_wantNoCross hg h)
theorem cw_CB_wantLinkCode_21 : am_cv m_CB_wantLinkCode m_CB_wantLink 162 2 := ⟨⟨ok_CB_wantLink, rfl, by decide +kernel, by decide, by decide⟩, aw_3_36, aw_3_38, as_1_5⟩
def f_CB_wantLinkCode  (s : am_M) (x1 : Int32) : Nat := (if 0 ≤ x1 then (if (f_CB_wantLink s (x1 / (10 : Int32)) (x1 - x1 / (10 : Int32) * (10 : Int32))) = 0 then 0 else (f_CB_wantLink s (x1 / (10 : Int32)) (x1 - x1 / (10 : Int32) * (10 : Int32)))) else 2)
def p_CB_wantLinkCode  (s : am_M) (x1 : Int32) : Prop := ((0 ≤ x1) → p_CB_wantLink s (x1 / (10 : Int32)) (x1 - x1 / (10 : Int32) * (10 : Int32)) ∧ ((((f_CB_wantLink s (x1 / (10 : Int32)) (x1 - x1 / (10 : Int32) * (10 : Int32))) = 0) → True))) ∧ (¬ (0 ≤ x1) → True)
set_option maxRecDepth 8000 in
theorem w_CB_wantLinkCode {l : Launch} {g : am_Gl} (hg : g.2.2.2.1 = true) {ad0 : Nat → Nat} {s : am_M} {x1 : Int32} (h : p_CB_wantLinkCode s x1) : AW l g m_CB_wantLinkCode 207 ad0 ((am_oD s) (f_CB_wantLinkCode s x1)) 0 0 207 s 0 [(0, .ref 0), (1, .int x1)] [] := by
  refine am_iload_n (j := 1) d_CB_wantLinkCode_0 rfl rfl ?_
  refine ai_ge (F := (am_oD s)) (tgt := 12) d_CB_wantLinkCode_1 (by decide) (fun c => ?_) (fun c => ?_)
  · have h := h.1 c
    refine am_aload_n (j := 0) d_CB_wantLinkCode_12 rfl rfl ?_
    refine am_iload_n (j := 1) d_CB_wantLinkCode_13 rfl rfl ?_
    refine am_bipush (v := (10 : Int32)) d_CB_wantLinkCode_14 (by decide) ?_
    refine am_idiv d_CB_wantLinkCode_16 (by decide) ?_
    refine am_iload_n (j := 1) d_CB_wantLinkCode_17 rfl rfl ?_
    refine am_bipush (v := (10 : Int32)) d_CB_wantLinkCode_18 (by decide) ?_
    refine am_irem d_CB_wantLinkCode_20 (by decide) ?_
    obtain ⟨hc, h⟩ := h
    refine ak_D (F := (am_oD s)) (as := [.int (x1 / (10 : Int32)), .int (x1 - x1 / (10 : Int32) * (10 : Int32))]) (rest := []) d_CB_wantLinkCode_21 cw_CB_wantLinkCode_21 rfl rfl rfl (ct_CB_wantLink hg hc) rfl rfl (by decide) sh_0 rfl (Nat.le_of_ble_eq_true rfl) (by decide) (by decide) am_oD_x (fun c => ?_)
    have h := h c
    exact am_vret d_CB_wantLinkCode_24 rfl (by decide) (by decide) am_oD_ok
  · have h := h.2 c
    exact am_throw d_CB_wantLinkCode_4 d_CB_wantLinkCode_7 d_CB_wantLinkCode_8 d_CB_wantLinkCode_11 tw_IAE rfl rfl (by decide) (by decide) (by decide) am_oD_2
theorem ct_CB_wantLinkCode {l : Launch} {g : am_Gl} (hg : g.2.2.2.1 = true) {s : am_M} {x1 : Int32} (h : p_CB_wantLinkCode s x1) : AC l g m_CB_wantLinkCode 207 s [.ref 0, .int x1] ((am_oD s) (f_CB_wantLinkCode s x1)) := am_enter ok_CB_wantLinkCode rfl (Nat.le_of_ble_eq_true rfl) rfl (fun ad0 => w_CB_wantLinkCode hg h)
def f_CB_wantQuestionPlace  (s : am_M)  : Nat := (if (s 52 3) < (8 : Int32) then 0 else 3)
def p_CB_wantQuestionPlace  (s : am_M)  : Prop := (((s 52 3) < (8 : Int32)) → True) ∧ (¬ ((s 52 3) < (8 : Int32)) → True)
set_option maxRecDepth 8000 in
theorem w_CB_wantQuestionPlace {l : Launch} {g : am_Gl} (hg : g.2.2.2.1 = true) {ad0 : Nat → Nat} {s : am_M}  : AW l g m_CB_wantQuestionPlace 207 ad0 ((am_oD s) (f_CB_wantQuestionPlace s )) 0 0 207 s 0 [(0, .ref 0)] [] := by
  have h : p_CB_wantQuestionPlace s  := by
    unfold p_CB_wantQuestionPlace
    first | exact trivial | simp
  refine am_aload_n (j := 0) d_CB_wantQuestionPlace_0 rfl rfl ?_
  refine am_getR (t := 52) d_CB_wantQuestionPlace_1 fl_CB_21 hg (by decide) sh_0 (by decide) rfl (by decide) lk_0_1 (by decide) ?_
  refine am_getI d_CB_wantQuestionPlace_4 fl_CB_430 (by decide) sh_52 (by decide) rfl ?_
  refine am_bipush (v := (8 : Int32)) d_CB_wantQuestionPlace_7 (by decide) ?_
  refine aj_lt (F := (am_oD s)) (tgt := 20) d_CB_wantQuestionPlace_9 (by decide) (fun c => ?_) (fun c => ?_)
  · have h := h.1 c
    exact am_vret d_CB_wantQuestionPlace_20 rfl (by decide) (by decide) am_oD_ok
  · have h := h.2 c
    exact am_throw d_CB_wantQuestionPlace_12 d_CB_wantQuestionPlace_15 d_CB_wantQuestionPlace_16 d_CB_wantQuestionPlace_19 tw_ISE rfl rfl (by decide) (by decide) (by decide) am_oD_3
theorem ct_CB_wantQuestionPlace {l : Launch} {g : am_Gl} (hg : g.2.2.2.1 = true) {s : am_M}  : AC l g m_CB_wantQuestionPlace 207 s [.ref 0] ((am_oD s) (f_CB_wantQuestionPlace s )) := am_enter ok_CB_wantQuestionPlace rfl (Nat.le_of_ble_eq_true rfl) rfl (fun ad0 => w_CB_wantQuestionPlace hg)
theorem cw_CB_ask_2 : am_cv m_CB_ask m_CB_wantSource 269 1 := ⟨⟨ok_CB_wantSource, rfl, by decide +kernel, by decide, by decide⟩, aw_4_176, aw_4_178, as_3_13⟩
theorem cw_CB_ask_13 : am_cv m_CB_ask m_CB_wantSourceColumn 272 2 := ⟨⟨ok_CB_wantSourceColumn, rfl, by decide +kernel, by decide, by decide⟩, aw_4_188, aw_4_190, as_3_15⟩
theorem cw_CB_ask_18 : am_cv m_CB_ask m_CB_wantNoCross 275 1 := ⟨⟨ok_CB_wantNoCross, rfl, by decide +kernel, by decide, by decide⟩, aw_4_197, aw_4_199, as_4_0⟩
theorem cw_CB_ask_40 : am_cv m_CB_ask m_CB_wantQuestionPlace 284 0 := ⟨⟨ok_CB_wantQuestionPlace, rfl, by decide +kernel, by decide, by decide⟩, aw_4_206, aw_4_208, as_4_2⟩
theorem cw_CB_ask_49 : am_cv m_CB_ask m_AS_makePlain 287 2 := ⟨⟨ok_AS_makePlain, rfl, by decide +kernel, by decide, by decide⟩, aw_4_210, aw_4_211, aw_4_212⟩
theorem cw_CB_ask_33 : am_cv m_CB_ask m_AS_originOf 278 2 := ⟨⟨ok_AS_originOf, rfl, by decide +kernel, by decide, by decide⟩, aw_4_201, aw_4_107, aw_4_108⟩
theorem cw_CB_ask_36 : am_cv m_CB_ask m_CB_wantLinkCode 281 1 := ⟨⟨ok_CB_wantLinkCode, rfl, by decide +kernel, by decide, by decide⟩, aw_4_202, aw_4_204, as_4_1⟩
def f_CB_ask_16  (s : am_M) (x1 : Int32) (x2 : Int32) : Nat × Int32 × am_M := (if (f_CB_wantNoCross s x1) = 0 then (if x2 = (-1 : Int32) then (if (f_CB_wantQuestionPlace s) = 0 then (0, (f_AS_makePlain s x1 x2).1, (f_AS_makePlain s x1 x2).2) else ((f_CB_wantQuestionPlace s), 0, s)) else (if (f_CB_wantLinkCode s (f_AS_originOf s x1 x2)) = 0 then (if (f_CB_wantQuestionPlace s) = 0 then (0, (f_AS_makePlain s x1 x2).1, (f_AS_makePlain s x1 x2).2) else ((f_CB_wantQuestionPlace s), 0, s)) else ((f_CB_wantLinkCode s (f_AS_originOf s x1 x2)), 0, s))) else ((f_CB_wantNoCross s x1), 0, s))
def p_CB_ask_16  (s : am_M) (x1 : Int32) (x2 : Int32) : Prop := p_CB_wantNoCross s x1 ∧ ((((f_CB_wantNoCross s x1) = 0) → ((x2 = (-1 : Int32)) → (((f_CB_wantQuestionPlace s) = 0) → p_AS_makePlain s x1 x2 ∧ (True))) ∧ (¬ (x2 = (-1 : Int32)) → p_AS_originOf s x1 x2 ∧ (p_CB_wantLinkCode s (f_AS_originOf s x1 x2) ∧ ((((f_CB_wantLinkCode s (f_AS_originOf s x1 x2)) = 0) → (((f_CB_wantQuestionPlace s) = 0) → p_AS_makePlain s x1 x2 ∧ (True))))))))
set_option maxRecDepth 8000 in
theorem w_CB_ask_16 {l : Launch} {g : am_Gl} (hg : g.2.2.2.1 = true) {ad0 : Nat → Nat}  {s : am_M} {x1 : Int32} {x2 : Int32} (h : p_CB_ask_16  s x1 x2) : AW l g m_CB_ask 207 ad0 (am_oE (f_CB_ask_16  s x1 x2)) 3 18 207 s 16 [(0, .ref 0), (1, .int x1), (2, .int x2)] [] := by
  refine am_aload_n (j := 0) d_CB_ask_16 rfl rfl ?_
  refine am_iload_n (j := 1) d_CB_ask_17 rfl rfl ?_
  obtain ⟨hc, h⟩ := h
  refine ak_D (F := am_oE) (as := [.int x1]) (rest := []) d_CB_ask_18 cw_CB_ask_18 rfl rfl rfl (ct_CB_wantNoCross hg hc) rfl rfl (by decide) sh_0 rfl (Nat.le_of_ble_eq_true rfl) (by decide) (by decide) am_oE_x (fun c => ?_)
  have h := h c
  refine am_iload_n (j := 2) d_CB_ask_21 rfl rfl ?_
  refine am_iconst (v := (-1 : Int32)) d_CB_ask_22 (by decide) ?_
  refine aj_eq (F := am_oE) (tgt := 39) d_CB_ask_23 (by decide) (fun c => ?_) (fun c => ?_)
  · have h := h.1 c
    refine am_aload_n (j := 0) d_CB_ask_39 rfl rfl ?_
    refine ak_D (F := am_oE) (as := []) (rest := []) d_CB_ask_40 cw_CB_ask_40 rfl rfl rfl (ct_CB_wantQuestionPlace hg) rfl rfl (by decide) sh_0 rfl (Nat.le_of_ble_eq_true rfl) (by decide) (by decide) am_oE_x (fun c => ?_)
    have h := h c
    refine am_aload_n (j := 0) d_CB_ask_43 rfl rfl ?_
    refine am_getR (t := 52) d_CB_ask_44 fl_CB_21 hg (by decide) sh_0 (by decide) rfl (by decide) lk_0_1 (by decide) ?_
    refine am_iload_n (j := 1) d_CB_ask_47 rfl rfl ?_
    refine am_iload_n (j := 2) d_CB_ask_48 rfl rfl ?_
    obtain ⟨hc, h⟩ := h
    refine ak_VC (as := [.int x1, .int x2]) (rest := []) d_CB_ask_49 cw_CB_ask_49 rfl rfl rfl (ct_AS_makePlain hg hc) rfl rfl (by decide) sh_52 rfl (Nat.le_of_ble_eq_true rfl) (by decide) (by decide) ?_
    exact am_iret d_CB_ask_52 rfl rfl (by decide) (by decide) am_oE_ok
  · have h := h.2 c
    refine am_aload_n (j := 0) d_CB_ask_26 rfl rfl ?_
    refine am_aload_n (j := 0) d_CB_ask_27 rfl rfl ?_
    refine am_getR (t := 52) d_CB_ask_28 fl_CB_21 hg (by decide) sh_0 (by decide) rfl (by decide) lk_0_1 (by decide) ?_
    refine am_iload_n (j := 1) d_CB_ask_31 rfl rfl ?_
    refine am_iload_n (j := 2) d_CB_ask_32 rfl rfl ?_
    obtain ⟨hc, h⟩ := h
    refine ak_VI (as := [.int x1, .int x2]) (rest := [.ref 0]) d_CB_ask_33 cw_CB_ask_33 rfl rfl rfl (ct_AS_originOf hg hc) rfl rfl (by decide) sh_52 rfl (Nat.le_of_ble_eq_true rfl) (by decide) (by decide) ?_
    obtain ⟨hc, h⟩ := h
    refine ak_D (F := am_oE) (as := [.int (f_AS_originOf s x1 x2)]) (rest := []) d_CB_ask_36 cw_CB_ask_36 rfl rfl rfl (ct_CB_wantLinkCode hg hc) rfl rfl (by decide) sh_0 rfl (Nat.le_of_ble_eq_true rfl) (by decide) (by decide) am_oE_x (fun c => ?_)
    have h := h c
    refine am_aload_n (j := 0) d_CB_ask_39 rfl rfl ?_
    refine ak_D (F := am_oE) (as := []) (rest := []) d_CB_ask_40 cw_CB_ask_40 rfl rfl rfl (ct_CB_wantQuestionPlace hg) rfl rfl (by decide) sh_0 rfl (Nat.le_of_ble_eq_true rfl) (by decide) (by decide) am_oE_x (fun c => ?_)
    have h := h c
    refine am_aload_n (j := 0) d_CB_ask_43 rfl rfl ?_
    refine am_getR (t := 52) d_CB_ask_44 fl_CB_21 hg (by decide) sh_0 (by decide) rfl (by decide) lk_0_1 (by decide) ?_
    refine am_iload_n (j := 1) d_CB_ask_47 rfl rfl ?_
    refine am_iload_n (j := 2) d_CB_ask_48 rfl rfl ?_
    obtain ⟨hc, h⟩ := h
    refine ak_VC (as := [.int x1, .int x2]) (rest := []) d_CB_ask_49 cw_CB_ask_49 rfl rfl rfl (ct_AS_makePlain hg hc) rfl rfl (by decide) sh_52 rfl (Nat.le_of_ble_eq_true rfl) (by decide) (by decide) ?_
    exact am_iret d_CB_ask_52 rfl rfl (by decide) (by decide) am_oE_ok
def f_CB_ask  (s : am_M) (x1 : Int32) (x2 : Int32) : Nat × Int32 × am_M := (if (f_CB_wantSource s x1) = 0 then (if x2 = (-1 : Int32) then (f_CB_ask_16 s x1 x2) else (if (f_CB_wantSourceColumn s x1 x2).1 = 0 then (f_CB_ask_16 (f_CB_wantSourceColumn s x1 x2).2 x1 x2) else ((f_CB_wantSourceColumn s x1 x2).1, 0, (f_CB_wantSourceColumn s x1 x2).2))) else ((f_CB_wantSource s x1), 0, s))
def p_CB_ask  (s : am_M) (x1 : Int32) (x2 : Int32) : Prop := (((f_CB_wantSource s x1) = 0) → ((x2 = (-1 : Int32)) → (p_CB_ask_16 s x1 x2)) ∧ (¬ (x2 = (-1 : Int32)) → p_CB_wantSourceColumn s x1 x2 ∧ ((((f_CB_wantSourceColumn s x1 x2).1 = 0) → (p_CB_ask_16 (f_CB_wantSourceColumn s x1 x2).2 x1 x2)))))
set_option maxRecDepth 8000 in
theorem w_CB_ask {l : Launch} {g : am_Gl} (hg : g.2.2.2.1 = true) {ad0 : Nat → Nat} {s : am_M} {x1 : Int32} {x2 : Int32} (h : p_CB_ask s x1 x2) : AW l g m_CB_ask 207 ad0 (am_oE (f_CB_ask s x1 x2)) 0 0 207 s 0 [(0, .ref 0), (1, .int x1), (2, .int x2)] [] := by
  refine am_aload_n (j := 0) d_CB_ask_0 rfl rfl ?_
  refine am_iload_n (j := 1) d_CB_ask_1 rfl rfl ?_
  refine ak_D (F := am_oE) (as := [.int x1]) (rest := []) d_CB_ask_2 cw_CB_ask_2 rfl rfl rfl (ct_CB_wantSource hg) rfl rfl (by decide) sh_0 rfl (Nat.le_of_ble_eq_true rfl) (by decide) (by decide) am_oE_x (fun c => ?_)
  have h := h c
  refine am_iload_n (j := 2) d_CB_ask_5 rfl rfl ?_
  refine am_iconst (v := (-1 : Int32)) d_CB_ask_6 (by decide) ?_
  refine aj_eq (F := am_oE) (tgt := 16) d_CB_ask_7 (by decide) (fun c => ?_) (fun c => ?_)
  · have h := h.1 c
    refine am_widen (k2 := 3) (z2 := 18) (by decide) (by decide) ?_
    exact w_CB_ask_16 hg h
  · have h := h.2 c
    refine am_aload_n (j := 0) d_CB_ask_10 rfl rfl ?_
    refine am_iload_n (j := 1) d_CB_ask_11 rfl rfl ?_
    refine am_iload_n (j := 2) d_CB_ask_12 rfl rfl ?_
    obtain ⟨hc, h⟩ := h
    refine ak_V (F := am_oE) (as := [.int x1, .int x2]) (rest := []) d_CB_ask_13 cw_CB_ask_13 rfl rfl rfl (ct_CB_wantSourceColumn hg hc) rfl rfl (by decide) sh_0 rfl (Nat.le_of_ble_eq_true rfl) (by decide) (by decide) am_oE_x (fun c => ?_)
    have h := h c
    refine am_widen (k2 := 3) (z2 := 18) (by decide) (by decide) ?_
    exact w_CB_ask_16 hg h
theorem ct_CB_ask {l : Launch} {g : am_Gl} (hg : g.2.2.2.1 = true) {s : am_M} {x1 : Int32} {x2 : Int32} (h : p_CB_ask s x1 x2) : AC l g m_CB_ask 207 s [.ref 0, .int x1, .int x2] (am_oE (f_CB_ask s x1 x2)) := am_enter ok_CB_ask rfl (Nat.le_of_ble_eq_true rfl) rfl (fun ad0 => w_CB_ask hg h)
theorem cw_CB_askCross_2 : am_cv m_CB_askCross m_CB_wantSource 269 1 := ⟨⟨ok_CB_wantSource, rfl, by decide +kernel, by decide, by decide⟩, aw_4_176, aw_4_178, as_3_13⟩
theorem cw_CB_askCross_8 : am_cv m_CB_askCross m_CB_wantSourceColumn 272 2 := ⟨⟨ok_CB_wantSourceColumn, rfl, by decide +kernel, by decide, by decide⟩, aw_4_188, aw_4_190, as_3_15⟩
theorem cw_CB_askCross_14 : am_cv m_CB_askCross m_CB_wantSourceColumn 272 2 := ⟨⟨ok_CB_wantSourceColumn, rfl, by decide +kernel, by decide, by decide⟩, aw_4_188, aw_4_190, as_3_15⟩
theorem cw_CB_askCross_21 : am_cv m_CB_askCross m_CB_wantSourceColumn 272 2 := ⟨⟨ok_CB_wantSourceColumn, rfl, by decide +kernel, by decide, by decide⟩, aw_4_188, aw_4_190, as_3_15⟩
theorem cw_CB_askCross_26 : am_cv m_CB_askCross m_CB_wantNoCross 275 1 := ⟨⟨ok_CB_wantNoCross, rfl, by decide +kernel, by decide, by decide⟩, aw_4_197, aw_4_199, as_4_0⟩
theorem cw_CB_askCross_30 : am_cv m_CB_askCross m_CB_wantQuestionPlace 284 0 := ⟨⟨ok_CB_wantQuestionPlace, rfl, by decide +kernel, by decide, by decide⟩, aw_4_206, aw_4_208, as_4_2⟩
theorem cw_CB_askCross_43 : am_cv m_CB_askCross m_AS_makeGathered 310 5 := ⟨⟨ok_AS_makeGathered, rfl, by decide +kernel, by decide, by decide⟩, aw_5_8, aw_5_9, aw_5_10⟩
def f_CB_askCross  (s : am_M) (x1 : Int32) (x2 : Int32) (x3 : Int32) (x4 : Int32) : Nat × Int32 × am_M := (if (f_CB_wantSource s x1) = 0 then (if (f_CB_wantSourceColumn s x1 x2).1 = 0 then (if (f_CB_wantSourceColumn (f_CB_wantSourceColumn s x1 x2).2 x1 x3).1 = 0 then (if (f_CB_wantSourceColumn (f_CB_wantSourceColumn (f_CB_wantSourceColumn s x1 x2).2 x1 x3).2 x1 x4).1 = 0 then (if (f_CB_wantNoCross (f_CB_wantSourceColumn (f_CB_wantSourceColumn (f_CB_wantSourceColumn s x1 x2).2 x1 x3).2 x1 x4).2 x1) = 0 then (if (f_CB_wantQuestionPlace (f_CB_wantSourceColumn (f_CB_wantSourceColumn (f_CB_wantSourceColumn s x1 x2).2 x1 x3).2 x1 x4).2) = 0 then (0, (f_AS_makeGathered (f_CB_wantSourceColumn (f_CB_wantSourceColumn (f_CB_wantSourceColumn s x1 x2).2 x1 x3).2 x1 x4).2 (2 : Int32) x1 x2 x3 x4).1, (f_AS_makeGathered (f_CB_wantSourceColumn (f_CB_wantSourceColumn (f_CB_wantSourceColumn s x1 x2).2 x1 x3).2 x1 x4).2 (2 : Int32) x1 x2 x3 x4).2) else ((f_CB_wantQuestionPlace (f_CB_wantSourceColumn (f_CB_wantSourceColumn (f_CB_wantSourceColumn s x1 x2).2 x1 x3).2 x1 x4).2), 0, (f_CB_wantSourceColumn (f_CB_wantSourceColumn (f_CB_wantSourceColumn s x1 x2).2 x1 x3).2 x1 x4).2)) else ((f_CB_wantNoCross (f_CB_wantSourceColumn (f_CB_wantSourceColumn (f_CB_wantSourceColumn s x1 x2).2 x1 x3).2 x1 x4).2 x1), 0, (f_CB_wantSourceColumn (f_CB_wantSourceColumn (f_CB_wantSourceColumn s x1 x2).2 x1 x3).2 x1 x4).2)) else ((f_CB_wantSourceColumn (f_CB_wantSourceColumn (f_CB_wantSourceColumn s x1 x2).2 x1 x3).2 x1 x4).1, 0, (f_CB_wantSourceColumn (f_CB_wantSourceColumn (f_CB_wantSourceColumn s x1 x2).2 x1 x3).2 x1 x4).2)) else ((f_CB_wantSourceColumn (f_CB_wantSourceColumn s x1 x2).2 x1 x3).1, 0, (f_CB_wantSourceColumn (f_CB_wantSourceColumn s x1 x2).2 x1 x3).2)) else ((f_CB_wantSourceColumn s x1 x2).1, 0, (f_CB_wantSourceColumn s x1 x2).2)) else ((f_CB_wantSource s x1), 0, s))
def p_CB_askCross  (s : am_M) (x1 : Int32) (x2 : Int32) (x3 : Int32) (x4 : Int32) : Prop := (((f_CB_wantSource s x1) = 0) → p_CB_wantSourceColumn s x1 x2 ∧ ((((f_CB_wantSourceColumn s x1 x2).1 = 0) → p_CB_wantSourceColumn (f_CB_wantSourceColumn s x1 x2).2 x1 x3 ∧ ((((f_CB_wantSourceColumn (f_CB_wantSourceColumn s x1 x2).2 x1 x3).1 = 0) → p_CB_wantSourceColumn (f_CB_wantSourceColumn (f_CB_wantSourceColumn s x1 x2).2 x1 x3).2 x1 x4 ∧ ((((f_CB_wantSourceColumn (f_CB_wantSourceColumn (f_CB_wantSourceColumn s x1 x2).2 x1 x3).2 x1 x4).1 = 0) → p_CB_wantNoCross (f_CB_wantSourceColumn (f_CB_wantSourceColumn (f_CB_wantSourceColumn s x1 x2).2 x1 x3).2 x1 x4).2 x1 ∧ ((((f_CB_wantNoCross (f_CB_wantSourceColumn (f_CB_wantSourceColumn (f_CB_wantSourceColumn s x1 x2).2 x1 x3).2 x1 x4).2 x1) = 0) → (((f_CB_wantQuestionPlace (f_CB_wantSourceColumn (f_CB_wantSourceColumn (f_CB_wantSourceColumn s x1 x2).2 x1 x3).2 x1 x4).2) = 0) → p_AS_makeGathered (f_CB_wantSourceColumn (f_CB_wantSourceColumn (f_CB_wantSourceColumn s x1 x2).2 x1 x3).2 x1 x4).2 (2 : Int32) x1 x2 x3 x4 ∧ (True)))))))))))
set_option maxRecDepth 8000 in
theorem w_CB_askCross {l : Launch} {g : am_Gl} (hg : g.2.2.2.1 = true) {ad0 : Nat → Nat} {s : am_M} {x1 : Int32} {x2 : Int32} {x3 : Int32} {x4 : Int32} (h : p_CB_askCross s x1 x2 x3 x4) : AW l g m_CB_askCross 207 ad0 (am_oE (f_CB_askCross s x1 x2 x3 x4)) 0 0 207 s 0 [(0, .ref 0), (1, .int x1), (2, .int x2), (3, .int x3), (4, .int x4)] [] := by
  refine am_aload_n (j := 0) d_CB_askCross_0 rfl rfl ?_
  refine am_iload_n (j := 1) d_CB_askCross_1 rfl rfl ?_
  refine ak_D (F := am_oE) (as := [.int x1]) (rest := []) d_CB_askCross_2 cw_CB_askCross_2 rfl rfl rfl (ct_CB_wantSource hg) rfl rfl (by decide) sh_0 rfl (Nat.le_of_ble_eq_true rfl) (by decide) (by decide) am_oE_x (fun c => ?_)
  have h := h c
  refine am_aload_n (j := 0) d_CB_askCross_5 rfl rfl ?_
  refine am_iload_n (j := 1) d_CB_askCross_6 rfl rfl ?_
  refine am_iload_n (j := 2) d_CB_askCross_7 rfl rfl ?_
  obtain ⟨hc, h⟩ := h
  refine ak_V (F := am_oE) (as := [.int x1, .int x2]) (rest := []) d_CB_askCross_8 cw_CB_askCross_8 rfl rfl rfl (ct_CB_wantSourceColumn hg hc) rfl rfl (by decide) sh_0 rfl (Nat.le_of_ble_eq_true rfl) (by decide) (by decide) am_oE_x (fun c => ?_)
  have h := h c
  refine am_aload_n (j := 0) d_CB_askCross_11 rfl rfl ?_
  refine am_iload_n (j := 1) d_CB_askCross_12 rfl rfl ?_
  refine am_iload_n (j := 3) d_CB_askCross_13 rfl rfl ?_
  obtain ⟨hc, h⟩ := h
  refine ak_V (F := am_oE) (as := [.int x1, .int x3]) (rest := []) d_CB_askCross_14 cw_CB_askCross_14 rfl rfl rfl (ct_CB_wantSourceColumn hg hc) rfl rfl (by decide) sh_0 rfl (Nat.le_of_ble_eq_true rfl) (by decide) (by decide) am_oE_x (fun c => ?_)
  have h := h c
  refine am_aload_n (j := 0) d_CB_askCross_17 rfl rfl ?_
  refine am_iload_n (j := 1) d_CB_askCross_18 rfl rfl ?_
  refine am_iload (j := 4) d_CB_askCross_19 rfl ?_
  obtain ⟨hc, h⟩ := h
  refine ak_V (F := am_oE) (as := [.int x1, .int x4]) (rest := []) d_CB_askCross_21 cw_CB_askCross_21 rfl rfl rfl (ct_CB_wantSourceColumn hg hc) rfl rfl (by decide) sh_0 rfl (Nat.le_of_ble_eq_true rfl) (by decide) (by decide) am_oE_x (fun c => ?_)
  have h := h c
  refine am_aload_n (j := 0) d_CB_askCross_24 rfl rfl ?_
  refine am_iload_n (j := 1) d_CB_askCross_25 rfl rfl ?_
  obtain ⟨hc, h⟩ := h
  refine ak_D (F := am_oE) (as := [.int x1]) (rest := []) d_CB_askCross_26 cw_CB_askCross_26 rfl rfl rfl (ct_CB_wantNoCross hg hc) rfl rfl (by decide) sh_0 rfl (Nat.le_of_ble_eq_true rfl) (by decide) (by decide) am_oE_x (fun c => ?_)
  have h := h c
  refine am_aload_n (j := 0) d_CB_askCross_29 rfl rfl ?_
  refine ak_D (F := am_oE) (as := []) (rest := []) d_CB_askCross_30 cw_CB_askCross_30 rfl rfl rfl (ct_CB_wantQuestionPlace hg) rfl rfl (by decide) sh_0 rfl (Nat.le_of_ble_eq_true rfl) (by decide) (by decide) am_oE_x (fun c => ?_)
  have h := h c
  refine am_aload_n (j := 0) d_CB_askCross_33 rfl rfl ?_
  refine am_getR (t := 52) d_CB_askCross_34 fl_CB_21 hg (by decide) sh_0 (by decide) rfl (by decide) lk_0_1 (by decide) ?_
  refine am_iconst (v := (2 : Int32)) d_CB_askCross_37 (by decide) ?_
  refine am_iload_n (j := 1) d_CB_askCross_38 rfl rfl ?_
  refine am_iload_n (j := 2) d_CB_askCross_39 rfl rfl ?_
  refine am_iload_n (j := 3) d_CB_askCross_40 rfl rfl ?_
  refine am_iload (j := 4) d_CB_askCross_41 rfl ?_
  obtain ⟨hc, h⟩ := h
  refine ak_VC (as := [.int (2 : Int32), .int x1, .int x2, .int x3, .int x4]) (rest := []) d_CB_askCross_43 cw_CB_askCross_43 rfl rfl rfl (ct_AS_makeGathered hg hc) rfl rfl (by decide) sh_52 rfl (Nat.le_of_ble_eq_true rfl) (by decide) (by decide) ?_
  exact am_iret d_CB_askCross_46 rfl rfl (by decide) (by decide) am_oE_ok
theorem ct_CB_askCross {l : Launch} {g : am_Gl} (hg : g.2.2.2.1 = true) {s : am_M} {x1 : Int32} {x2 : Int32} {x3 : Int32} {x4 : Int32} (h : p_CB_askCross s x1 x2 x3 x4) : AC l g m_CB_askCross 207 s [.ref 0, .int x1, .int x2, .int x3, .int x4] (am_oE (f_CB_askCross s x1 x2 x3 x4)) := am_enter ok_CB_askCross rfl (Nat.le_of_ble_eq_true rfl) rfl (fun ad0 => w_CB_askCross hg h)
theorem cw_CB_askGroups_2 : am_cv m_CB_askGroups m_CB_wantSource 269 1 := ⟨⟨ok_CB_wantSource, rfl, by decide +kernel, by decide, by decide⟩, aw_4_176, aw_4_178, as_3_13⟩
theorem cw_CB_askGroups_8 : am_cv m_CB_askGroups m_CB_wantSourceColumn 272 2 := ⟨⟨ok_CB_wantSourceColumn, rfl, by decide +kernel, by decide, by decide⟩, aw_4_188, aw_4_190, as_3_15⟩
theorem cw_CB_askGroups_14 : am_cv m_CB_askGroups m_CB_wantSourceColumn 272 2 := ⟨⟨ok_CB_wantSourceColumn, rfl, by decide +kernel, by decide, by decide⟩, aw_4_188, aw_4_190, as_3_15⟩
theorem cw_CB_askGroups_19 : am_cv m_CB_askGroups m_CB_wantNoCross 275 1 := ⟨⟨ok_CB_wantNoCross, rfl, by decide +kernel, by decide, by decide⟩, aw_4_197, aw_4_199, as_4_0⟩
theorem cw_CB_askGroups_23 : am_cv m_CB_askGroups m_CB_wantQuestionPlace 284 0 := ⟨⟨ok_CB_wantQuestionPlace, rfl, by decide +kernel, by decide, by decide⟩, aw_4_206, aw_4_208, as_4_2⟩
theorem cw_CB_askGroups_35 : am_cv m_CB_askGroups m_AS_makeGathered 310 5 := ⟨⟨ok_AS_makeGathered, rfl, by decide +kernel, by decide, by decide⟩, aw_5_8, aw_5_9, aw_5_10⟩
def f_CB_askGroups  (s : am_M) (x1 : Int32) (x2 : Int32) (x3 : Int32) : Nat × Int32 × am_M := (if (f_CB_wantSource s x1) = 0 then (if (f_CB_wantSourceColumn s x1 x2).1 = 0 then (if (f_CB_wantSourceColumn (f_CB_wantSourceColumn s x1 x2).2 x1 x3).1 = 0 then (if (f_CB_wantNoCross (f_CB_wantSourceColumn (f_CB_wantSourceColumn s x1 x2).2 x1 x3).2 x1) = 0 then (if (f_CB_wantQuestionPlace (f_CB_wantSourceColumn (f_CB_wantSourceColumn s x1 x2).2 x1 x3).2) = 0 then (0, (f_AS_makeGathered (f_CB_wantSourceColumn (f_CB_wantSourceColumn s x1 x2).2 x1 x3).2 (1 : Int32) x1 x2 (-1 : Int32) x3).1, (f_AS_makeGathered (f_CB_wantSourceColumn (f_CB_wantSourceColumn s x1 x2).2 x1 x3).2 (1 : Int32) x1 x2 (-1 : Int32) x3).2) else ((f_CB_wantQuestionPlace (f_CB_wantSourceColumn (f_CB_wantSourceColumn s x1 x2).2 x1 x3).2), 0, (f_CB_wantSourceColumn (f_CB_wantSourceColumn s x1 x2).2 x1 x3).2)) else ((f_CB_wantNoCross (f_CB_wantSourceColumn (f_CB_wantSourceColumn s x1 x2).2 x1 x3).2 x1), 0, (f_CB_wantSourceColumn (f_CB_wantSourceColumn s x1 x2).2 x1 x3).2)) else ((f_CB_wantSourceColumn (f_CB_wantSourceColumn s x1 x2).2 x1 x3).1, 0, (f_CB_wantSourceColumn (f_CB_wantSourceColumn s x1 x2).2 x1 x3).2)) else ((f_CB_wantSourceColumn s x1 x2).1, 0, (f_CB_wantSourceColumn s x1 x2).2)) else ((f_CB_wantSource s x1), 0, s))
def p_CB_askGroups  (s : am_M) (x1 : Int32) (x2 : Int32) (x3 : Int32) : Prop := (((f_CB_wantSource s x1) = 0) → p_CB_wantSourceColumn s x1 x2 ∧ ((((f_CB_wantSourceColumn s x1 x2).1 = 0) → p_CB_wantSourceColumn (f_CB_wantSourceColumn s x1 x2).2 x1 x3 ∧ ((((f_CB_wantSourceColumn (f_CB_wantSourceColumn s x1 x2).2 x1 x3).1 = 0) → p_CB_wantNoCross (f_CB_wantSourceColumn (f_CB_wantSourceColumn s x1 x2).2 x1 x3).2 x1 ∧ ((((f_CB_wantNoCross (f_CB_wantSourceColumn (f_CB_wantSourceColumn s x1 x2).2 x1 x3).2 x1) = 0) → (((f_CB_wantQuestionPlace (f_CB_wantSourceColumn (f_CB_wantSourceColumn s x1 x2).2 x1 x3).2) = 0) → p_AS_makeGathered (f_CB_wantSourceColumn (f_CB_wantSourceColumn s x1 x2).2 x1 x3).2 (1 : Int32) x1 x2 (-1 : Int32) x3 ∧ (True)))))))))
set_option maxRecDepth 8000 in
theorem w_CB_askGroups {l : Launch} {g : am_Gl} (hg : g.2.2.2.1 = true) {ad0 : Nat → Nat} {s : am_M} {x1 : Int32} {x2 : Int32} {x3 : Int32} (h : p_CB_askGroups s x1 x2 x3) : AW l g m_CB_askGroups 207 ad0 (am_oE (f_CB_askGroups s x1 x2 x3)) 0 0 207 s 0 [(0, .ref 0), (1, .int x1), (2, .int x2), (3, .int x3)] [] := by
  refine am_aload_n (j := 0) d_CB_askGroups_0 rfl rfl ?_
  refine am_iload_n (j := 1) d_CB_askGroups_1 rfl rfl ?_
  refine ak_D (F := am_oE) (as := [.int x1]) (rest := []) d_CB_askGroups_2 cw_CB_askGroups_2 rfl rfl rfl (ct_CB_wantSource hg) rfl rfl (by decide) sh_0 rfl (Nat.le_of_ble_eq_true rfl) (by decide) (by decide) am_oE_x (fun c => ?_)
  have h := h c
  refine am_aload_n (j := 0) d_CB_askGroups_5 rfl rfl ?_
  refine am_iload_n (j := 1) d_CB_askGroups_6 rfl rfl ?_
  refine am_iload_n (j := 2) d_CB_askGroups_7 rfl rfl ?_
  obtain ⟨hc, h⟩ := h
  refine ak_V (F := am_oE) (as := [.int x1, .int x2]) (rest := []) d_CB_askGroups_8 cw_CB_askGroups_8 rfl rfl rfl (ct_CB_wantSourceColumn hg hc) rfl rfl (by decide) sh_0 rfl (Nat.le_of_ble_eq_true rfl) (by decide) (by decide) am_oE_x (fun c => ?_)
  have h := h c
  refine am_aload_n (j := 0) d_CB_askGroups_11 rfl rfl ?_
  refine am_iload_n (j := 1) d_CB_askGroups_12 rfl rfl ?_
  refine am_iload_n (j := 3) d_CB_askGroups_13 rfl rfl ?_
  obtain ⟨hc, h⟩ := h
  refine ak_V (F := am_oE) (as := [.int x1, .int x3]) (rest := []) d_CB_askGroups_14 cw_CB_askGroups_14 rfl rfl rfl (ct_CB_wantSourceColumn hg hc) rfl rfl (by decide) sh_0 rfl (Nat.le_of_ble_eq_true rfl) (by decide) (by decide) am_oE_x (fun c => ?_)
  have h := h c
  refine am_aload_n (j := 0) d_CB_askGroups_17 rfl rfl ?_
  refine am_iload_n (j := 1) d_CB_askGroups_18 rfl rfl ?_
  obtain ⟨hc, h⟩ := h
  refine ak_D (F := am_oE) (as := [.int x1]) (rest := []) d_CB_askGroups_19 cw_CB_askGroups_19 rfl rfl rfl (ct_CB_wantNoCross hg hc) rfl rfl (by decide) sh_0 rfl (Nat.le_of_ble_eq_true rfl) (by decide) (by decide) am_oE_x (fun c => ?_)
  have h := h c
  refine am_aload_n (j := 0) d_CB_askGroups_22 rfl rfl ?_
  refine ak_D (F := am_oE) (as := []) (rest := []) d_CB_askGroups_23 cw_CB_askGroups_23 rfl rfl rfl (ct_CB_wantQuestionPlace hg) rfl rfl (by decide) sh_0 rfl (Nat.le_of_ble_eq_true rfl) (by decide) (by decide) am_oE_x (fun c => ?_)
  have h := h c
  refine am_aload_n (j := 0) d_CB_askGroups_26 rfl rfl ?_
  refine am_getR (t := 52) d_CB_askGroups_27 fl_CB_21 hg (by decide) sh_0 (by decide) rfl (by decide) lk_0_1 (by decide) ?_
  refine am_iconst (v := (1 : Int32)) d_CB_askGroups_30 (by decide) ?_
  refine am_iload_n (j := 1) d_CB_askGroups_31 rfl rfl ?_
  refine am_iload_n (j := 2) d_CB_askGroups_32 rfl rfl ?_
  refine am_iconst (v := (-1 : Int32)) d_CB_askGroups_33 (by decide) ?_
  refine am_iload_n (j := 3) d_CB_askGroups_34 rfl rfl ?_
  obtain ⟨hc, h⟩ := h
  refine ak_VC (as := [.int (1 : Int32), .int x1, .int x2, .int (-1 : Int32), .int x3]) (rest := []) d_CB_askGroups_35 cw_CB_askGroups_35 rfl rfl rfl (ct_AS_makeGathered hg hc) rfl rfl (by decide) sh_52 rfl (Nat.le_of_ble_eq_true rfl) (by decide) (by decide) ?_
  exact am_iret d_CB_askGroups_38 rfl rfl (by decide) (by decide) am_oE_ok
theorem ct_CB_askGroups {l : Launch} {g : am_Gl} (hg : g.2.2.2.1 = true) {s : am_M} {x1 : Int32} {x2 : Int32} {x3 : Int32} (h : p_CB_askGroups s x1 x2 x3) : AC l g m_CB_askGroups 207 s [.ref 0, .int x1, .int x2, .int x3] (am_oE (f_CB_askGroups s x1 x2 x3)) := am_enter ok_CB_askGroups rfl (Nat.le_of_ble_eq_true rfl) rfl (fun ad0 => w_CB_askGroups hg h)
theorem cw_CB_broken_5 : am_cv m_CB_broken m_BA_countBroken 206 1 := ⟨⟨ok_BA_countBroken, rfl, by decide +kernel, by decide, by decide⟩, aw_5_78, aw_2_200, aw_2_201⟩
def f_CB_broken  (s : am_M)  : Int32 × am_M := ((f_BA_countBroken s (1 : Int32)).1, (f_BA_countBroken s (1 : Int32)).2)
def p_CB_broken  (s : am_M)  : Prop := p_BA_countBroken s (1 : Int32) ∧ (True)
set_option maxRecDepth 8000 in
theorem w_CB_broken {l : Launch} {g : am_Gl} (hg : g.2.2.2.1 = true) {ad0 : Nat → Nat} {s : am_M}  (h : p_CB_broken s ) : AW l g m_CB_broken 207 ad0 (am_oC (f_CB_broken s )) 0 0 207 s 0 [(0, .ref 0)] [] := by
  refine am_aload_n (j := 0) d_CB_broken_0 rfl rfl ?_
  refine am_getR (t := 1) d_CB_broken_1 fl_CB_12 hg (by decide) sh_0 (by decide) rfl (by decide) lk_0_0 (by decide) ?_
  refine am_iconst (v := (1 : Int32)) d_CB_broken_4 (by decide) ?_
  obtain ⟨hc, h⟩ := h
  refine ak_VC (as := [.int (1 : Int32)]) (rest := []) d_CB_broken_5 cw_CB_broken_5 rfl rfl rfl (ct_BA_countBroken hg hc) rfl rfl (by decide) sh_1 rfl (Nat.le_of_ble_eq_true rfl) (by decide) (by decide) ?_
  exact am_iret d_CB_broken_8 rfl rfl (by decide) (by decide) am_oC_ok
theorem ct_CB_broken {l : Launch} {g : am_Gl} (hg : g.2.2.2.1 = true) {s : am_M}  (h : p_CB_broken s ) : AC l g m_CB_broken 207 s [.ref 0] (am_oC (f_CB_broken s )) := am_enter ok_CB_broken rfl (Nat.le_of_ble_eq_true rfl) rfl (fun ad0 => w_CB_broken hg h)
theorem cw_CB_wantRow_5 : am_cv m_CB_wantRow m_BA_hasTable 402 1 := ⟨⟨ok_BA_hasTable, rfl, by decide +kernel, by decide, by decide⟩, aw_2_38, aw_2_39, aw_2_40⟩
theorem cw_CB_wantRow_20 : am_cv m_CB_wantRow m_RO_has 257 2 := ⟨⟨ok_RO_has, rfl, by decide +kernel, by decide, by decide⟩, aw_3_27, aw_2_184, aw_2_185⟩
def f_CB_wantRow  (s : am_M) (x1 : Int32) (x2 : Int32) : Nat := (if (f_BA_hasTable s x1) = 0 then 1 else (if (f_RO_has s 8 x1 x2) = 0 then 1 else 0))
def p_CB_wantRow  (s : am_M) (x1 : Int32) (x2 : Int32) : Prop := (((f_BA_hasTable s x1) = 0) → True) ∧ (¬ ((f_BA_hasTable s x1) = 0) → p_RO_has s 8 x1 x2 ∧ ((((f_RO_has s 8 x1 x2) = 0) → True) ∧ (¬ ((f_RO_has s 8 x1 x2) = 0) → True)))
set_option maxRecDepth 8000 in
theorem w_CB_wantRow {l : Launch} {g : am_Gl} (hg : g.2.2.2.1 = true) {ad0 : Nat → Nat} {s : am_M} {x1 : Int32} {x2 : Int32} (h : p_CB_wantRow s x1 x2) : AW l g m_CB_wantRow 207 ad0 ((am_oD s) (f_CB_wantRow s x1 x2)) 0 0 207 s 0 [(0, .ref 0), (1, .int x1), (2, .int x2)] [] := by
  refine am_aload_n (j := 0) d_CB_wantRow_0 rfl rfl ?_
  refine am_getR (t := 1) d_CB_wantRow_1 fl_CB_12 hg (by decide) sh_0 (by decide) rfl (by decide) lk_0_0 (by decide) ?_
  refine am_iload_n (j := 1) d_CB_wantRow_4 rfl rfl ?_
  refine ak_VI (as := [.int x1]) (rest := []) d_CB_wantRow_5 cw_CB_wantRow_5 rfl rfl rfl (ct_BA_hasTable hg) rfl rfl (by decide) sh_1 rfl (Nat.le_of_ble_eq_true rfl) (by decide) (by decide) ?_
  refine ai_eq (F := (am_oD s)) (tgt := 26) d_CB_wantRow_8 (by decide) (fun c => ?_) (fun c => ?_)
  · have h := h.1 c
    exact am_throw d_CB_wantRow_26 d_CB_wantRow_29 d_CB_wantRow_30 d_CB_wantRow_33 tw_IOB rfl rfl (by decide) (by decide) (by decide) am_oD_1
  · have h := h.2 c
    refine am_aload_n (j := 0) d_CB_wantRow_11 rfl rfl ?_
    refine am_getR (t := 1) d_CB_wantRow_12 fl_CB_12 hg (by decide) sh_0 (by decide) rfl (by decide) lk_0_0 (by decide) ?_
    refine am_getR (t := 8) d_CB_wantRow_15 fl_CB_213 hg (by decide) sh_1 (by decide) rfl (by decide) lk_1_9 (by decide) ?_
    refine am_iload_n (j := 1) d_CB_wantRow_18 rfl rfl ?_
    refine am_iload_n (j := 2) d_CB_wantRow_19 rfl rfl ?_
    obtain ⟨hc, h⟩ := h
    refine ak_VI (as := [.int x1, .int x2]) (rest := []) d_CB_wantRow_20 cw_CB_wantRow_20 rfl rfl rfl (ct_RO_has hg hc) rfl rfl (by decide) sh_8 rfl (Nat.le_of_ble_eq_true rfl) (by decide) (by decide) ?_
    refine ai_ne (F := (am_oD s)) (tgt := 34) d_CB_wantRow_23 (by decide) (fun c => ?_) (fun c => ?_)
    · have h := h.2 c
      exact am_vret d_CB_wantRow_34 rfl (by decide) (by decide) am_oD_ok
    · have h := h.1 c
      exact am_throw d_CB_wantRow_26 d_CB_wantRow_29 d_CB_wantRow_30 d_CB_wantRow_33 tw_IOB rfl rfl (by decide) (by decide) (by decide) am_oD_1
theorem ct_CB_wantRow {l : Launch} {g : am_Gl} (hg : g.2.2.2.1 = true) {s : am_M} {x1 : Int32} {x2 : Int32} (h : p_CB_wantRow s x1 x2) : AC l g m_CB_wantRow 207 s [.ref 0, .int x1, .int x2] ((am_oD s) (f_CB_wantRow s x1 x2)) := am_enter ok_CB_wantRow rfl (Nat.le_of_ble_eq_true rfl) rfl (fun ad0 => w_CB_wantRow hg h)
theorem cw_CB_cell_3 : am_cv m_CB_cell m_CB_wantRow 228 2 := ⟨⟨ok_CB_wantRow, rfl, by decide +kernel, by decide, by decide⟩, aw_3_45, aw_3_47, as_1_6⟩
theorem cw_CB_cell_9 : am_cv m_CB_cell m_CB_wantColumn 99 2 := ⟨⟨ok_CB_wantColumn, rfl, by decide +kernel, by decide, by decide⟩, aw_3_14, aw_3_16, as_1_2⟩
theorem cw_CB_cell_22 : am_cv m_CB_cell m_RO_get 263 3 := ⟨⟨ok_RO_get, rfl, by decide +kernel, by decide, by decide⟩, aw_4_148, aw_2_180, aw_2_181⟩
def f_CB_cell  (s : am_M) (x1 : Int32) (x2 : Int32) (x3 : Int32) : Nat × Int32 × am_M := (if (f_CB_wantRow s x1 x2) = 0 then (if (f_CB_wantColumn s x1 x3) = 0 then (0, (f_RO_get s 8 x1 x2 x3), s) else ((f_CB_wantColumn s x1 x3), 0, s)) else ((f_CB_wantRow s x1 x2), 0, s))
def p_CB_cell  (s : am_M) (x1 : Int32) (x2 : Int32) (x3 : Int32) : Prop := p_CB_wantRow s x1 x2 ∧ ((((f_CB_wantRow s x1 x2) = 0) → p_CB_wantColumn s x1 x3 ∧ ((((f_CB_wantColumn s x1 x3) = 0) → p_RO_get s 8 x1 x2 x3 ∧ (True)))))
set_option maxRecDepth 8000 in
theorem w_CB_cell {l : Launch} {g : am_Gl} (hg : g.2.2.2.1 = true) {ad0 : Nat → Nat} {s : am_M} {x1 : Int32} {x2 : Int32} {x3 : Int32} (h : p_CB_cell s x1 x2 x3) : AW l g m_CB_cell 207 ad0 (am_oE (f_CB_cell s x1 x2 x3)) 0 0 207 s 0 [(0, .ref 0), (1, .int x1), (2, .int x2), (3, .int x3)] [] := by
  refine am_aload_n (j := 0) d_CB_cell_0 rfl rfl ?_
  refine am_iload_n (j := 1) d_CB_cell_1 rfl rfl ?_
  refine am_iload_n (j := 2) d_CB_cell_2 rfl rfl ?_
  obtain ⟨hc, h⟩ := h
  refine ak_D (F := am_oE) (as := [.int x1, .int x2]) (rest := []) d_CB_cell_3 cw_CB_cell_3 rfl rfl rfl (ct_CB_wantRow hg hc) rfl rfl (by decide) sh_0 rfl (Nat.le_of_ble_eq_true rfl) (by decide) (by decide) am_oE_x (fun c => ?_)
  have h := h c
  refine am_aload_n (j := 0) d_CB_cell_6 rfl rfl ?_
  refine am_iload_n (j := 1) d_CB_cell_7 rfl rfl ?_
  refine am_iload_n (j := 3) d_CB_cell_8 rfl rfl ?_
  obtain ⟨hc, h⟩ := h
  refine ak_D (F := am_oE) (as := [.int x1, .int x3]) (rest := []) d_CB_cell_9 cw_CB_cell_9 rfl rfl rfl (ct_CB_wantColumn hg hc) rfl rfl (by decide) sh_0 rfl (Nat.le_of_ble_eq_true rfl) (by decide) (by decide) am_oE_x (fun c => ?_)
  have h := h c
  refine am_aload_n (j := 0) d_CB_cell_12 rfl rfl ?_
  refine am_getR (t := 1) d_CB_cell_13 fl_CB_12 hg (by decide) sh_0 (by decide) rfl (by decide) lk_0_0 (by decide) ?_
  refine am_getR (t := 8) d_CB_cell_16 fl_CB_213 hg (by decide) sh_1 (by decide) rfl (by decide) lk_1_9 (by decide) ?_
  refine am_iload_n (j := 1) d_CB_cell_19 rfl rfl ?_
  refine am_iload_n (j := 2) d_CB_cell_20 rfl rfl ?_
  refine am_iload_n (j := 3) d_CB_cell_21 rfl rfl ?_
  obtain ⟨hc, h⟩ := h
  refine ak_VI (as := [.int x1, .int x2, .int x3]) (rest := []) d_CB_cell_22 cw_CB_cell_22 rfl rfl rfl (ct_RO_get hg hc) rfl rfl (by decide) sh_8 rfl (Nat.le_of_ble_eq_true rfl) (by decide) (by decide) ?_
  exact am_iret d_CB_cell_25 rfl rfl (by decide) (by decide) am_oE_ok
theorem ct_CB_cell {l : Launch} {g : am_Gl} (hg : g.2.2.2.1 = true) {s : am_M} {x1 : Int32} {x2 : Int32} {x3 : Int32} (h : p_CB_cell s x1 x2 x3) : AC l g m_CB_cell 207 s [.ref 0, .int x1, .int x2, .int x3] (am_oE (f_CB_cell s x1 x2 x3)) := am_enter ok_CB_cell rfl (Nat.le_of_ble_eq_true rfl) rfl (fun ad0 => w_CB_cell hg h)
theorem cw_CB_choice_3 : am_cv m_CB_choice m_CB_wantRow 228 2 := ⟨⟨ok_CB_wantRow, rfl, by decide +kernel, by decide, by decide⟩, aw_3_45, aw_3_47, as_1_6⟩
theorem cw_CB_choice_9 : am_cv m_CB_choice m_CB_wantColumn 99 2 := ⟨⟨ok_CB_wantColumn, rfl, by decide +kernel, by decide, by decide⟩, aw_3_14, aw_3_16, as_1_2⟩
theorem cw_CB_choice_15 : am_cv m_CB_choice m_CB_wantLink 162 2 := ⟨⟨ok_CB_wantLink, rfl, by decide +kernel, by decide, by decide⟩, aw_3_36, aw_3_38, as_1_5⟩
theorem cw_CB_choice_37 : am_cv m_CB_choice m_BA_column 102 2 := ⟨⟨ok_BA_column, rfl, by decide +kernel, by decide, by decide⟩, aw_3_40, aw_2_94, aw_2_95⟩
theorem cw_CB_choice_67 : am_cv m_CB_choice m_RO_has 257 2 := ⟨⟨ok_RO_has, rfl, by decide +kernel, by decide, by decide⟩, aw_3_27, aw_2_184, aw_2_185⟩
theorem cw_CB_choice_86 : am_cv m_CB_choice m_BA_couldPut 260 3 := ⟨⟨ok_BA_couldPut, rfl, by decide +kernel, by decide, by decide⟩, aw_4_139, aw_4_140, aw_4_141⟩
def f_CB_choice_95 (K49 : am_M → Int32 → Int32 → Int32 → Int32 → Int32 → Int32 → Nat × Int32 × am_M) (s : am_M) (x1 : Int32) (x2 : Int32) (x3 : Int32) (x4 : Int32) (x5 : Int32) (x6 : Int32) : Nat × Int32 × am_M := (K49 s x1 x2 x3 x4 x5 (x6 + (1 : Int32)))
def p_CB_choice_95 (KP49 : am_M → Int32 → Int32 → Int32 → Int32 → Int32 → Int32 → Prop) (s : am_M) (x1 : Int32) (x2 : Int32) (x3 : Int32) (x4 : Int32) (x5 : Int32) (x6 : Int32) : Prop := (KP49 s x1 x2 x3 x4 x5 (x6 + (1 : Int32)))
set_option maxRecDepth 8000 in
theorem w_CB_choice_95 {l : Launch} {g : am_Gl} (hg : g.2.2.2.1 = true) {ad0 : Nat → Nat} {K49 : am_M → Int32 → Int32 → Int32 → Int32 → Int32 → Int32 → Nat × Int32 × am_M} {KP49 : am_M → Int32 → Int32 → Int32 → Int32 → Int32 → Int32 → Prop} (hK49 : ∀ (s : am_M) (x1 : Int32) (x2 : Int32) (x3 : Int32) (x4 : Int32) (x5 : Int32) (x6 : Int32), KP49 s x1 x2 x3 x4 x5 x6 → AW l g m_CB_choice 207 ad0 (am_oE (K49 s x1 x2 x3 x4 x5 x6)) 3 18 207 s 49 [(0, .ref 0), (1, .int x1), (2, .int x2), (3, .int x3), (4, .int x4), (5, .int x5), (6, .int x6)] []) {s : am_M} {x1 : Int32} {x2 : Int32} {x3 : Int32} {x4 : Int32} {x5 : Int32} {x6 : Int32} (h : p_CB_choice_95 KP49 s x1 x2 x3 x4 x5 x6) : AW l g m_CB_choice 207 ad0 (am_oE (f_CB_choice_95 K49 s x1 x2 x3 x4 x5 x6)) 3 18 207 s 95 [(0, .ref 0), (1, .int x1), (2, .int x2), (3, .int x3), (4, .int x4), (5, .int x5), (6, .int x6)] [] := by
  refine am_iinc (j := 6) (v := (x6 + (1 : Int32))) (lv2 := [(6, .int (x6 + (1 : Int32))), (0, .ref 0), (1, .int x1), (2, .int x2), (3, .int x3), (4, .int x4), (5, .int x5)]) d_CB_choice_95 rfl rfl (by decide) rfl ?_
  refine am_goto (tgt := 49) d_CB_choice_98 (by decide) ?_
  refine am_sub [1, 2, 3, 4, 5, 6, 0] (lv2 := [(0, .ref 0), (1, .int x1), (2, .int x2), (3, .int x3), (4, .int x4), (5, .int x5), (6, .int (x6 + (1 : Int32)))]) rfl ?_
  refine am_widen (k2 := 3) (z2 := 18) (by decide) (by decide) ?_
  exact hK49 _ _ _ _ _ _ _ h
def f_CB_choice_49  : Nat → am_M → Int32 → Int32 → Int32 → Int32 → Int32 → Int32 → Nat × Int32 × am_M
  | 0, s, x1, x2, x3, x4, x5, x6 => (0, 0, s)
  | n + 1, s, x1, x2, x3, x4, x5, x6 => (if (30 : Int32) ≤ x6 then (0, (-1 : Int32), s) else (if (f_RO_has s 8 x5 x6) = 0 then (f_CB_choice_95 (f_CB_choice_49  n) s x1 x2 x3 x4 x5 x6) else (if (f_BA_couldPut s (((10 : Int32) * x1) + x3) x2 x6).1 = 0 then (f_CB_choice_95 (f_CB_choice_49  n) (f_BA_couldPut s (((10 : Int32) * x1) + x3) x2 x6).2 x1 x2 x3 x4 x5 x6) else (0, x6, (f_BA_couldPut s (((10 : Int32) * x1) + x3) x2 x6).2))))
def p_CB_choice_49  : Nat → am_M → Int32 → Int32 → Int32 → Int32 → Int32 → Int32 → Prop
  | 0, s, x1, x2, x3, x4, x5, x6 => False
  | n + 1, s, x1, x2, x3, x4, x5, x6 => (((30 : Int32) ≤ x6) → True) ∧ (¬ ((30 : Int32) ≤ x6) → p_RO_has s 8 x5 x6 ∧ ((((f_RO_has s 8 x5 x6) = 0) → (p_CB_choice_95 (p_CB_choice_49  n) s x1 x2 x3 x4 x5 x6)) ∧ (¬ ((f_RO_has s 8 x5 x6) = 0) → p_BA_couldPut s (((10 : Int32) * x1) + x3) x2 x6 ∧ ((((f_BA_couldPut s (((10 : Int32) * x1) + x3) x2 x6).1 = 0) → (p_CB_choice_95 (p_CB_choice_49  n) (f_BA_couldPut s (((10 : Int32) * x1) + x3) x2 x6).2 x1 x2 x3 x4 x5 x6)) ∧ (¬ ((f_BA_couldPut s (((10 : Int32) * x1) + x3) x2 x6).1 = 0) → True)))))
set_option maxRecDepth 8000 in
theorem w_CB_choice_49 {l : Launch} {g : am_Gl} (hg : g.2.2.2.1 = true) {ad0 : Nat → Nat}   : ∀ (n : Nat) (s : am_M) (x1 : Int32) (x2 : Int32) (x3 : Int32) (x4 : Int32) (x5 : Int32) (x6 : Int32), p_CB_choice_49  n s x1 x2 x3 x4 x5 x6 → AW l g m_CB_choice 207 ad0 (am_oE (f_CB_choice_49  n s x1 x2 x3 x4 x5 x6)) 3 18 207 s 49 [(0, .ref 0), (1, .int x1), (2, .int x2), (3, .int x3), (4, .int x4), (5, .int x5), (6, .int x6)] [] := by
  intro n
  induction n with
  | zero => intro s x1 x2 x3 x4 x5 x6 h; exact h.elim
  | succ n hK49 =>
    intro s x1 x2 x3 x4 x5 x6 h
    refine am_iload (j := 6) d_CB_choice_49 rfl ?_
    refine am_bipush (v := (30 : Int32)) d_CB_choice_51 (by decide) ?_
    refine aj_ge (F := am_oE) (tgt := 101) d_CB_choice_53 (by decide) (fun c => ?_) (fun c => ?_)
    · have h := h.1 c
      refine am_iconst (v := (-1 : Int32)) d_CB_choice_101 (by decide) ?_
      exact am_iret d_CB_choice_102 rfl rfl (by decide) (by decide) am_oE_ok
    · have h := h.2 c
      refine am_aload_n (j := 0) d_CB_choice_56 rfl rfl ?_
      refine am_getR (t := 1) d_CB_choice_57 fl_CB_12 hg (by decide) sh_0 (by decide) rfl (by decide) lk_0_0 (by decide) ?_
      refine am_getR (t := 8) d_CB_choice_60 fl_CB_213 hg (by decide) sh_1 (by decide) rfl (by decide) lk_1_9 (by decide) ?_
      refine am_iload (j := 5) d_CB_choice_63 rfl ?_
      refine am_iload (j := 6) d_CB_choice_65 rfl ?_
      obtain ⟨hc, h⟩ := h
      refine ak_VI (as := [.int x5, .int x6]) (rest := []) d_CB_choice_67 cw_CB_choice_67 rfl rfl rfl (ct_RO_has hg hc) rfl rfl (by decide) sh_8 rfl (Nat.le_of_ble_eq_true rfl) (by decide) (by decide) ?_
      refine ai_eq (F := am_oE) (tgt := 95) d_CB_choice_70 (by decide) (fun c => ?_) (fun c => ?_)
      · have h := h.1 c
        refine am_widen (k2 := 3) (z2 := 18) (by decide) (by decide) ?_
        exact w_CB_choice_95 hg hK49 h
      · have h := h.2 c
        refine am_aload_n (j := 0) d_CB_choice_73 rfl rfl ?_
        refine am_getR (t := 1) d_CB_choice_74 fl_CB_12 hg (by decide) sh_0 (by decide) rfl (by decide) lk_0_0 (by decide) ?_
        refine am_bipush (v := (10 : Int32)) d_CB_choice_77 (by decide) ?_
        refine am_iload_n (j := 1) d_CB_choice_79 rfl rfl ?_
        refine am_imul d_CB_choice_80 ?_
        refine am_iload_n (j := 3) d_CB_choice_81 rfl rfl ?_
        refine am_iadd d_CB_choice_82 ?_
        refine am_iload_n (j := 2) d_CB_choice_83 rfl rfl ?_
        refine am_iload (j := 6) d_CB_choice_84 rfl ?_
        obtain ⟨hc, h⟩ := h
        refine ak_VC (as := [.int (((10 : Int32) * x1) + x3), .int x2, .int x6]) (rest := []) d_CB_choice_86 cw_CB_choice_86 rfl rfl rfl (ct_BA_couldPut hg hc) rfl rfl (by decide) sh_1 rfl (Nat.le_of_ble_eq_true rfl) (by decide) (by decide) ?_
        refine ai_eq (F := am_oE) (tgt := 95) d_CB_choice_89 (by decide) (fun c => ?_) (fun c => ?_)
        · have h := h.1 c
          refine am_widen (k2 := 3) (z2 := 18) (by decide) (by decide) ?_
          exact w_CB_choice_95 hg hK49 h
        · have h := h.2 c
          refine am_iload (j := 6) d_CB_choice_92 rfl ?_
          exact am_iret d_CB_choice_94 rfl rfl (by decide) (by decide) am_oE_ok
def f_CB_choice  (s : am_M) (x1 : Int32) (x2 : Int32) (x3 : Int32) (x4 : Int32) : Nat × Int32 × am_M := (if (f_CB_wantRow s x1 x2) = 0 then (if (f_CB_wantColumn s x1 x3) = 0 then (if (f_CB_wantLink s x1 x3) = 0 then (if 0 ≤ x4 then (f_CB_choice_49 am_F s x1 x2 x3 x4 (s (f_BA_column s x1 x3) 3) x4) else (2, 0, s)) else ((f_CB_wantLink s x1 x3), 0, s)) else ((f_CB_wantColumn s x1 x3), 0, s)) else ((f_CB_wantRow s x1 x2), 0, s))
def p_CB_choice  (s : am_M) (x1 : Int32) (x2 : Int32) (x3 : Int32) (x4 : Int32) : Prop := p_CB_wantRow s x1 x2 ∧ ((((f_CB_wantRow s x1 x2) = 0) → p_CB_wantColumn s x1 x3 ∧ ((((f_CB_wantColumn s x1 x3) = 0) → p_CB_wantLink s x1 x3 ∧ ((((f_CB_wantLink s x1 x3) = 0) → ((0 ≤ x4) → p_BA_column s x1 x3 ∧ (((f_BA_column s x1 x3) < 207 ∧ am_sh (f_BA_column s x1 x3) = (0, 3, 11)) ∧ ((p_CB_choice_49 am_F s x1 x2 x3 x4 (s (f_BA_column s x1 x3) 3) x4)))) ∧ (¬ (0 ≤ x4) → True)))))))
set_option maxRecDepth 8000 in
theorem w_CB_choice {l : Launch} {g : am_Gl} (hg : g.2.2.2.1 = true) {ad0 : Nat → Nat} {s : am_M} {x1 : Int32} {x2 : Int32} {x3 : Int32} {x4 : Int32} (h : p_CB_choice s x1 x2 x3 x4) : AW l g m_CB_choice 207 ad0 (am_oE (f_CB_choice s x1 x2 x3 x4)) 0 0 207 s 0 [(0, .ref 0), (1, .int x1), (2, .int x2), (3, .int x3), (4, .int x4)] [] := by
  refine am_aload_n (j := 0) d_CB_choice_0 rfl rfl ?_
  refine am_iload_n (j := 1) d_CB_choice_1 rfl rfl ?_
  refine am_iload_n (j := 2) d_CB_choice_2 rfl rfl ?_
  obtain ⟨hc, h⟩ := h
  refine ak_D (F := am_oE) (as := [.int x1, .int x2]) (rest := []) d_CB_choice_3 cw_CB_choice_3 rfl rfl rfl (ct_CB_wantRow hg hc) rfl rfl (by decide) sh_0 rfl (Nat.le_of_ble_eq_true rfl) (by decide) (by decide) am_oE_x (fun c => ?_)
  have h := h c
  refine am_aload_n (j := 0) d_CB_choice_6 rfl rfl ?_
  refine am_iload_n (j := 1) d_CB_choice_7 rfl rfl ?_
  refine am_iload_n (j := 3) d_CB_choice_8 rfl rfl ?_
  obtain ⟨hc, h⟩ := h
  refine ak_D (F := am_oE) (as := [.int x1, .int x3]) (rest := []) d_CB_choice_9 cw_CB_choice_9 rfl rfl rfl (ct_CB_wantColumn hg hc) rfl rfl (by decide) sh_0 rfl (Nat.le_of_ble_eq_true rfl) (by decide) (by decide) am_oE_x (fun c => ?_)
  have h := h c
  refine am_aload_n (j := 0) d_CB_choice_12 rfl rfl ?_
  refine am_iload_n (j := 1) d_CB_choice_13 rfl rfl ?_
  refine am_iload_n (j := 3) d_CB_choice_14 rfl rfl ?_
  obtain ⟨hc, h⟩ := h
  refine ak_D (F := am_oE) (as := [.int x1, .int x3]) (rest := []) d_CB_choice_15 cw_CB_choice_15 rfl rfl rfl (ct_CB_wantLink hg hc) rfl rfl (by decide) sh_0 rfl (Nat.le_of_ble_eq_true rfl) (by decide) (by decide) am_oE_x (fun c => ?_)
  have h := h c
  refine am_iload (j := 4) d_CB_choice_18 rfl ?_
  refine ai_ge (F := am_oE) (tgt := 31) d_CB_choice_20 (by decide) (fun c => ?_) (fun c => ?_)
  · have h := h.1 c
    refine am_aload_n (j := 0) d_CB_choice_31 rfl rfl ?_
    refine am_getR (t := 1) d_CB_choice_32 fl_CB_12 hg (by decide) sh_0 (by decide) rfl (by decide) lk_0_0 (by decide) ?_
    refine am_iload_n (j := 1) d_CB_choice_35 rfl rfl ?_
    refine am_iload_n (j := 3) d_CB_choice_36 rfl rfl ?_
    obtain ⟨hc, h⟩ := h
    refine ak_VR (as := [.int x1, .int x3]) (rest := []) d_CB_choice_37 cw_CB_choice_37 rfl rfl rfl (ct_BA_column hg hc) rfl rfl (by decide) sh_1 rfl (Nat.le_of_ble_eq_true rfl) (by decide) (by decide) ?_
    obtain ⟨⟨b1, t1⟩, h⟩ := h
    refine am_getI d_CB_choice_40 fl_CB_254 b1 t1 (by decide) rfl ?_
    refine am_istore (lv2 := [(5, .int (s (f_BA_column s x1 x3) 3)), (0, .ref 0), (1, .int x1), (2, .int x2), (3, .int x3), (4, .int x4)]) d_CB_choice_43 (by decide) rfl ?_
    refine am_iload (j := 5) d_CB_choice_45 rfl ?_
    refine am_istore (lv2 := [(6, .int x4), (5, .int (s (f_BA_column s x1 x3) 3)), (0, .ref 0), (1, .int x1), (2, .int x2), (3, .int x3), (4, .int x4)]) d_CB_choice_47 (by decide) rfl ?_
    refine am_sub [2, 3, 4, 5, 6, 1, 0] (lv2 := [(0, .ref 0), (1, .int x1), (2, .int x2), (3, .int x3), (4, .int x4), (5, .int (s (f_BA_column s x1 x3) 3)), (6, .int x4)]) rfl ?_
    refine am_widen (k2 := 3) (z2 := 18) (by decide) (by decide) ?_
    exact w_CB_choice_49 hg am_F _ _ _ _ _ _ _ h
  · have h := h.2 c
    exact am_throw d_CB_choice_23 d_CB_choice_26 d_CB_choice_27 d_CB_choice_30 tw_IAE rfl rfl (by decide) (by decide) (by decide) am_oE_2
theorem ct_CB_choice {l : Launch} {g : am_Gl} (hg : g.2.2.2.1 = true) {s : am_M} {x1 : Int32} {x2 : Int32} {x3 : Int32} {x4 : Int32} (h : p_CB_choice s x1 x2 x3 x4) : AC l g m_CB_choice 207 s [.ref 0, .int x1, .int x2, .int x3, .int x4] (am_oE (f_CB_choice s x1 x2 x3 x4)) := am_enter ok_CB_choice rfl (Nat.le_of_ble_eq_true rfl) rfl (fun ad0 => w_CB_choice hg h)
theorem cw_CB_columns_2 : am_cv m_CB_columns m_CB_wantQuestion 313 1 := ⟨⟨ok_CB_wantQuestion, rfl, by decide +kernel, by decide, by decide⟩, aw_4_180, aw_4_182, as_3_14⟩
theorem cw_CB_columns_10 : am_cv m_CB_columns m_AS_widthOf 319 1 := ⟨⟨ok_AS_widthOf, rfl, by decide +kernel, by decide, by decide⟩, aw_4_192, aw_4_193, aw_4_194⟩
def f_CB_columns  (s : am_M) (x1 : Int32) : Nat × Int32 × am_M := (if (f_CB_wantQuestion s x1) = 0 then (0, (f_AS_widthOf s x1).1, (f_AS_widthOf s x1).2) else ((f_CB_wantQuestion s x1), 0, s))
def p_CB_columns  (s : am_M) (x1 : Int32) : Prop := (((f_CB_wantQuestion s x1) = 0) → p_AS_widthOf s x1 ∧ (True))
set_option maxRecDepth 8000 in
theorem w_CB_columns {l : Launch} {g : am_Gl} (hg : g.2.2.2.1 = true) {ad0 : Nat → Nat} {s : am_M} {x1 : Int32} (h : p_CB_columns s x1) : AW l g m_CB_columns 207 ad0 (am_oE (f_CB_columns s x1)) 0 0 207 s 0 [(0, .ref 0), (1, .int x1)] [] := by
  refine am_aload_n (j := 0) d_CB_columns_0 rfl rfl ?_
  refine am_iload_n (j := 1) d_CB_columns_1 rfl rfl ?_
  refine ak_D (F := am_oE) (as := [.int x1]) (rest := []) d_CB_columns_2 cw_CB_columns_2 rfl rfl rfl (ct_CB_wantQuestion hg) rfl rfl (by decide) sh_0 rfl (Nat.le_of_ble_eq_true rfl) (by decide) (by decide) am_oE_x (fun c => ?_)
  have h := h c
  refine am_aload_n (j := 0) d_CB_columns_5 rfl rfl ?_
  refine am_getR (t := 52) d_CB_columns_6 fl_CB_21 hg (by decide) sh_0 (by decide) rfl (by decide) lk_0_1 (by decide) ?_
  refine am_iload_n (j := 1) d_CB_columns_9 rfl rfl ?_
  obtain ⟨hc, h⟩ := h
  refine ak_VC (as := [.int x1]) (rest := []) d_CB_columns_10 cw_CB_columns_10 rfl rfl rfl (ct_AS_widthOf hg hc) rfl rfl (by decide) sh_52 rfl (Nat.le_of_ble_eq_true rfl) (by decide) (by decide) ?_
  exact am_iret d_CB_columns_13 rfl rfl (by decide) (by decide) am_oE_ok
theorem ct_CB_columns {l : Launch} {g : am_Gl} (hg : g.2.2.2.1 = true) {s : am_M} {x1 : Int32} (h : p_CB_columns s x1) : AC l g m_CB_columns 207 s [.ref 0, .int x1] (am_oE (f_CB_columns s x1)) := am_enter ok_CB_columns rfl (Nat.le_of_ble_eq_true rfl) rfl (fun ad0 => w_CB_columns hg h)
theorem cw_CB_wantQuestionColumn_2 : am_cv m_CB_wantQuestionColumn m_CB_wantQuestion 313 1 := ⟨⟨ok_CB_wantQuestion, rfl, by decide +kernel, by decide, by decide⟩, aw_4_180, aw_4_182, as_3_14⟩
theorem cw_CB_wantQuestionColumn_15 : am_cv m_CB_wantQuestionColumn m_AS_widthOf 319 1 := ⟨⟨ok_AS_widthOf, rfl, by decide +kernel, by decide, by decide⟩, aw_4_192, aw_4_193, aw_4_194⟩
def f_CB_wantQuestionColumn  (s : am_M) (x1 : Int32) (x2 : Int32) : Nat × am_M := (if (f_CB_wantQuestion s x1) = 0 then (if x2 < 0 then (1, s) else (if x2 < (f_AS_widthOf s x1).1 then (0, (f_AS_widthOf s x1).2) else (1, (f_AS_widthOf s x1).2))) else ((f_CB_wantQuestion s x1), s))
def p_CB_wantQuestionColumn  (s : am_M) (x1 : Int32) (x2 : Int32) : Prop := (((f_CB_wantQuestion s x1) = 0) → ((x2 < 0) → True) ∧ (¬ (x2 < 0) → p_AS_widthOf s x1 ∧ (((x2 < (f_AS_widthOf s x1).1) → True) ∧ (¬ (x2 < (f_AS_widthOf s x1).1) → True))))
set_option maxRecDepth 8000 in
theorem w_CB_wantQuestionColumn {l : Launch} {g : am_Gl} (hg : g.2.2.2.1 = true) {ad0 : Nat → Nat} {s : am_M} {x1 : Int32} {x2 : Int32} (h : p_CB_wantQuestionColumn s x1 x2) : AW l g m_CB_wantQuestionColumn 207 ad0 (am_oV (f_CB_wantQuestionColumn s x1 x2)) 0 0 207 s 0 [(0, .ref 0), (1, .int x1), (2, .int x2)] [] := by
  refine am_aload_n (j := 0) d_CB_wantQuestionColumn_0 rfl rfl ?_
  refine am_iload_n (j := 1) d_CB_wantQuestionColumn_1 rfl rfl ?_
  refine ak_D (F := am_oV) (as := [.int x1]) (rest := []) d_CB_wantQuestionColumn_2 cw_CB_wantQuestionColumn_2 rfl rfl rfl (ct_CB_wantQuestion hg) rfl rfl (by decide) sh_0 rfl (Nat.le_of_ble_eq_true rfl) (by decide) (by decide) am_oV_x (fun c => ?_)
  have h := h c
  refine am_iload_n (j := 2) d_CB_wantQuestionColumn_5 rfl rfl ?_
  refine ai_lt (F := am_oV) (tgt := 21) d_CB_wantQuestionColumn_6 (by decide) (fun c => ?_) (fun c => ?_)
  · have h := h.1 c
    exact am_throw d_CB_wantQuestionColumn_21 d_CB_wantQuestionColumn_24 d_CB_wantQuestionColumn_25 d_CB_wantQuestionColumn_28 tw_IOB rfl rfl (by decide) (by decide) (by decide) am_oV_1
  · have h := h.2 c
    refine am_iload_n (j := 2) d_CB_wantQuestionColumn_9 rfl rfl ?_
    refine am_aload_n (j := 0) d_CB_wantQuestionColumn_10 rfl rfl ?_
    refine am_getR (t := 52) d_CB_wantQuestionColumn_11 fl_CB_21 hg (by decide) sh_0 (by decide) rfl (by decide) lk_0_1 (by decide) ?_
    refine am_iload_n (j := 1) d_CB_wantQuestionColumn_14 rfl rfl ?_
    obtain ⟨hc, h⟩ := h
    refine ak_VC (as := [.int x1]) (rest := [.int x2]) d_CB_wantQuestionColumn_15 cw_CB_wantQuestionColumn_15 rfl rfl rfl (ct_AS_widthOf hg hc) rfl rfl (by decide) sh_52 rfl (Nat.le_of_ble_eq_true rfl) (by decide) (by decide) ?_
    refine aj_lt (F := am_oV) (tgt := 29) d_CB_wantQuestionColumn_18 (by decide) (fun c => ?_) (fun c => ?_)
    · have h := h.1 c
      exact am_vret d_CB_wantQuestionColumn_29 rfl (by decide) (by decide) am_oV_ok
    · have h := h.2 c
      exact am_throw d_CB_wantQuestionColumn_21 d_CB_wantQuestionColumn_24 d_CB_wantQuestionColumn_25 d_CB_wantQuestionColumn_28 tw_IOB rfl rfl (by decide) (by decide) (by decide) am_oV_1
theorem ct_CB_wantQuestionColumn {l : Launch} {g : am_Gl} (hg : g.2.2.2.1 = true) {s : am_M} {x1 : Int32} {x2 : Int32} (h : p_CB_wantQuestionColumn s x1 x2) : AC l g m_CB_wantQuestionColumn 207 s [.ref 0, .int x1, .int x2] (am_oV (f_CB_wantQuestionColumn s x1 x2)) := am_enter ok_CB_wantQuestionColumn rfl (Nat.le_of_ble_eq_true rfl) rfl (fun ad0 => w_CB_wantQuestionColumn hg h)
theorem cw_CB_wantPlain_5 : am_cv m_CB_wantPlain m_AS_question 298 1 := ⟨⟨ok_AS_question, rfl, by decide +kernel, by decide, by decide⟩, aw_3_182, aw_3_107, aw_3_108⟩
def f_CB_wantPlain  (s : am_M) (x1 : Int32) : Nat := (if (s (f_AS_question s x1) 0) = 0 then 0 else 2)
def p_CB_wantPlain  (s : am_M) (x1 : Int32) : Prop := p_AS_question s x1 ∧ (((f_AS_question s x1) < 207 ∧ am_sh (f_AS_question s x1) = (0, 4, 17)) ∧ ((((s (f_AS_question s x1) 0) = 0) → True) ∧ (¬ ((s (f_AS_question s x1) 0) = 0) → True)))
set_option maxRecDepth 8000 in
theorem w_CB_wantPlain {l : Launch} {g : am_Gl} (hg : g.2.2.2.1 = true) {ad0 : Nat → Nat} {s : am_M} {x1 : Int32} (h : p_CB_wantPlain s x1) : AW l g m_CB_wantPlain 207 ad0 ((am_oD s) (f_CB_wantPlain s x1)) 0 0 207 s 0 [(0, .ref 0), (1, .int x1)] [] := by
  refine am_aload_n (j := 0) d_CB_wantPlain_0 rfl rfl ?_
  refine am_getR (t := 52) d_CB_wantPlain_1 fl_CB_21 hg (by decide) sh_0 (by decide) rfl (by decide) lk_0_1 (by decide) ?_
  refine am_iload_n (j := 1) d_CB_wantPlain_4 rfl rfl ?_
  obtain ⟨hc, h⟩ := h
  refine ak_VR (as := [.int x1]) (rest := []) d_CB_wantPlain_5 cw_CB_wantPlain_5 rfl rfl rfl (ct_AS_question hg hc) rfl rfl (by decide) sh_52 rfl (Nat.le_of_ble_eq_true rfl) (by decide) (by decide) ?_
  obtain ⟨⟨b1, t1⟩, h⟩ := h
  refine am_getI d_CB_wantPlain_8 fl_CB_327 b1 t1 (by decide) rfl ?_
  refine ai_eq (F := (am_oD s)) (tgt := 22) d_CB_wantPlain_11 (by decide) (fun c => ?_) (fun c => ?_)
  · have h := h.1 c
    exact am_vret d_CB_wantPlain_22 rfl (by decide) (by decide) am_oD_ok
  · have h := h.2 c
    exact am_throw d_CB_wantPlain_14 d_CB_wantPlain_17 d_CB_wantPlain_18 d_CB_wantPlain_21 tw_IAE rfl rfl (by decide) (by decide) (by decide) am_oD_2
theorem ct_CB_wantPlain {l : Launch} {g : am_Gl} (hg : g.2.2.2.1 = true) {s : am_M} {x1 : Int32} (h : p_CB_wantPlain s x1) : AC l g m_CB_wantPlain 207 s [.ref 0, .int x1] ((am_oD s) (f_CB_wantPlain s x1)) := am_enter ok_CB_wantPlain rfl (Nat.le_of_ble_eq_true rfl) rfl (fun ad0 => w_CB_wantPlain hg h)
theorem cw_CB_condition_3 : am_cv m_CB_condition m_CB_wantQuestionColumn 290 2 := ⟨⟨ok_CB_wantQuestionColumn, rfl, by decide +kernel, by decide, by decide⟩, aw_4_230, aw_4_232, as_4_3⟩
theorem cw_CB_condition_8 : am_cv m_CB_condition m_CB_wantPlain 293 1 := ⟨⟨ok_CB_wantPlain, rfl, by decide +kernel, by decide, by decide⟩, aw_4_234, aw_4_236, as_4_4⟩
theorem cw_CB_condition_60 : am_cv m_CB_condition m_AS_question 298 1 := ⟨⟨ok_AS_question, rfl, by decide +kernel, by decide, by decide⟩, aw_3_182, aw_3_107, aw_3_108⟩
theorem cw_CB_condition_91 : am_cv m_CB_condition m_QU_addCondition 307 4 := ⟨⟨ok_QU_addCondition, rfl, by decide +kernel, by decide, by decide⟩, aw_5_0, aw_5_1, aw_5_2⟩
def f_CB_condition  (s : am_M) (x1 : Int32) (x2 : Int32) (x3 : Int32) (x4 : Int32) (x5 : Int32) : Nat × Int32 × am_M := (if (f_CB_wantQuestionColumn s x1 x3).1 = 0 then (if (f_CB_wantPlain (f_CB_wantQuestionColumn s x1 x3).2 x1) = 0 then (if x2 < 0 then (2, 0, (f_CB_wantQuestionColumn s x1 x3).2) else (if (3 : Int32) ≤ x2 then (2, 0, (f_CB_wantQuestionColumn s x1 x3).2) else (if x4 < 0 then (2, 0, (f_CB_wantQuestionColumn s x1 x3).2) else (if (3 : Int32) < x4 then (2, 0, (f_CB_wantQuestionColumn s x1 x3).2) else (if x5 < (-999999 : Int32) then (2, 0, (f_CB_wantQuestionColumn s x1 x3).2) else (if x5 ≤ (999999 : Int32) then (if ((f_CB_wantQuestionColumn s x1 x3).2 (f_AS_question (f_CB_wantQuestionColumn s x1 x3).2 x1) 12) < (6 : Int32) then (0, (f_QU_addCondition (f_CB_wantQuestionColumn s x1 x3).2 (f_AS_question (f_CB_wantQuestionColumn s x1 x3).2 x1) x2 x3 x4 x5).1, (f_QU_addCondition (f_CB_wantQuestionColumn s x1 x3).2 (f_AS_question (f_CB_wantQuestionColumn s x1 x3).2 x1) x2 x3 x4 x5).2) else (3, 0, (f_CB_wantQuestionColumn s x1 x3).2)) else (2, 0, (f_CB_wantQuestionColumn s x1 x3).2))))))) else ((f_CB_wantPlain (f_CB_wantQuestionColumn s x1 x3).2 x1), 0, (f_CB_wantQuestionColumn s x1 x3).2)) else ((f_CB_wantQuestionColumn s x1 x3).1, 0, (f_CB_wantQuestionColumn s x1 x3).2))
def p_CB_condition  (s : am_M) (x1 : Int32) (x2 : Int32) (x3 : Int32) (x4 : Int32) (x5 : Int32) : Prop := p_CB_wantQuestionColumn s x1 x3 ∧ ((((f_CB_wantQuestionColumn s x1 x3).1 = 0) → p_CB_wantPlain (f_CB_wantQuestionColumn s x1 x3).2 x1 ∧ ((((f_CB_wantPlain (f_CB_wantQuestionColumn s x1 x3).2 x1) = 0) → ((x2 < 0) → True) ∧ (¬ (x2 < 0) → (((3 : Int32) ≤ x2) → True) ∧ (¬ ((3 : Int32) ≤ x2) → ((x4 < 0) → True) ∧ (¬ (x4 < 0) → (((3 : Int32) < x4) → True) ∧ (¬ ((3 : Int32) < x4) → ((x5 < (-999999 : Int32)) → True) ∧ (¬ (x5 < (-999999 : Int32)) → ((x5 ≤ (999999 : Int32)) → p_AS_question (f_CB_wantQuestionColumn s x1 x3).2 x1 ∧ (((f_AS_question (f_CB_wantQuestionColumn s x1 x3).2 x1) < 207 ∧ am_sh (f_AS_question (f_CB_wantQuestionColumn s x1 x3).2 x1) = (0, 4, 17)) ∧ (((((f_CB_wantQuestionColumn s x1 x3).2 (f_AS_question (f_CB_wantQuestionColumn s x1 x3).2 x1) 12) < (6 : Int32)) → p_QU_addCondition (f_CB_wantQuestionColumn s x1 x3).2 (f_AS_question (f_CB_wantQuestionColumn s x1 x3).2 x1) x2 x3 x4 x5 ∧ (True)) ∧ (¬ (((f_CB_wantQuestionColumn s x1 x3).2 (f_AS_question (f_CB_wantQuestionColumn s x1 x3).2 x1) 12) < (6 : Int32)) → True)))) ∧ (¬ (x5 ≤ (999999 : Int32)) → True))))))))))
set_option maxRecDepth 8000 in
theorem w_CB_condition {l : Launch} {g : am_Gl} (hg : g.2.2.2.1 = true) {ad0 : Nat → Nat} {s : am_M} {x1 : Int32} {x2 : Int32} {x3 : Int32} {x4 : Int32} {x5 : Int32} (h : p_CB_condition s x1 x2 x3 x4 x5) : AW l g m_CB_condition 207 ad0 (am_oE (f_CB_condition s x1 x2 x3 x4 x5)) 0 0 207 s 0 [(0, .ref 0), (1, .int x1), (2, .int x2), (3, .int x3), (4, .int x4), (5, .int x5)] [] := by
  refine am_aload_n (j := 0) d_CB_condition_0 rfl rfl ?_
  refine am_iload_n (j := 1) d_CB_condition_1 rfl rfl ?_
  refine am_iload_n (j := 3) d_CB_condition_2 rfl rfl ?_
  obtain ⟨hc, h⟩ := h
  refine ak_V (F := am_oE) (as := [.int x1, .int x3]) (rest := []) d_CB_condition_3 cw_CB_condition_3 rfl rfl rfl (ct_CB_wantQuestionColumn hg hc) rfl rfl (by decide) sh_0 rfl (Nat.le_of_ble_eq_true rfl) (by decide) (by decide) am_oE_x (fun c => ?_)
  have h := h c
  refine am_aload_n (j := 0) d_CB_condition_6 rfl rfl ?_
  refine am_iload_n (j := 1) d_CB_condition_7 rfl rfl ?_
  obtain ⟨hc, h⟩ := h
  refine ak_D (F := am_oE) (as := [.int x1]) (rest := []) d_CB_condition_8 cw_CB_condition_8 rfl rfl rfl (ct_CB_wantPlain hg hc) rfl rfl (by decide) sh_0 rfl (Nat.le_of_ble_eq_true rfl) (by decide) (by decide) am_oE_x (fun c => ?_)
  have h := h c
  refine am_iload_n (j := 2) d_CB_condition_11 rfl rfl ?_
  refine ai_lt (F := am_oE) (tgt := 47) d_CB_condition_12 (by decide) (fun c => ?_) (fun c => ?_)
  · have h := h.1 c
    exact am_throw d_CB_condition_47 d_CB_condition_50 d_CB_condition_51 d_CB_condition_54 tw_IAE rfl rfl (by decide) (by decide) (by decide) am_oE_2
  · have h := h.2 c
    refine am_iload_n (j := 2) d_CB_condition_15 rfl rfl ?_
    refine am_iconst (v := (3 : Int32)) d_CB_condition_16 (by decide) ?_
    refine aj_ge (F := am_oE) (tgt := 47) d_CB_condition_17 (by decide) (fun c => ?_) (fun c => ?_)
    · have h := h.1 c
      exact am_throw d_CB_condition_47 d_CB_condition_50 d_CB_condition_51 d_CB_condition_54 tw_IAE rfl rfl (by decide) (by decide) (by decide) am_oE_2
    · have h := h.2 c
      refine am_iload (j := 4) d_CB_condition_20 rfl ?_
      refine ai_lt (F := am_oE) (tgt := 47) d_CB_condition_22 (by decide) (fun c => ?_) (fun c => ?_)
      · have h := h.1 c
        exact am_throw d_CB_condition_47 d_CB_condition_50 d_CB_condition_51 d_CB_condition_54 tw_IAE rfl rfl (by decide) (by decide) (by decide) am_oE_2
      · have h := h.2 c
        refine am_iload (j := 4) d_CB_condition_25 rfl ?_
        refine am_iconst (v := (3 : Int32)) d_CB_condition_27 (by decide) ?_
        refine aj_gt (F := am_oE) (tgt := 47) d_CB_condition_28 (by decide) (fun c => ?_) (fun c => ?_)
        · have h := h.1 c
          exact am_throw d_CB_condition_47 d_CB_condition_50 d_CB_condition_51 d_CB_condition_54 tw_IAE rfl rfl (by decide) (by decide) (by decide) am_oE_2
        · have h := h.2 c
          refine am_iload (j := 5) d_CB_condition_31 rfl ?_
          refine am_ldc_w (v := (-999999 : Int32)) d_CB_condition_33 aw_4_238 ?_
          refine aj_lt (F := am_oE) (tgt := 47) d_CB_condition_36 (by decide) (fun c => ?_) (fun c => ?_)
          · have h := h.1 c
            exact am_throw d_CB_condition_47 d_CB_condition_50 d_CB_condition_51 d_CB_condition_54 tw_IAE rfl rfl (by decide) (by decide) (by decide) am_oE_2
          · have h := h.2 c
            refine am_iload (j := 5) d_CB_condition_39 rfl ?_
            refine am_ldc_w (v := (999999 : Int32)) d_CB_condition_41 aw_4_239 ?_
            refine aj_le (F := am_oE) (tgt := 55) d_CB_condition_44 (by decide) (fun c => ?_) (fun c => ?_)
            · have h := h.1 c
              refine am_aload_n (j := 0) d_CB_condition_55 rfl rfl ?_
              refine am_getR (t := 52) d_CB_condition_56 fl_CB_21 hg (by decide) sh_0 (by decide) rfl (by decide) lk_0_1 (by decide) ?_
              refine am_iload_n (j := 1) d_CB_condition_59 rfl rfl ?_
              obtain ⟨hc, h⟩ := h
              refine ak_VR (as := [.int x1]) (rest := []) d_CB_condition_60 cw_CB_condition_60 rfl rfl rfl (ct_AS_question hg hc) rfl rfl (by decide) sh_52 rfl (Nat.le_of_ble_eq_true rfl) (by decide) (by decide) ?_
              refine am_astore (lv2 := [(6, .ref (f_AS_question (f_CB_wantQuestionColumn s x1 x3).2 x1)), (0, .ref 0), (1, .int x1), (2, .int x2), (3, .int x3), (4, .int x4), (5, .int x5)]) d_CB_condition_63 (by decide) rfl ?_
              refine am_aload (j := 0) d_CB_condition_65 rfl ?_
              obtain ⟨⟨b1, t1⟩, h⟩ := h
              refine am_getI d_CB_condition_67 fl_CB_302 b1 t1 (by decide) rfl ?_
              refine am_bipush (v := (6 : Int32)) d_CB_condition_70 (by decide) ?_
              refine aj_lt (F := am_oE) (tgt := 83) d_CB_condition_72 (by decide) (fun c => ?_) (fun c => ?_)
              · have h := h.1 c
                refine am_aload (j := 0) d_CB_condition_83 rfl ?_
                refine am_iload_n (j := 3) d_CB_condition_85 rfl rfl ?_
                refine am_iload_n (j := 4) d_CB_condition_86 rfl rfl ?_
                refine am_iload (j := 5) d_CB_condition_87 rfl ?_
                refine am_iload (j := 6) d_CB_condition_89 rfl ?_
                obtain ⟨hc, h⟩ := h
                refine ak_VC (as := [.int x2, .int x3, .int x4, .int x5]) (rest := []) d_CB_condition_91 cw_CB_condition_91 rfl rfl rfl (ct_QU_addCondition hg hc) rfl rfl b1 t1 rfl (Nat.le_of_ble_eq_true rfl) (by decide) (by decide) ?_
                exact am_iret d_CB_condition_94 rfl rfl (by decide) (by decide) am_oE_ok
              · have h := h.2 c
                exact am_throw d_CB_condition_75 d_CB_condition_78 d_CB_condition_79 d_CB_condition_82 tw_ISE rfl rfl (by decide) (by decide) (by decide) am_oE_3
            · have h := h.2 c
              exact am_throw d_CB_condition_47 d_CB_condition_50 d_CB_condition_51 d_CB_condition_54 tw_IAE rfl rfl (by decide) (by decide) (by decide) am_oE_2
theorem ct_CB_condition {l : Launch} {g : am_Gl} (hg : g.2.2.2.1 = true) {s : am_M} {x1 : Int32} {x2 : Int32} {x3 : Int32} {x4 : Int32} {x5 : Int32} (h : p_CB_condition s x1 x2 x3 x4 x5) : AC l g m_CB_condition 207 s [.ref 0, .int x1, .int x2, .int x3, .int x4, .int x5] (am_oE (f_CB_condition s x1 x2 x3 x4 x5)) := am_enter ok_CB_condition rfl (Nat.le_of_ble_eq_true rfl) rfl (fun ad0 => w_CB_condition hg h)
theorem cw_CB_drop_3 : am_cv m_CB_drop m_CB_wantColumn 99 2 := ⟨⟨ok_CB_wantColumn, rfl, by decide +kernel, by decide, by decide⟩, aw_3_14, aw_3_16, as_1_2⟩
theorem cw_CB_drop_9 : am_cv m_CB_drop m_CB_wantNotDropped 147 2 := ⟨⟨ok_CB_wantNotDropped, rfl, by decide +kernel, by decide, by decide⟩, aw_3_236, aw_3_238, as_3_1⟩
theorem cw_CB_drop_18 : am_cv m_CB_drop m_BA_isUsed 150 2 := ⟨⟨ok_BA_isUsed, rfl, by decide +kernel, by decide, by decide⟩, aw_4_85, aw_4_86, aw_4_87⟩
theorem cw_CB_drop_45 : am_cv m_CB_drop m_BA_refuse 155 3 := ⟨⟨ok_BA_refuse, rfl, by decide +kernel, by decide, by decide⟩, aw_3_207, aw_3_200, aw_3_201⟩
theorem cw_CB_drop_48 : am_cv m_CB_drop m_CB_tell 118 1 := ⟨⟨ok_CB_tell, rfl, by decide +kernel, by decide, by decide⟩, aw_3_1, aw_3_3, as_1_1⟩
theorem cw_CB_drop_30 : am_cv m_CB_drop m_AS_isUsed 154 2 := ⟨⟨ok_AS_isUsed, rfl, by decide +kernel, by decide, by decide⟩, aw_4_97, aw_4_98, aw_4_99⟩
theorem cw_CB_drop_58 : am_cv m_CB_drop m_BA_dropColumn 159 2 := ⟨⟨ok_BA_dropColumn, rfl, by decide +kernel, by decide, by decide⟩, aw_4_111, aw_4_112, aw_4_113⟩
theorem cw_CB_drop_63 : am_cv m_CB_drop m_CB_tell 118 1 := ⟨⟨ok_CB_tell, rfl, by decide +kernel, by decide, by decide⟩, aw_3_1, aw_3_3, as_1_1⟩
def f_CB_drop  (s : am_M) (x1 : Int32) (x2 : Int32) : Nat × Int32 × am_M := (if (f_CB_wantColumn s x1 x2) = 0 then (if (f_CB_wantNotDropped s x1 x2) = 0 then (if (f_BA_isUsed s x1 x2) = 0 then (if (f_AS_isUsed s x1 x2) = 0 then (0, (f_CB_tell (f_BA_dropColumn s x1 x2) (1 : Int32)).1, (f_CB_tell (f_BA_dropColumn s x1 x2) (1 : Int32)).2) else (0, (f_CB_tell (f_BA_refuse s (8 : Int32) x1 x2).2 (f_BA_refuse s (8 : Int32) x1 x2).1).1, (f_CB_tell (f_BA_refuse s (8 : Int32) x1 x2).2 (f_BA_refuse s (8 : Int32) x1 x2).1).2)) else (0, (f_CB_tell (f_BA_refuse s (8 : Int32) x1 x2).2 (f_BA_refuse s (8 : Int32) x1 x2).1).1, (f_CB_tell (f_BA_refuse s (8 : Int32) x1 x2).2 (f_BA_refuse s (8 : Int32) x1 x2).1).2)) else ((f_CB_wantNotDropped s x1 x2), 0, s)) else ((f_CB_wantColumn s x1 x2), 0, s))
def p_CB_drop  (s : am_M) (x1 : Int32) (x2 : Int32) : Prop := p_CB_wantColumn s x1 x2 ∧ ((((f_CB_wantColumn s x1 x2) = 0) → p_CB_wantNotDropped s x1 x2 ∧ ((((f_CB_wantNotDropped s x1 x2) = 0) → p_BA_isUsed s x1 x2 ∧ ((((f_BA_isUsed s x1 x2) = 0) → p_AS_isUsed s x1 x2 ∧ ((((f_AS_isUsed s x1 x2) = 0) → p_BA_dropColumn s x1 x2 ∧ (p_CB_tell (f_BA_dropColumn s x1 x2) (1 : Int32) ∧ (((f_CB_tell (f_BA_dropColumn s x1 x2) (1 : Int32)).1 = 0 ∨ (f_CB_tell (f_BA_dropColumn s x1 x2) (1 : Int32)).1 = 1) ∧ (True)))) ∧ (¬ ((f_AS_isUsed s x1 x2) = 0) → p_BA_refuse s (8 : Int32) x1 x2 ∧ (p_CB_tell (f_BA_refuse s (8 : Int32) x1 x2).2 (f_BA_refuse s (8 : Int32) x1 x2).1 ∧ (((f_CB_tell (f_BA_refuse s (8 : Int32) x1 x2).2 (f_BA_refuse s (8 : Int32) x1 x2).1).1 = 0 ∨ (f_CB_tell (f_BA_refuse s (8 : Int32) x1 x2).2 (f_BA_refuse s (8 : Int32) x1 x2).1).1 = 1) ∧ (True)))))) ∧ (¬ ((f_BA_isUsed s x1 x2) = 0) → p_BA_refuse s (8 : Int32) x1 x2 ∧ (p_CB_tell (f_BA_refuse s (8 : Int32) x1 x2).2 (f_BA_refuse s (8 : Int32) x1 x2).1 ∧ (((f_CB_tell (f_BA_refuse s (8 : Int32) x1 x2).2 (f_BA_refuse s (8 : Int32) x1 x2).1).1 = 0 ∨ (f_CB_tell (f_BA_refuse s (8 : Int32) x1 x2).2 (f_BA_refuse s (8 : Int32) x1 x2).1).1 = 1) ∧ (True)))))))))
set_option maxRecDepth 8000 in
theorem w_CB_drop {l : Launch} {g : am_Gl} (hg : g.2.2.2.1 = true) {ad0 : Nat → Nat} {s : am_M} {x1 : Int32} {x2 : Int32} (h : p_CB_drop s x1 x2) : AW l g m_CB_drop 207 ad0 (am_oE (f_CB_drop s x1 x2)) 0 0 207 s 0 [(0, .ref 0), (1, .int x1), (2, .int x2)] [] := by
  refine am_aload_n (j := 0) d_CB_drop_0 rfl rfl ?_
  refine am_iload_n (j := 1) d_CB_drop_1 rfl rfl ?_
  refine am_iload_n (j := 2) d_CB_drop_2 rfl rfl ?_
  obtain ⟨hc, h⟩ := h
  refine ak_D (F := am_oE) (as := [.int x1, .int x2]) (rest := []) d_CB_drop_3 cw_CB_drop_3 rfl rfl rfl (ct_CB_wantColumn hg hc) rfl rfl (by decide) sh_0 rfl (Nat.le_of_ble_eq_true rfl) (by decide) (by decide) am_oE_x (fun c => ?_)
  have h := h c
  refine am_aload_n (j := 0) d_CB_drop_6 rfl rfl ?_
  refine am_iload_n (j := 1) d_CB_drop_7 rfl rfl ?_
  refine am_iload_n (j := 2) d_CB_drop_8 rfl rfl ?_
  obtain ⟨hc, h⟩ := h
  refine ak_D (F := am_oE) (as := [.int x1, .int x2]) (rest := []) d_CB_drop_9 cw_CB_drop_9 rfl rfl rfl (ct_CB_wantNotDropped hg hc) rfl rfl (by decide) sh_0 rfl (Nat.le_of_ble_eq_true rfl) (by decide) (by decide) am_oE_x (fun c => ?_)
  have h := h c
  refine am_aload_n (j := 0) d_CB_drop_12 rfl rfl ?_
  refine am_getR (t := 1) d_CB_drop_13 fl_CB_12 hg (by decide) sh_0 (by decide) rfl (by decide) lk_0_0 (by decide) ?_
  refine am_iload_n (j := 1) d_CB_drop_16 rfl rfl ?_
  refine am_iload_n (j := 2) d_CB_drop_17 rfl rfl ?_
  obtain ⟨hc, h⟩ := h
  refine ak_VI (as := [.int x1, .int x2]) (rest := []) d_CB_drop_18 cw_CB_drop_18 rfl rfl rfl (ct_BA_isUsed hg hc) rfl rfl (by decide) sh_1 rfl (Nat.le_of_ble_eq_true rfl) (by decide) (by decide) ?_
  refine ai_ne (F := am_oE) (tgt := 36) d_CB_drop_21 (by decide) (fun c => ?_) (fun c => ?_)
  · have h := h.2 c
    refine am_aload_n (j := 0) d_CB_drop_36 rfl rfl ?_
    refine am_aload_n (j := 0) d_CB_drop_37 rfl rfl ?_
    refine am_getR (t := 1) d_CB_drop_38 fl_CB_12 hg (by decide) sh_0 (by decide) rfl (by decide) lk_0_0 (by decide) ?_
    refine am_bipush (v := (8 : Int32)) d_CB_drop_41 (by decide) ?_
    refine am_iload_n (j := 1) d_CB_drop_43 rfl rfl ?_
    refine am_iload_n (j := 2) d_CB_drop_44 rfl rfl ?_
    obtain ⟨hc, h⟩ := h
    refine ak_VC (as := [.int (8 : Int32), .int x1, .int x2]) (rest := [.ref 0]) d_CB_drop_45 cw_CB_drop_45 rfl rfl rfl (ct_BA_refuse hg hc) rfl rfl (by decide) sh_1 rfl (Nat.le_of_ble_eq_true rfl) (by decide) (by decide) ?_
    obtain ⟨hc, h⟩ := h
    refine ak_VC (as := [.int (f_BA_refuse s (8 : Int32) x1 x2).1]) (rest := []) d_CB_drop_48 cw_CB_drop_48 rfl rfl rfl (ct_CB_tell hg hc) rfl rfl (by decide) sh_0 rfl (Nat.le_of_ble_eq_true rfl) (by decide) (by decide) ?_
    obtain ⟨hz, h⟩ := h
    exact am_iret d_CB_drop_51 rfl (am_bool hz).1 (by decide) (by decide) am_oE_ok
  · have h := h.1 c
    refine am_aload_n (j := 0) d_CB_drop_24 rfl rfl ?_
    refine am_getR (t := 52) d_CB_drop_25 fl_CB_21 hg (by decide) sh_0 (by decide) rfl (by decide) lk_0_1 (by decide) ?_
    refine am_iload_n (j := 1) d_CB_drop_28 rfl rfl ?_
    refine am_iload_n (j := 2) d_CB_drop_29 rfl rfl ?_
    obtain ⟨hc, h⟩ := h
    refine ak_VI (as := [.int x1, .int x2]) (rest := []) d_CB_drop_30 cw_CB_drop_30 rfl rfl rfl (ct_AS_isUsed hg hc) rfl rfl (by decide) sh_52 rfl (Nat.le_of_ble_eq_true rfl) (by decide) (by decide) ?_
    refine ai_eq (F := am_oE) (tgt := 52) d_CB_drop_33 (by decide) (fun c => ?_) (fun c => ?_)
    · have h := h.1 c
      refine am_aload_n (j := 0) d_CB_drop_52 rfl rfl ?_
      refine am_getR (t := 1) d_CB_drop_53 fl_CB_12 hg (by decide) sh_0 (by decide) rfl (by decide) lk_0_0 (by decide) ?_
      refine am_iload_n (j := 1) d_CB_drop_56 rfl rfl ?_
      refine am_iload_n (j := 2) d_CB_drop_57 rfl rfl ?_
      obtain ⟨hc, h⟩ := h
      refine ak_VM (as := [.int x1, .int x2]) (rest := []) d_CB_drop_58 cw_CB_drop_58 rfl rfl rfl (ct_BA_dropColumn hg hc) rfl rfl (by decide) sh_1 rfl (Nat.le_of_ble_eq_true rfl) (by decide) (by decide) ?_
      refine am_aload_n (j := 0) d_CB_drop_61 rfl rfl ?_
      refine am_iconst (v := (1 : Int32)) d_CB_drop_62 (by decide) ?_
      obtain ⟨hc, h⟩ := h
      refine ak_VC (as := [.int (1 : Int32)]) (rest := []) d_CB_drop_63 cw_CB_drop_63 rfl rfl rfl (ct_CB_tell hg hc) rfl rfl (by decide) sh_0 rfl (Nat.le_of_ble_eq_true rfl) (by decide) (by decide) ?_
      obtain ⟨hz, h⟩ := h
      exact am_iret d_CB_drop_66 rfl (am_bool hz).1 (by decide) (by decide) am_oE_ok
    · have h := h.2 c
      refine am_aload_n (j := 0) d_CB_drop_36 rfl rfl ?_
      refine am_aload_n (j := 0) d_CB_drop_37 rfl rfl ?_
      refine am_getR (t := 1) d_CB_drop_38 fl_CB_12 hg (by decide) sh_0 (by decide) rfl (by decide) lk_0_0 (by decide) ?_
      refine am_bipush (v := (8 : Int32)) d_CB_drop_41 (by decide) ?_
      refine am_iload_n (j := 1) d_CB_drop_43 rfl rfl ?_
      refine am_iload_n (j := 2) d_CB_drop_44 rfl rfl ?_
      obtain ⟨hc, h⟩ := h
      refine ak_VC (as := [.int (8 : Int32), .int x1, .int x2]) (rest := [.ref 0]) d_CB_drop_45 cw_CB_drop_45 rfl rfl rfl (ct_BA_refuse hg hc) rfl rfl (by decide) sh_1 rfl (Nat.le_of_ble_eq_true rfl) (by decide) (by decide) ?_
      obtain ⟨hc, h⟩ := h
      refine ak_VC (as := [.int (f_BA_refuse s (8 : Int32) x1 x2).1]) (rest := []) d_CB_drop_48 cw_CB_drop_48 rfl rfl rfl (ct_CB_tell hg hc) rfl rfl (by decide) sh_0 rfl (Nat.le_of_ble_eq_true rfl) (by decide) (by decide) ?_
      obtain ⟨hz, h⟩ := h
      exact am_iret d_CB_drop_51 rfl (am_bool hz).1 (by decide) (by decide) am_oE_ok
theorem ct_CB_drop {l : Launch} {g : am_Gl} (hg : g.2.2.2.1 = true) {s : am_M} {x1 : Int32} {x2 : Int32} (h : p_CB_drop s x1 x2) : AC l g m_CB_drop 207 s [.ref 0, .int x1, .int x2] (am_oE (f_CB_drop s x1 x2)) := am_enter ok_CB_drop rfl (Nat.le_of_ble_eq_true rfl) rfl (fun ad0 => w_CB_drop hg h)
def f_CB_forgetOldest_38  (s : am_M) (x1 : Nat) (x2 : Int32) : am_M := (am_set s 182 (((6 : Int32) - (1 : Int32))).toNatClampNeg (nI x1))
def p_CB_forgetOldest_38  (s : am_M) (x1 : Nat) (x2 : Int32) : Prop := (x1 < 207 ∧ am_sh x1 = (0, 6, 3)) ∧ (vp_in ((6 : Int32) - (1 : Int32)) 6 ∧ (True))
set_option maxRecDepth 8000 in
theorem w_CB_forgetOldest_38 {l : Launch} {g : am_Gl} (hg : g.2.2.2.1 = true) {ad0 : Nat → Nat}  {s : am_M} {x1 : Nat} {x2 : Int32} (h : p_CB_forgetOldest_38  s x1 x2) : AW l g m_CB_forgetOldest 207 ad0 (am_oM (f_CB_forgetOldest_38  s x1 x2)) 0 0 207 s 38 [(0, .ref 0), (1, .ref x1), (2, .int x2)] [] := by
  refine am_aload_n (j := 0) d_CB_forgetOldest_38 rfl rfl ?_
  refine am_getR (t := 182) d_CB_forgetOldest_39 fl_CB_52 hg (by decide) sh_0 (by decide) rfl (by decide) lk_0_6 (by decide) ?_
  refine am_aload_n (j := 0) d_CB_forgetOldest_42 rfl rfl ?_
  refine am_getR (t := 182) d_CB_forgetOldest_43 fl_CB_52 hg (by decide) sh_0 (by decide) rfl (by decide) lk_0_6 (by decide) ?_
  refine am_alen (v := (6 : Int32)) d_CB_forgetOldest_46 (by decide) sh_182 (by decide) (by decide) ?_
  refine am_iconst (v := (1 : Int32)) d_CB_forgetOldest_47 (by decide) ?_
  refine am_isub d_CB_forgetOldest_48 ?_
  refine am_aload_n (j := 1) d_CB_forgetOldest_49 rfl rfl ?_
  obtain ⟨⟨b1, t1⟩, h⟩ := h
  obtain ⟨hv, h⟩ := h
  refine am_aast (y := nI x1) d_CB_forgetOldest_50 (by decide) sh_182 (by decide) hv b1 t1 rfl (am_rvN b1) ?_
  exact am_vret d_CB_forgetOldest_51 rfl (by decide) (by decide) am_oM_ok
def f_CB_forgetOldest_9  : Nat → am_M → Nat → Int32 → am_M
  | 0, s, x1, x2 => s
  | n + 1, s, x1, x2 => (if (6 : Int32) ≤ x2 then (f_CB_forgetOldest_38 s x1 x2) else ((f_CB_forgetOldest_9  n) (am_set s 182 ((x2 - (1 : Int32))).toNatClampNeg (nI ((s 182 (x2).toNatClampNeg)).toNatClampNeg)) x1 (x2 + (1 : Int32))))
def p_CB_forgetOldest_9  : Nat → am_M → Nat → Int32 → Prop
  | 0, s, x1, x2 => False
  | n + 1, s, x1, x2 => (((6 : Int32) ≤ x2) → (p_CB_forgetOldest_38 s x1 x2)) ∧ (¬ ((6 : Int32) ≤ x2) → vp_in x2 6 ∧ (¬ ((s 182 (x2).toNatClampNeg) < 0) ∧ ((((s 182 (x2).toNatClampNeg)).toNatClampNeg < 207 ∧ am_sh ((s 182 (x2).toNatClampNeg)).toNatClampNeg = (0, 6, 3)) ∧ (vp_in (x2 - (1 : Int32)) 6 ∧ (((p_CB_forgetOldest_9  n) (am_set s 182 ((x2 - (1 : Int32))).toNatClampNeg (nI ((s 182 (x2).toNatClampNeg)).toNatClampNeg)) x1 (x2 + (1 : Int32))))))))
set_option maxRecDepth 8000 in
theorem w_CB_forgetOldest_9 {l : Launch} {g : am_Gl} (hg : g.2.2.2.1 = true) {ad0 : Nat → Nat}   : ∀ (n : Nat) (s : am_M) (x1 : Nat) (x2 : Int32), p_CB_forgetOldest_9  n s x1 x2 → AW l g m_CB_forgetOldest 207 ad0 (am_oM (f_CB_forgetOldest_9  n s x1 x2)) 0 0 207 s 9 [(0, .ref 0), (1, .ref x1), (2, .int x2)] [] := by
  intro n
  induction n with
  | zero => intro s x1 x2 h; exact h.elim
  | succ n hK9 =>
    intro s x1 x2 h
    refine am_iload_n (j := 2) d_CB_forgetOldest_9 rfl rfl ?_
    refine am_aload_n (j := 0) d_CB_forgetOldest_10 rfl rfl ?_
    refine am_getR (t := 182) d_CB_forgetOldest_11 fl_CB_52 hg (by decide) sh_0 (by decide) rfl (by decide) lk_0_6 (by decide) ?_
    refine am_alen (v := (6 : Int32)) d_CB_forgetOldest_14 (by decide) sh_182 (by decide) (by decide) ?_
    refine aj_ge (F := am_oM) (tgt := 38) d_CB_forgetOldest_15 (by decide) (fun c => ?_) (fun c => ?_)
    · have h := h.1 c
      exact w_CB_forgetOldest_38 hg h
    · have h := h.2 c
      refine am_aload_n (j := 0) d_CB_forgetOldest_18 rfl rfl ?_
      refine am_getR (t := 182) d_CB_forgetOldest_19 fl_CB_52 hg (by decide) sh_0 (by decide) rfl (by decide) lk_0_6 (by decide) ?_
      refine am_iload_n (j := 2) d_CB_forgetOldest_22 rfl rfl ?_
      refine am_iconst (v := (1 : Int32)) d_CB_forgetOldest_23 (by decide) ?_
      refine am_isub d_CB_forgetOldest_24 ?_
      refine am_aload_n (j := 0) d_CB_forgetOldest_25 rfl rfl ?_
      refine am_getR (t := 182) d_CB_forgetOldest_26 fl_CB_52 hg (by decide) sh_0 (by decide) rfl (by decide) lk_0_6 (by decide) ?_
      refine am_iload_n (j := 2) d_CB_forgetOldest_29 rfl rfl ?_
      obtain ⟨hv, h⟩ := h
      obtain ⟨h0, h⟩ := h
      obtain ⟨⟨b1, t1⟩, h⟩ := h
      refine am_aald d_CB_forgetOldest_30 (by decide) sh_182 (by decide) hv (am_rv9 h0 b1) b1 ?_
      obtain ⟨hv, h⟩ := h
      refine am_aast (y := nI ((s 182 (x2).toNatClampNeg)).toNatClampNeg) d_CB_forgetOldest_31 (by decide) sh_182 (by decide) hv b1 t1 rfl (am_rvN b1) ?_
      refine am_iinc (j := 2) (v := (x2 + (1 : Int32))) (lv2 := [(2, .int (x2 + (1 : Int32))), (0, .ref 0), (1, .ref x1)]) d_CB_forgetOldest_32 rfl rfl (by decide) rfl ?_
      refine am_goto (tgt := 9) d_CB_forgetOldest_35 (by decide) ?_
      refine am_sub [1, 2, 0] (lv2 := [(0, .ref 0), (1, .ref x1), (2, .int (x2 + (1 : Int32)))]) rfl ?_
      exact hK9 _ _ _ h
def f_CB_forgetOldest  (s : am_M)  : am_M := (f_CB_forgetOldest_9 am_F s ((s 182 ((0 : Int32)).toNatClampNeg)).toNatClampNeg (1 : Int32))
def p_CB_forgetOldest  (s : am_M)  : Prop := vp_in (0 : Int32) 6 ∧ (¬ ((s 182 ((0 : Int32)).toNatClampNeg) < 0) ∧ ((((s 182 ((0 : Int32)).toNatClampNeg)).toNatClampNeg < 207 ∧ am_sh ((s 182 ((0 : Int32)).toNatClampNeg)).toNatClampNeg = (0, 6, 3)) ∧ ((p_CB_forgetOldest_9 am_F s ((s 182 ((0 : Int32)).toNatClampNeg)).toNatClampNeg (1 : Int32)))))
set_option maxRecDepth 8000 in
theorem w_CB_forgetOldest {l : Launch} {g : am_Gl} (hg : g.2.2.2.1 = true) {ad0 : Nat → Nat} {s : am_M}  (h : p_CB_forgetOldest s ) : AW l g m_CB_forgetOldest 207 ad0 (am_oM (f_CB_forgetOldest s )) 0 0 207 s 0 [(0, .ref 0)] [] := by
  refine am_aload_n (j := 0) d_CB_forgetOldest_0 rfl rfl ?_
  refine am_getR (t := 182) d_CB_forgetOldest_1 fl_CB_52 hg (by decide) sh_0 (by decide) rfl (by decide) lk_0_6 (by decide) ?_
  refine am_iconst (v := (0 : Int32)) d_CB_forgetOldest_4 (by decide) ?_
  obtain ⟨hv, h⟩ := h
  obtain ⟨h0, h⟩ := h
  obtain ⟨⟨b1, t1⟩, h⟩ := h
  refine am_aald d_CB_forgetOldest_5 (by decide) sh_182 (by decide) hv (am_rv9 h0 b1) b1 ?_
  refine am_astore_n (lv2 := [(1, .ref ((s 182 ((0 : Int32)).toNatClampNeg)).toNatClampNeg), (0, .ref 0)]) d_CB_forgetOldest_6 rfl (by decide) rfl ?_
  refine am_iconst (v := (1 : Int32)) d_CB_forgetOldest_7 (by decide) ?_
  refine am_istore_n (lv2 := [(2, .int (1 : Int32)), (1, .ref ((s 182 ((0 : Int32)).toNatClampNeg)).toNatClampNeg), (0, .ref 0)]) d_CB_forgetOldest_8 rfl (by decide) rfl ?_
  refine am_sub [2, 1, 0] (lv2 := [(0, .ref 0), (1, .ref ((s 182 ((0 : Int32)).toNatClampNeg)).toNatClampNeg), (2, .int (1 : Int32))]) rfl ?_
  exact w_CB_forgetOldest_9 hg am_F _ _ _ h
theorem ct_CB_forgetOldest {l : Launch} {g : am_Gl} (hg : g.2.2.2.1 = true) {s : am_M}  (h : p_CB_forgetOldest s ) : AC l g m_CB_forgetOldest 207 s [.ref 0] (am_oM (f_CB_forgetOldest s )) := am_enter ok_CB_forgetOldest rfl (Nat.le_of_ble_eq_true rfl) rfl (fun ad0 => w_CB_forgetOldest hg h)
theorem cw_CB_endRun_64 : am_cv m_CB_endRun m_RE_clear 393 0 := ⟨⟨ok_RE_clear, rfl, by decide +kernel, by decide, by decide⟩, aw_3_5, aw_2_204, aw_2_205⟩
theorem cw_CB_endRun_89 : am_cv m_CB_endRun m_CB_forgetOldest 407 0 := ⟨⟨ok_CB_forgetOldest, rfl, by decide +kernel, by decide, by decide⟩, aw_3_216, aw_3_218, as_2_14⟩
theorem cw_CB_endRun_41 : am_cv m_CB_endRun m_RO_copyFrom 389 1 := ⟨⟨ok_RO_copyFrom, rfl, by decide +kernel, by decide, by decide⟩, aw_3_85, aw_2_147, aw_2_148⟩
theorem cw_CB_endRun_55 : am_cv m_CB_endRun m_RE_copyFrom 399 1 := ⟨⟨ok_RE_copyFrom, rfl, by decide +kernel, by decide, by decide⟩, aw_3_6, aw_3_7, aw_3_8⟩
def f_CB_endRun  (s : am_M) (x1 : Int32) : Int32 × am_M := (if (s 0 7) < 0 then ((0 : Int32), s) else (if (s 0 7) < (6 : Int32) then (if x1 = 0 then ((0 : Int32), (f_RE_copyFrom (f_RO_copyFrom s 8 ((s 182 ((s 0 7)).toNatClampNeg)).toNatClampNeg) 123 16)) else (if (5 : Int32) ≤ ((f_RE_clear s 123) 0 7) then ((1 : Int32), (f_CB_forgetOldest (f_RE_clear s 123))) else ((1 : Int32), (am_set (f_RE_clear s 123) 0 7 (((f_RE_clear s 123) 0 7) + (1 : Int32)))))) else ((0 : Int32), s)))
def p_CB_endRun  (s : am_M) (x1 : Int32) : Prop := (((s 0 7) < 0) → True) ∧ (¬ ((s 0 7) < 0) → (((s 0 7) < (6 : Int32)) → ((x1 = 0) → vp_in (s 0 7) 6 ∧ (¬ ((s 182 ((s 0 7)).toNatClampNeg) < 0) ∧ ((((s 182 ((s 0 7)).toNatClampNeg)).toNatClampNeg < 207 ∧ am_sh ((s 182 ((s 0 7)).toNatClampNeg)).toNatClampNeg = (0, 6, 3)) ∧ (p_RO_copyFrom s 8 ((s 182 ((s 0 7)).toNatClampNeg)).toNatClampNeg ∧ (p_RE_copyFrom (f_RO_copyFrom s 8 ((s 182 ((s 0 7)).toNatClampNeg)).toNatClampNeg) 123 16 ∧ (True)))))) ∧ (¬ (x1 = 0) → p_RE_clear s 123 ∧ ((((5 : Int32) ≤ ((f_RE_clear s 123) 0 7)) → p_CB_forgetOldest (f_RE_clear s 123) ∧ (True)) ∧ (¬ ((5 : Int32) ≤ ((f_RE_clear s 123) 0 7)) → True)))) ∧ (¬ ((s 0 7) < (6 : Int32)) → True))
set_option maxRecDepth 8000 in
theorem w_CB_endRun {l : Launch} {g : am_Gl} (hg : g.2.2.2.1 = true) {ad0 : Nat → Nat} {s : am_M} {x1 : Int32} (h : p_CB_endRun s x1) : AW l g m_CB_endRun 207 ad0 (am_oC (f_CB_endRun s x1)) 0 0 207 s 0 [(0, .ref 0), (1, .int x1)] [] := by
  refine am_aload_n (j := 0) d_CB_endRun_0 rfl rfl ?_
  refine am_getI d_CB_endRun_1 fl_CB_386 (by decide) sh_0 (by decide) rfl ?_
  refine ai_lt (F := am_oC) (tgt := 19) d_CB_endRun_4 (by decide) (fun c => ?_) (fun c => ?_)
  · have h := h.1 c
    refine am_iconst (v := (0 : Int32)) d_CB_endRun_19 (by decide) ?_
    exact am_iret d_CB_endRun_20 rfl (am_bool (Or.inl rfl)).1 (by decide) (by decide) am_oC_ok
  · have h := h.2 c
    refine am_aload_n (j := 0) d_CB_endRun_7 rfl rfl ?_
    refine am_getI d_CB_endRun_8 fl_CB_386 (by decide) sh_0 (by decide) rfl ?_
    refine am_aload_n (j := 0) d_CB_endRun_11 rfl rfl ?_
    refine am_getR (t := 182) d_CB_endRun_12 fl_CB_52 hg (by decide) sh_0 (by decide) rfl (by decide) lk_0_6 (by decide) ?_
    refine am_alen (v := (6 : Int32)) d_CB_endRun_15 (by decide) sh_182 (by decide) (by decide) ?_
    refine aj_lt (F := am_oC) (tgt := 21) d_CB_endRun_16 (by decide) (fun c => ?_) (fun c => ?_)
    · have h := h.1 c
      refine am_iload_n (j := 1) d_CB_endRun_21 rfl rfl ?_
      refine ai_ne (F := am_oC) (tgt := 60) d_CB_endRun_22 (by decide) (fun c => ?_) (fun c => ?_)
      · have h := h.2 c
        refine am_aload_n (j := 0) d_CB_endRun_60 rfl rfl ?_
        refine am_getR (t := 123) d_CB_endRun_61 fl_CB_28 hg (by decide) sh_0 (by decide) rfl (by decide) lk_0_2 (by decide) ?_
        obtain ⟨hc, h⟩ := h
        refine ak_VM (as := []) (rest := []) d_CB_endRun_64 cw_CB_endRun_64 rfl rfl rfl (ct_RE_clear hg hc) rfl rfl (by decide) sh_123 rfl (Nat.le_of_ble_eq_true rfl) (by decide) (by decide) ?_
        refine am_aload_n (j := 0) d_CB_endRun_67 rfl rfl ?_
        refine am_getI d_CB_endRun_68 fl_CB_386 (by decide) sh_0 (by decide) rfl ?_
        refine am_iconst (v := (5 : Int32)) d_CB_endRun_71 (by decide) ?_
        refine aj_ge (F := am_oC) (tgt := 88) d_CB_endRun_72 (by decide) (fun c => ?_) (fun c => ?_)
        · have h := h.1 c
          refine am_aload_n (j := 0) d_CB_endRun_88 rfl rfl ?_
          obtain ⟨hc, h⟩ := h
          refine ak_VM (as := []) (rest := []) d_CB_endRun_89 cw_CB_endRun_89 rfl rfl rfl (ct_CB_forgetOldest hg hc) rfl rfl (by decide) sh_0 rfl (Nat.le_of_ble_eq_true rfl) (by decide) (by decide) ?_
          refine am_iconst (v := (1 : Int32)) d_CB_endRun_92 (by decide) ?_
          exact am_iret d_CB_endRun_93 rfl (am_bool (Or.inr rfl)).1 (by decide) (by decide) am_oC_ok
        · have h := h.2 c
          refine am_aload_n (j := 0) d_CB_endRun_75 rfl rfl ?_
          refine am_dup d_CB_endRun_76 rfl ?_
          refine am_getI d_CB_endRun_77 fl_CB_386 (by decide) sh_0 (by decide) rfl ?_
          refine am_iconst (v := (1 : Int32)) d_CB_endRun_80 (by decide) ?_
          refine am_iadd d_CB_endRun_81 ?_
          refine am_putI (ty := .int) d_CB_endRun_82 fl_CB_386 ft_9_7 (by decide) sh_0 (by decide) rfl rfl rfl ?_
          refine am_goto (tgt := 92) d_CB_endRun_85 (by decide) ?_
          refine am_iconst (v := (1 : Int32)) d_CB_endRun_92 (by decide) ?_
          exact am_iret d_CB_endRun_93 rfl (am_bool (Or.inr rfl)).1 (by decide) (by decide) am_oC_ok
      · have h := h.1 c
        refine am_aload_n (j := 0) d_CB_endRun_25 rfl rfl ?_
        refine am_getR (t := 1) d_CB_endRun_26 fl_CB_12 hg (by decide) sh_0 (by decide) rfl (by decide) lk_0_0 (by decide) ?_
        refine am_getR (t := 8) d_CB_endRun_29 fl_CB_213 hg (by decide) sh_1 (by decide) rfl (by decide) lk_1_9 (by decide) ?_
        refine am_aload_n (j := 0) d_CB_endRun_32 rfl rfl ?_
        refine am_getR (t := 182) d_CB_endRun_33 fl_CB_52 hg (by decide) sh_0 (by decide) rfl (by decide) lk_0_6 (by decide) ?_
        refine am_aload_n (j := 0) d_CB_endRun_36 rfl rfl ?_
        refine am_getI d_CB_endRun_37 fl_CB_386 (by decide) sh_0 (by decide) rfl ?_
        obtain ⟨hv, h⟩ := h
        obtain ⟨h0, h⟩ := h
        obtain ⟨⟨b1, t1⟩, h⟩ := h
        refine am_aald d_CB_endRun_40 (by decide) sh_182 (by decide) hv (am_rv9 h0 b1) b1 ?_
        obtain ⟨hc, h⟩ := h
        refine ak_VM (as := [.ref ((s 182 ((s 0 7)).toNatClampNeg)).toNatClampNeg]) (rest := []) d_CB_endRun_41 cw_CB_endRun_41 rfl rfl rfl (ct_RO_copyFrom hg hc) rfl rfl (by decide) sh_8 rfl (Nat.le_of_ble_eq_true rfl) (by decide) (by decide) ?_
        refine am_aload_n (j := 0) d_CB_endRun_44 rfl rfl ?_
        refine am_getR (t := 123) d_CB_endRun_45 fl_CB_28 hg (by decide) sh_0 (by decide) rfl (by decide) lk_0_2 (by decide) ?_
        refine am_aload_n (j := 0) d_CB_endRun_48 rfl rfl ?_
        refine am_getR (t := 1) d_CB_endRun_49 fl_CB_12 hg (by decide) sh_0 (by decide) rfl (by decide) lk_0_0 (by decide) ?_
        refine am_getR (t := 16) d_CB_endRun_52 fl_CB_396 hg (by decide) sh_1 (by decide) rfl (by decide) lk_1_11 (by decide) ?_
        obtain ⟨hc, h⟩ := h
        refine ak_VM (as := [.ref 16]) (rest := []) d_CB_endRun_55 cw_CB_endRun_55 rfl rfl rfl (ct_RE_copyFrom hg hc) rfl rfl (by decide) sh_123 rfl (Nat.le_of_ble_eq_true rfl) (by decide) (by decide) ?_
        refine am_iconst (v := (0 : Int32)) d_CB_endRun_58 (by decide) ?_
        exact am_iret d_CB_endRun_59 rfl (am_bool (Or.inl rfl)).1 (by decide) (by decide) am_oC_ok
    · have h := h.2 c
      refine am_iconst (v := (0 : Int32)) d_CB_endRun_19 (by decide) ?_
      exact am_iret d_CB_endRun_20 rfl (am_bool (Or.inl rfl)).1 (by decide) (by decide) am_oC_ok
theorem ct_CB_endRun {l : Launch} {g : am_Gl} (hg : g.2.2.2.1 = true) {s : am_M} {x1 : Int32} (h : p_CB_endRun s x1) : AC l g m_CB_endRun 207 s [.ref 0, .int x1] (am_oC (f_CB_endRun s x1)) := am_enter ok_CB_endRun rfl (Nat.le_of_ble_eq_true rfl) rfl (fun ad0 => w_CB_endRun hg h)
theorem cw_CB_tellEntry_10 : am_cv m_CB_tellEntry m_CB_tell 118 1 := ⟨⟨ok_CB_tell, rfl, by decide +kernel, by decide, by decide⟩, aw_3_1, aw_3_3, as_1_1⟩
theorem cw_CB_tellEntry_22 : am_cs m_CB_tellEntry m_JF_fill 37 2 := ⟨⟨ok_JF_fill, rfl, by decide +kernel, by decide, by decide⟩, aw_1_100, aw_0_125⟩
def f_CB_tellEntry  (s : am_M) (x1 : Int32) : Int32 × am_M := (if x1 < 0 then (if (f_CB_tell s (0 : Int32)).1 = 0 then (x1, (f_CB_tell s (0 : Int32)).2) else (x1, (f_JF_fill (f_CB_tell s (0 : Int32)).2 124 (-1000000 : Int32)))) else (if (f_CB_tell s (1 : Int32)).1 = 0 then (x1, (f_CB_tell s (1 : Int32)).2) else (x1, (f_JF_fill (f_CB_tell s (1 : Int32)).2 124 (-1000000 : Int32)))))
def p_CB_tellEntry  (s : am_M) (x1 : Int32) : Prop := ((x1 < 0) → p_CB_tell s (0 : Int32) ∧ ((((f_CB_tell s (0 : Int32)).1 = 0) → True) ∧ (¬ ((f_CB_tell s (0 : Int32)).1 = 0) → p_JF_fill (f_CB_tell s (0 : Int32)).2 124 (-1000000 : Int32) ∧ (True)))) ∧ (¬ (x1 < 0) → p_CB_tell s (1 : Int32) ∧ ((((f_CB_tell s (1 : Int32)).1 = 0) → True) ∧ (¬ ((f_CB_tell s (1 : Int32)).1 = 0) → p_JF_fill (f_CB_tell s (1 : Int32)).2 124 (-1000000 : Int32) ∧ (True))))
set_option maxRecDepth 8000 in
theorem w_CB_tellEntry {l : Launch} {g : am_Gl} (hg : g.2.2.2.1 = true) {ad0 : Nat → Nat} {s : am_M} {x1 : Int32} (h : p_CB_tellEntry s x1) : AW l g m_CB_tellEntry 207 ad0 (am_oC (f_CB_tellEntry s x1)) 0 0 207 s 0 [(0, .ref 0), (1, .int x1)] [] := by
  refine am_aload_n (j := 0) d_CB_tellEntry_0 rfl rfl ?_
  refine am_iload_n (j := 1) d_CB_tellEntry_1 rfl rfl ?_
  refine ai_lt (F := am_oC) (tgt := 9) d_CB_tellEntry_2 (by decide) (fun c => ?_) (fun c => ?_)
  · have h := h.1 c
    refine am_iconst (v := (0 : Int32)) d_CB_tellEntry_9 (by decide) ?_
    obtain ⟨hc, h⟩ := h
    refine ak_VC (as := [.int (0 : Int32)]) (rest := []) d_CB_tellEntry_10 cw_CB_tellEntry_10 rfl rfl rfl (ct_CB_tell hg hc) rfl rfl (by decide) sh_0 rfl (Nat.le_of_ble_eq_true rfl) (by decide) (by decide) ?_
    refine ai_eq (F := am_oC) (tgt := 25) d_CB_tellEntry_13 (by decide) (fun c => ?_) (fun c => ?_)
    · have h := h.1 c
      refine am_iload_n (j := 1) d_CB_tellEntry_25 rfl rfl ?_
      exact am_iret d_CB_tellEntry_26 rfl rfl (by decide) (by decide) am_oC_ok
    · have h := h.2 c
      refine am_aload_n (j := 0) d_CB_tellEntry_16 rfl rfl ?_
      refine am_getR (t := 124) d_CB_tellEntry_17 fl_CB_32 hg (by decide) sh_0 (by decide) rfl (by decide) lk_0_3 (by decide) ?_
      refine am_ldc (v := (-1000000 : Int32)) d_CB_tellEntry_20 aw_1_99 ?_
      obtain ⟨hc, h⟩ := h
      refine ak_SM (as := [.ref 124, .int (-1000000 : Int32)]) (rest := []) d_CB_tellEntry_22 cw_CB_tellEntry_22 rfl rfl rfl (ct_JF_fill hg hc) rfl rfl (Nat.le_of_ble_eq_true rfl) (by decide) (by decide) ?_
      refine am_iload_n (j := 1) d_CB_tellEntry_25 rfl rfl ?_
      exact am_iret d_CB_tellEntry_26 rfl rfl (by decide) (by decide) am_oC_ok
  · have h := h.2 c
    refine am_iconst (v := (1 : Int32)) d_CB_tellEntry_5 (by decide) ?_
    refine am_goto (tgt := 10) d_CB_tellEntry_6 (by decide) ?_
    obtain ⟨hc, h⟩ := h
    refine ak_VC (as := [.int (1 : Int32)]) (rest := []) d_CB_tellEntry_10 cw_CB_tellEntry_10 rfl rfl rfl (ct_CB_tell hg hc) rfl rfl (by decide) sh_0 rfl (Nat.le_of_ble_eq_true rfl) (by decide) (by decide) ?_
    refine ai_eq (F := am_oC) (tgt := 25) d_CB_tellEntry_13 (by decide) (fun c => ?_) (fun c => ?_)
    · have h := h.1 c
      refine am_iload_n (j := 1) d_CB_tellEntry_25 rfl rfl ?_
      exact am_iret d_CB_tellEntry_26 rfl rfl (by decide) (by decide) am_oC_ok
    · have h := h.2 c
      refine am_aload_n (j := 0) d_CB_tellEntry_16 rfl rfl ?_
      refine am_getR (t := 124) d_CB_tellEntry_17 fl_CB_32 hg (by decide) sh_0 (by decide) rfl (by decide) lk_0_3 (by decide) ?_
      refine am_ldc (v := (-1000000 : Int32)) d_CB_tellEntry_20 aw_1_99 ?_
      obtain ⟨hc, h⟩ := h
      refine ak_SM (as := [.ref 124, .int (-1000000 : Int32)]) (rest := []) d_CB_tellEntry_22 cw_CB_tellEntry_22 rfl rfl rfl (ct_JF_fill hg hc) rfl rfl (Nat.le_of_ble_eq_true rfl) (by decide) (by decide) ?_
      refine am_iload_n (j := 1) d_CB_tellEntry_25 rfl rfl ?_
      exact am_iret d_CB_tellEntry_26 rfl rfl (by decide) (by decide) am_oC_ok
theorem ct_CB_tellEntry {l : Launch} {g : am_Gl} (hg : g.2.2.2.1 = true) {s : am_M} {x1 : Int32} (h : p_CB_tellEntry s x1) : AC l g m_CB_tellEntry 207 s [.ref 0, .int x1] (am_oC (f_CB_tellEntry s x1)) := am_enter ok_CB_tellEntry rfl (Nat.le_of_ble_eq_true rfl) rfl (fun ad0 => w_CB_tellEntry hg h)
theorem cw_CB_enter_2 : am_cv m_CB_enter m_CB_wantTable 70 1 := ⟨⟨ok_CB_wantTable, rfl, by decide +kernel, by decide, by decide⟩, aw_2_34, aw_2_36, as_0_2⟩
theorem cw_CB_enter_13 : am_cv m_CB_enter m_RO_isFull 217 1 := ⟨⟨ok_RO_isFull, rfl, by decide +kernel, by decide, by decide⟩, aw_2_129, aw_2_130, aw_2_131⟩
theorem cw_CB_enter_40 : am_cv m_CB_enter m_BA_enterRow 220 4 := ⟨⟨ok_BA_enterRow, rfl, by decide +kernel, by decide, by decide⟩, aw_2_137, aw_2_138, aw_2_139⟩
theorem cw_CB_enter_43 : am_cv m_CB_enter m_CB_tellEntry 224 1 := ⟨⟨ok_CB_tellEntry, rfl, by decide +kernel, by decide, by decide⟩, aw_2_237, aw_2_239, as_1_0⟩
def f_CB_enter  (s : am_M) (x1 : Int32) : Nat × Int32 × am_M := (if (f_CB_wantTable s x1) = 0 then (if (f_RO_isFull s 8 x1) = 0 then (0, (f_CB_tellEntry (f_BA_enterRow s x1 124 (-1 : Int32) (-1000000 : Int32)).2 (f_BA_enterRow s x1 124 (-1 : Int32) (-1000000 : Int32)).1).1, (f_CB_tellEntry (f_BA_enterRow s x1 124 (-1 : Int32) (-1000000 : Int32)).2 (f_BA_enterRow s x1 124 (-1 : Int32) (-1000000 : Int32)).1).2) else (3, 0, s)) else ((f_CB_wantTable s x1), 0, s))
def p_CB_enter  (s : am_M) (x1 : Int32) : Prop := (((f_CB_wantTable s x1) = 0) → p_RO_isFull s 8 x1 ∧ ((((f_RO_isFull s 8 x1) = 0) → p_BA_enterRow s x1 124 (-1 : Int32) (-1000000 : Int32) ∧ (p_CB_tellEntry (f_BA_enterRow s x1 124 (-1 : Int32) (-1000000 : Int32)).2 (f_BA_enterRow s x1 124 (-1 : Int32) (-1000000 : Int32)).1 ∧ (True))) ∧ (¬ ((f_RO_isFull s 8 x1) = 0) → True)))
set_option maxRecDepth 8000 in
theorem w_CB_enter {l : Launch} {g : am_Gl} (hg : g.2.2.2.1 = true) {ad0 : Nat → Nat} {s : am_M} {x1 : Int32} (h : p_CB_enter s x1) : AW l g m_CB_enter 207 ad0 (am_oE (f_CB_enter s x1)) 0 0 207 s 0 [(0, .ref 0), (1, .int x1)] [] := by
  refine am_aload_n (j := 0) d_CB_enter_0 rfl rfl ?_
  refine am_iload_n (j := 1) d_CB_enter_1 rfl rfl ?_
  refine ak_D (F := am_oE) (as := [.int x1]) (rest := []) d_CB_enter_2 cw_CB_enter_2 rfl rfl rfl (ct_CB_wantTable hg) rfl rfl (by decide) sh_0 rfl (Nat.le_of_ble_eq_true rfl) (by decide) (by decide) am_oE_x (fun c => ?_)
  have h := h c
  refine am_aload_n (j := 0) d_CB_enter_5 rfl rfl ?_
  refine am_getR (t := 1) d_CB_enter_6 fl_CB_12 hg (by decide) sh_0 (by decide) rfl (by decide) lk_0_0 (by decide) ?_
  refine am_getR (t := 8) d_CB_enter_9 fl_CB_213 hg (by decide) sh_1 (by decide) rfl (by decide) lk_1_9 (by decide) ?_
  refine am_iload_n (j := 1) d_CB_enter_12 rfl rfl ?_
  obtain ⟨hc, h⟩ := h
  refine ak_VI (as := [.int x1]) (rest := []) d_CB_enter_13 cw_CB_enter_13 rfl rfl rfl (ct_RO_isFull hg hc) rfl rfl (by decide) sh_8 rfl (Nat.le_of_ble_eq_true rfl) (by decide) (by decide) ?_
  refine ai_eq (F := am_oE) (tgt := 27) d_CB_enter_16 (by decide) (fun c => ?_) (fun c => ?_)
  · have h := h.1 c
    refine am_aload_n (j := 0) d_CB_enter_27 rfl rfl ?_
    refine am_aload_n (j := 0) d_CB_enter_28 rfl rfl ?_
    refine am_getR (t := 1) d_CB_enter_29 fl_CB_12 hg (by decide) sh_0 (by decide) rfl (by decide) lk_0_0 (by decide) ?_
    refine am_iload_n (j := 1) d_CB_enter_32 rfl rfl ?_
    refine am_aload_n (j := 0) d_CB_enter_33 rfl rfl ?_
    refine am_getR (t := 124) d_CB_enter_34 fl_CB_32 hg (by decide) sh_0 (by decide) rfl (by decide) lk_0_3 (by decide) ?_
    refine am_iconst (v := (-1 : Int32)) d_CB_enter_37 (by decide) ?_
    refine am_ldc (v := (-1000000 : Int32)) d_CB_enter_38 aw_1_99 ?_
    obtain ⟨hc, h⟩ := h
    refine ak_VC (as := [.int x1, .ref 124, .int (-1 : Int32), .int (-1000000 : Int32)]) (rest := [.ref 0]) d_CB_enter_40 cw_CB_enter_40 rfl rfl rfl (ct_BA_enterRow hg hc) rfl rfl (by decide) sh_1 rfl (Nat.le_of_ble_eq_true rfl) (by decide) (by decide) ?_
    obtain ⟨hc, h⟩ := h
    refine ak_VC (as := [.int (f_BA_enterRow s x1 124 (-1 : Int32) (-1000000 : Int32)).1]) (rest := []) d_CB_enter_43 cw_CB_enter_43 rfl rfl rfl (ct_CB_tellEntry hg hc) rfl rfl (by decide) sh_0 rfl (Nat.le_of_ble_eq_true rfl) (by decide) (by decide) ?_
    exact am_iret d_CB_enter_46 rfl rfl (by decide) (by decide) am_oE_ok
  · have h := h.2 c
    exact am_throw d_CB_enter_19 d_CB_enter_22 d_CB_enter_23 d_CB_enter_26 tw_ISE rfl rfl (by decide) (by decide) (by decide) am_oE_3
theorem ct_CB_enter {l : Launch} {g : am_Gl} (hg : g.2.2.2.1 = true) {s : am_M} {x1 : Int32} (h : p_CB_enter s x1) : AC l g m_CB_enter 207 s [.ref 0, .int x1] (am_oE (f_CB_enter s x1)) := am_enter ok_CB_enter rfl (Nat.le_of_ble_eq_true rfl) rfl (fun ad0 => w_CB_enter hg h)
theorem cw_CB_isFormGood_8 : am_cv m_CB_isFormGood m_BA_hasTable 402 1 := ⟨⟨ok_BA_hasTable, rfl, by decide +kernel, by decide, by decide⟩, aw_2_38, aw_2_39, aw_2_40⟩
theorem cw_CB_isFormGood_29 : am_cv m_CB_isFormGood m_RO_has 257 2 := ⟨⟨ok_RO_has, rfl, by decide +kernel, by decide, by decide⟩, aw_3_27, aw_2_184, aw_2_185⟩
theorem cw_CB_isFormGood_50 : am_cv m_CB_isFormGood m_RO_serialOf 240 2 := ⟨⟨ok_RO_serialOf, rfl, by decide +kernel, by decide, by decide⟩, aw_3_28, aw_3_29, aw_3_30⟩
def f_CB_isFormGood  (s : am_M)  : Int32 := (if (f_BA_hasTable s (s 0 8)) = 0 then (0 : Int32) else (if (f_RO_has s 8 (s 0 8) (s 0 9)) = 0 then (0 : Int32) else (if (f_RO_serialOf s 8 (s 0 8) (s 0 9)) = (s 0 10) then (1 : Int32) else (0 : Int32))))
def p_CB_isFormGood  (s : am_M)  : Prop := (((f_BA_hasTable s (s 0 8)) = 0) → True) ∧ (¬ ((f_BA_hasTable s (s 0 8)) = 0) → p_RO_has s 8 (s 0 8) (s 0 9) ∧ ((((f_RO_has s 8 (s 0 8) (s 0 9)) = 0) → True) ∧ (¬ ((f_RO_has s 8 (s 0 8) (s 0 9)) = 0) → p_RO_serialOf s 8 (s 0 8) (s 0 9) ∧ ((((f_RO_serialOf s 8 (s 0 8) (s 0 9)) = (s 0 10)) → True) ∧ (¬ ((f_RO_serialOf s 8 (s 0 8) (s 0 9)) = (s 0 10)) → True)))))
set_option maxRecDepth 8000 in
theorem w_CB_isFormGood {l : Launch} {g : am_Gl} (hg : g.2.2.2.1 = true) {ad0 : Nat → Nat} {s : am_M}  (h : p_CB_isFormGood s ) : AW l g m_CB_isFormGood 207 ad0 ((am_oI s) (f_CB_isFormGood s )) 0 0 207 s 0 [(0, .ref 0)] [] := by
  refine am_aload_n (j := 0) d_CB_isFormGood_0 rfl rfl ?_
  refine am_getR (t := 1) d_CB_isFormGood_1 fl_CB_12 hg (by decide) sh_0 (by decide) rfl (by decide) lk_0_0 (by decide) ?_
  refine am_aload_n (j := 0) d_CB_isFormGood_4 rfl rfl ?_
  refine am_getI d_CB_isFormGood_5 fl_CB_57 (by decide) sh_0 (by decide) rfl ?_
  refine ak_VI (as := [.int (s 0 8)]) (rest := []) d_CB_isFormGood_8 cw_CB_isFormGood_8 rfl rfl rfl (ct_BA_hasTable hg) rfl rfl (by decide) sh_1 rfl (Nat.le_of_ble_eq_true rfl) (by decide) (by decide) ?_
  refine ai_eq (F := (am_oI s)) (tgt := 64) d_CB_isFormGood_11 (by decide) (fun c => ?_) (fun c => ?_)
  · have h := h.1 c
    refine am_iconst (v := (0 : Int32)) d_CB_isFormGood_64 (by decide) ?_
    exact am_iret d_CB_isFormGood_65 rfl (am_bool (Or.inl rfl)).1 (by decide) (by decide) am_oI_ok
  · have h := h.2 c
    refine am_aload_n (j := 0) d_CB_isFormGood_14 rfl rfl ?_
    refine am_getR (t := 1) d_CB_isFormGood_15 fl_CB_12 hg (by decide) sh_0 (by decide) rfl (by decide) lk_0_0 (by decide) ?_
    refine am_getR (t := 8) d_CB_isFormGood_18 fl_CB_213 hg (by decide) sh_1 (by decide) rfl (by decide) lk_1_9 (by decide) ?_
    refine am_aload_n (j := 0) d_CB_isFormGood_21 rfl rfl ?_
    refine am_getI d_CB_isFormGood_22 fl_CB_57 (by decide) sh_0 (by decide) rfl ?_
    refine am_aload_n (j := 0) d_CB_isFormGood_25 rfl rfl ?_
    refine am_getI d_CB_isFormGood_26 fl_CB_237 (by decide) sh_0 (by decide) rfl ?_
    obtain ⟨hc, h⟩ := h
    refine ak_VI (as := [.int (s 0 8), .int (s 0 9)]) (rest := []) d_CB_isFormGood_29 cw_CB_isFormGood_29 rfl rfl rfl (ct_RO_has hg hc) rfl rfl (by decide) sh_8 rfl (Nat.le_of_ble_eq_true rfl) (by decide) (by decide) ?_
    refine ai_eq (F := (am_oI s)) (tgt := 64) d_CB_isFormGood_32 (by decide) (fun c => ?_) (fun c => ?_)
    · have h := h.1 c
      refine am_iconst (v := (0 : Int32)) d_CB_isFormGood_64 (by decide) ?_
      exact am_iret d_CB_isFormGood_65 rfl (am_bool (Or.inl rfl)).1 (by decide) (by decide) am_oI_ok
    · have h := h.2 c
      refine am_aload_n (j := 0) d_CB_isFormGood_35 rfl rfl ?_
      refine am_getR (t := 1) d_CB_isFormGood_36 fl_CB_12 hg (by decide) sh_0 (by decide) rfl (by decide) lk_0_0 (by decide) ?_
      refine am_getR (t := 8) d_CB_isFormGood_39 fl_CB_213 hg (by decide) sh_1 (by decide) rfl (by decide) lk_1_9 (by decide) ?_
      refine am_aload_n (j := 0) d_CB_isFormGood_42 rfl rfl ?_
      refine am_getI d_CB_isFormGood_43 fl_CB_57 (by decide) sh_0 (by decide) rfl ?_
      refine am_aload_n (j := 0) d_CB_isFormGood_46 rfl rfl ?_
      refine am_getI d_CB_isFormGood_47 fl_CB_237 (by decide) sh_0 (by decide) rfl ?_
      obtain ⟨hc, h⟩ := h
      refine ak_VI (as := [.int (s 0 8), .int (s 0 9)]) (rest := []) d_CB_isFormGood_50 cw_CB_isFormGood_50 rfl rfl rfl (ct_RO_serialOf hg hc) rfl rfl (by decide) sh_8 rfl (Nat.le_of_ble_eq_true rfl) (by decide) (by decide) ?_
      refine am_aload_n (j := 0) d_CB_isFormGood_53 rfl rfl ?_
      refine am_getI d_CB_isFormGood_54 fl_CB_243 (by decide) sh_0 (by decide) rfl ?_
      refine aj_ne (F := (am_oI s)) (tgt := 64) d_CB_isFormGood_57 (by decide) (fun c => ?_) (fun c => ?_)
      · have h := h.2 c
        refine am_iconst (v := (0 : Int32)) d_CB_isFormGood_64 (by decide) ?_
        exact am_iret d_CB_isFormGood_65 rfl (am_bool (Or.inl rfl)).1 (by decide) (by decide) am_oI_ok
      · have h := h.1 c
        refine am_iconst (v := (1 : Int32)) d_CB_isFormGood_60 (by decide) ?_
        refine am_goto (tgt := 65) d_CB_isFormGood_61 (by decide) ?_
        exact am_iret d_CB_isFormGood_65 rfl (am_bool (Or.inr rfl)).1 (by decide) (by decide) am_oI_ok
theorem ct_CB_isFormGood {l : Launch} {g : am_Gl} (hg : g.2.2.2.1 = true) {s : am_M}  (h : p_CB_isFormGood s ) : AC l g m_CB_isFormGood 207 s [.ref 0] ((am_oI s) (f_CB_isFormGood s )) := am_enter ok_CB_isFormGood rfl (Nat.le_of_ble_eq_true rfl) rfl (fun ad0 => w_CB_isFormGood hg h)
theorem cw_CB_enterInside_3 : am_cv m_CB_enterInside m_CB_wantColumn 99 2 := ⟨⟨ok_CB_wantColumn, rfl, by decide +kernel, by decide, by decide⟩, aw_3_14, aw_3_16, as_1_2⟩
theorem cw_CB_enterInside_7 : am_cv m_CB_enterInside m_CB_isFormGood 246 0 := ⟨⟨ok_CB_isFormGood, rfl, by decide +kernel, by decide, by decide⟩, aw_3_23, aw_3_25, as_1_3⟩
theorem cw_CB_enterInside_21 : am_cv m_CB_enterInside m_RO_isFull 217 1 := ⟨⟨ok_RO_isFull, rfl, by decide +kernel, by decide, by decide⟩, aw_2_129, aw_2_130, aw_2_131⟩
theorem cw_CB_enterInside_42 : am_cv m_CB_enterInside m_CB_wantLinkTo 250 3 := ⟨⟨ok_CB_wantLinkTo, rfl, by decide +kernel, by decide, by decide⟩, aw_3_32, aw_3_34, as_1_4⟩
theorem cw_CB_enterInside_60 : am_cv m_CB_enterInside m_BA_enterRow 220 4 := ⟨⟨ok_BA_enterRow, rfl, by decide +kernel, by decide, by decide⟩, aw_2_137, aw_2_138, aw_2_139⟩
theorem cw_CB_enterInside_63 : am_cv m_CB_enterInside m_CB_tellEntry 224 1 := ⟨⟨ok_CB_tellEntry, rfl, by decide +kernel, by decide, by decide⟩, aw_2_237, aw_2_239, as_1_0⟩
def f_CB_enterInside  (s : am_M) (x1 : Int32) (x2 : Int32) : Nat × Int32 × am_M := (if (f_CB_wantColumn s x1 x2) = 0 then (if (f_CB_isFormGood s) = 0 then (3, 0, s) else (if (f_RO_isFull s 8 x1) = 0 then (if (f_CB_wantLinkTo s x1 x2 (s 0 8)) = 0 then (0, (f_CB_tellEntry (f_BA_enterRow s x1 124 x2 (s 0 9)).2 (f_BA_enterRow s x1 124 x2 (s 0 9)).1).1, (f_CB_tellEntry (f_BA_enterRow s x1 124 x2 (s 0 9)).2 (f_BA_enterRow s x1 124 x2 (s 0 9)).1).2) else ((f_CB_wantLinkTo s x1 x2 (s 0 8)), 0, s)) else (3, 0, s))) else ((f_CB_wantColumn s x1 x2), 0, s))
def p_CB_enterInside  (s : am_M) (x1 : Int32) (x2 : Int32) : Prop := p_CB_wantColumn s x1 x2 ∧ ((((f_CB_wantColumn s x1 x2) = 0) → p_CB_isFormGood s ∧ ((((f_CB_isFormGood s) = 0) → True) ∧ (¬ ((f_CB_isFormGood s) = 0) → p_RO_isFull s 8 x1 ∧ ((((f_RO_isFull s 8 x1) = 0) → p_CB_wantLinkTo s x1 x2 (s 0 8) ∧ ((((f_CB_wantLinkTo s x1 x2 (s 0 8)) = 0) → p_BA_enterRow s x1 124 x2 (s 0 9) ∧ (p_CB_tellEntry (f_BA_enterRow s x1 124 x2 (s 0 9)).2 (f_BA_enterRow s x1 124 x2 (s 0 9)).1 ∧ (True))))) ∧ (¬ ((f_RO_isFull s 8 x1) = 0) → True))))))
set_option maxRecDepth 8000 in
theorem w_CB_enterInside {l : Launch} {g : am_Gl} (hg : g.2.2.2.1 = true) {ad0 : Nat → Nat} {s : am_M} {x1 : Int32} {x2 : Int32} (h : p_CB_enterInside s x1 x2) : AW l g m_CB_enterInside 207 ad0 (am_oE (f_CB_enterInside s x1 x2)) 0 0 207 s 0 [(0, .ref 0), (1, .int x1), (2, .int x2)] [] := by
  refine am_aload_n (j := 0) d_CB_enterInside_0 rfl rfl ?_
  refine am_iload_n (j := 1) d_CB_enterInside_1 rfl rfl ?_
  refine am_iload_n (j := 2) d_CB_enterInside_2 rfl rfl ?_
  obtain ⟨hc, h⟩ := h
  refine ak_D (F := am_oE) (as := [.int x1, .int x2]) (rest := []) d_CB_enterInside_3 cw_CB_enterInside_3 rfl rfl rfl (ct_CB_wantColumn hg hc) rfl rfl (by decide) sh_0 rfl (Nat.le_of_ble_eq_true rfl) (by decide) (by decide) am_oE_x (fun c => ?_)
  have h := h c
  refine am_aload_n (j := 0) d_CB_enterInside_6 rfl rfl ?_
  obtain ⟨hc, h⟩ := h
  refine ak_VI (as := []) (rest := []) d_CB_enterInside_7 cw_CB_enterInside_7 rfl rfl rfl (ct_CB_isFormGood hg hc) rfl rfl (by decide) sh_0 rfl (Nat.le_of_ble_eq_true rfl) (by decide) (by decide) ?_
  refine ai_eq (F := am_oE) (tgt := 27) d_CB_enterInside_10 (by decide) (fun c => ?_) (fun c => ?_)
  · have h := h.1 c
    exact am_throw d_CB_enterInside_27 d_CB_enterInside_30 d_CB_enterInside_31 d_CB_enterInside_34 tw_ISE rfl rfl (by decide) (by decide) (by decide) am_oE_3
  · have h := h.2 c
    refine am_aload_n (j := 0) d_CB_enterInside_13 rfl rfl ?_
    refine am_getR (t := 1) d_CB_enterInside_14 fl_CB_12 hg (by decide) sh_0 (by decide) rfl (by decide) lk_0_0 (by decide) ?_
    refine am_getR (t := 8) d_CB_enterInside_17 fl_CB_213 hg (by decide) sh_1 (by decide) rfl (by decide) lk_1_9 (by decide) ?_
    refine am_iload_n (j := 1) d_CB_enterInside_20 rfl rfl ?_
    obtain ⟨hc, h⟩ := h
    refine ak_VI (as := [.int x1]) (rest := []) d_CB_enterInside_21 cw_CB_enterInside_21 rfl rfl rfl (ct_RO_isFull hg hc) rfl rfl (by decide) sh_8 rfl (Nat.le_of_ble_eq_true rfl) (by decide) (by decide) ?_
    refine ai_eq (F := am_oE) (tgt := 35) d_CB_enterInside_24 (by decide) (fun c => ?_) (fun c => ?_)
    · have h := h.1 c
      refine am_aload_n (j := 0) d_CB_enterInside_35 rfl rfl ?_
      refine am_iload_n (j := 1) d_CB_enterInside_36 rfl rfl ?_
      refine am_iload_n (j := 2) d_CB_enterInside_37 rfl rfl ?_
      refine am_aload_n (j := 0) d_CB_enterInside_38 rfl rfl ?_
      refine am_getI d_CB_enterInside_39 fl_CB_57 (by decide) sh_0 (by decide) rfl ?_
      obtain ⟨hc, h⟩ := h
      refine ak_D (F := am_oE) (as := [.int x1, .int x2, .int (s 0 8)]) (rest := []) d_CB_enterInside_42 cw_CB_enterInside_42 rfl rfl rfl (ct_CB_wantLinkTo hg hc) rfl rfl (by decide) sh_0 rfl (Nat.le_of_ble_eq_true rfl) (by decide) (by decide) am_oE_x (fun c => ?_)
      have h := h c
      refine am_aload_n (j := 0) d_CB_enterInside_45 rfl rfl ?_
      refine am_aload_n (j := 0) d_CB_enterInside_46 rfl rfl ?_
      refine am_getR (t := 1) d_CB_enterInside_47 fl_CB_12 hg (by decide) sh_0 (by decide) rfl (by decide) lk_0_0 (by decide) ?_
      refine am_iload_n (j := 1) d_CB_enterInside_50 rfl rfl ?_
      refine am_aload_n (j := 0) d_CB_enterInside_51 rfl rfl ?_
      refine am_getR (t := 124) d_CB_enterInside_52 fl_CB_32 hg (by decide) sh_0 (by decide) rfl (by decide) lk_0_3 (by decide) ?_
      refine am_iload_n (j := 2) d_CB_enterInside_55 rfl rfl ?_
      refine am_aload_n (j := 0) d_CB_enterInside_56 rfl rfl ?_
      refine am_getI d_CB_enterInside_57 fl_CB_237 (by decide) sh_0 (by decide) rfl ?_
      obtain ⟨hc, h⟩ := h
      refine ak_VC (as := [.int x1, .ref 124, .int x2, .int (s 0 9)]) (rest := [.ref 0]) d_CB_enterInside_60 cw_CB_enterInside_60 rfl rfl rfl (ct_BA_enterRow hg hc) rfl rfl (by decide) sh_1 rfl (Nat.le_of_ble_eq_true rfl) (by decide) (by decide) ?_
      obtain ⟨hc, h⟩ := h
      refine ak_VC (as := [.int (f_BA_enterRow s x1 124 x2 (s 0 9)).1]) (rest := []) d_CB_enterInside_63 cw_CB_enterInside_63 rfl rfl rfl (ct_CB_tellEntry hg hc) rfl rfl (by decide) sh_0 rfl (Nat.le_of_ble_eq_true rfl) (by decide) (by decide) ?_
      exact am_iret d_CB_enterInside_66 rfl rfl (by decide) (by decide) am_oE_ok
    · have h := h.2 c
      exact am_throw d_CB_enterInside_27 d_CB_enterInside_30 d_CB_enterInside_31 d_CB_enterInside_34 tw_ISE rfl rfl (by decide) (by decide) (by decide) am_oE_3
theorem ct_CB_enterInside {l : Launch} {g : am_Gl} (hg : g.2.2.2.1 = true) {s : am_M} {x1 : Int32} {x2 : Int32} (h : p_CB_enterInside s x1 x2) : AC l g m_CB_enterInside 207 s [.ref 0, .int x1, .int x2] (am_oE (f_CB_enterInside s x1 x2)) := am_enter ok_CB_enterInside rfl (Nat.le_of_ble_eq_true rfl) rfl (fun ad0 => w_CB_enterInside hg h)
theorem cw_CB_isThere_2 : am_cv m_CB_isThere m_CB_wantTable 70 1 := ⟨⟨ok_CB_wantTable, rfl, by decide +kernel, by decide, by decide⟩, aw_2_34, aw_2_36, as_0_2⟩
theorem cw_CB_isThere_14 : am_cv m_CB_isThere m_RO_has 257 2 := ⟨⟨ok_RO_has, rfl, by decide +kernel, by decide, by decide⟩, aw_3_27, aw_2_184, aw_2_185⟩
def f_CB_isThere  (s : am_M) (x1 : Int32) (x2 : Int32) : Nat × Int32 × am_M := (if (f_CB_wantTable s x1) = 0 then (0, (f_RO_has s 8 x1 x2), s) else ((f_CB_wantTable s x1), 0, s))
def p_CB_isThere  (s : am_M) (x1 : Int32) (x2 : Int32) : Prop := (((f_CB_wantTable s x1) = 0) → p_RO_has s 8 x1 x2 ∧ (((f_RO_has s 8 x1 x2) = 0 ∨ (f_RO_has s 8 x1 x2) = 1) ∧ (True)))
set_option maxRecDepth 8000 in
theorem w_CB_isThere {l : Launch} {g : am_Gl} (hg : g.2.2.2.1 = true) {ad0 : Nat → Nat} {s : am_M} {x1 : Int32} {x2 : Int32} (h : p_CB_isThere s x1 x2) : AW l g m_CB_isThere 207 ad0 (am_oE (f_CB_isThere s x1 x2)) 0 0 207 s 0 [(0, .ref 0), (1, .int x1), (2, .int x2)] [] := by
  refine am_aload_n (j := 0) d_CB_isThere_0 rfl rfl ?_
  refine am_iload_n (j := 1) d_CB_isThere_1 rfl rfl ?_
  refine ak_D (F := am_oE) (as := [.int x1]) (rest := []) d_CB_isThere_2 cw_CB_isThere_2 rfl rfl rfl (ct_CB_wantTable hg) rfl rfl (by decide) sh_0 rfl (Nat.le_of_ble_eq_true rfl) (by decide) (by decide) am_oE_x (fun c => ?_)
  have h := h c
  refine am_aload_n (j := 0) d_CB_isThere_5 rfl rfl ?_
  refine am_getR (t := 1) d_CB_isThere_6 fl_CB_12 hg (by decide) sh_0 (by decide) rfl (by decide) lk_0_0 (by decide) ?_
  refine am_getR (t := 8) d_CB_isThere_9 fl_CB_213 hg (by decide) sh_1 (by decide) rfl (by decide) lk_1_9 (by decide) ?_
  refine am_iload_n (j := 1) d_CB_isThere_12 rfl rfl ?_
  refine am_iload_n (j := 2) d_CB_isThere_13 rfl rfl ?_
  obtain ⟨hc, h⟩ := h
  refine ak_VI (as := [.int x1, .int x2]) (rest := []) d_CB_isThere_14 cw_CB_isThere_14 rfl rfl rfl (ct_RO_has hg hc) rfl rfl (by decide) sh_8 rfl (Nat.le_of_ble_eq_true rfl) (by decide) (by decide) ?_
  obtain ⟨hz, h⟩ := h
  exact am_iret d_CB_isThere_17 rfl (am_bool hz).1 (by decide) (by decide) am_oE_ok
theorem ct_CB_isThere {l : Launch} {g : am_Gl} (hg : g.2.2.2.1 = true) {s : am_M} {x1 : Int32} {x2 : Int32} (h : p_CB_isThere s x1 x2) : AC l g m_CB_isThere 207 s [.ref 0, .int x1, .int x2] (am_oE (f_CB_isThere s x1 x2)) := am_enter ok_CB_isThere rfl (Nat.le_of_ble_eq_true rfl) rfl (fun ad0 => w_CB_isThere hg h)
theorem cw_CB_keepAhead_35 : am_cv m_CB_keepAhead m_RO_copyFrom 389 1 := ⟨⟨ok_RO_copyFrom, rfl, by decide +kernel, by decide, by decide⟩, aw_3_85, aw_2_147, aw_2_148⟩
def f_CB_keepAhead  (s : am_M)  : am_M := (if (s 0 7) < 0 then s else (if (6 : Int32) ≤ (s 0 7) then s else (f_RO_copyFrom s ((s 182 ((s 0 7)).toNatClampNeg)).toNatClampNeg 8)))
def p_CB_keepAhead  (s : am_M)  : Prop := (((s 0 7) < 0) → True) ∧ (¬ ((s 0 7) < 0) → (((6 : Int32) ≤ (s 0 7)) → True) ∧ (¬ ((6 : Int32) ≤ (s 0 7)) → vp_in (s 0 7) 6 ∧ (¬ ((s 182 ((s 0 7)).toNatClampNeg) < 0) ∧ ((((s 182 ((s 0 7)).toNatClampNeg)).toNatClampNeg < 207 ∧ am_sh ((s 182 ((s 0 7)).toNatClampNeg)).toNatClampNeg = (0, 6, 3)) ∧ (p_RO_copyFrom s ((s 182 ((s 0 7)).toNatClampNeg)).toNatClampNeg 8 ∧ (True))))))
set_option maxRecDepth 8000 in
theorem w_CB_keepAhead {l : Launch} {g : am_Gl} (hg : g.2.2.2.1 = true) {ad0 : Nat → Nat} {s : am_M}  (h : p_CB_keepAhead s ) : AW l g m_CB_keepAhead 207 ad0 (am_oM (f_CB_keepAhead s )) 0 0 207 s 0 [(0, .ref 0)] [] := by
  refine am_aload_n (j := 0) d_CB_keepAhead_0 rfl rfl ?_
  refine am_getI d_CB_keepAhead_1 fl_CB_386 (by decide) sh_0 (by decide) rfl ?_
  refine ai_lt (F := am_oM) (tgt := 38) d_CB_keepAhead_4 (by decide) (fun c => ?_) (fun c => ?_)
  · have h := h.1 c
    exact am_vret d_CB_keepAhead_38 rfl (by decide) (by decide) am_oM_ok
  · have h := h.2 c
    refine am_aload_n (j := 0) d_CB_keepAhead_7 rfl rfl ?_
    refine am_getI d_CB_keepAhead_8 fl_CB_386 (by decide) sh_0 (by decide) rfl ?_
    refine am_aload_n (j := 0) d_CB_keepAhead_11 rfl rfl ?_
    refine am_getR (t := 182) d_CB_keepAhead_12 fl_CB_52 hg (by decide) sh_0 (by decide) rfl (by decide) lk_0_6 (by decide) ?_
    refine am_alen (v := (6 : Int32)) d_CB_keepAhead_15 (by decide) sh_182 (by decide) (by decide) ?_
    refine aj_ge (F := am_oM) (tgt := 38) d_CB_keepAhead_16 (by decide) (fun c => ?_) (fun c => ?_)
    · have h := h.1 c
      exact am_vret d_CB_keepAhead_38 rfl (by decide) (by decide) am_oM_ok
    · have h := h.2 c
      refine am_aload_n (j := 0) d_CB_keepAhead_19 rfl rfl ?_
      refine am_getR (t := 182) d_CB_keepAhead_20 fl_CB_52 hg (by decide) sh_0 (by decide) rfl (by decide) lk_0_6 (by decide) ?_
      refine am_aload_n (j := 0) d_CB_keepAhead_23 rfl rfl ?_
      refine am_getI d_CB_keepAhead_24 fl_CB_386 (by decide) sh_0 (by decide) rfl ?_
      obtain ⟨hv, h⟩ := h
      obtain ⟨h0, h⟩ := h
      obtain ⟨⟨b1, t1⟩, h⟩ := h
      refine am_aald d_CB_keepAhead_27 (by decide) sh_182 (by decide) hv (am_rv9 h0 b1) b1 ?_
      refine am_aload_n (j := 0) d_CB_keepAhead_28 rfl rfl ?_
      refine am_getR (t := 1) d_CB_keepAhead_29 fl_CB_12 hg (by decide) sh_0 (by decide) rfl (by decide) lk_0_0 (by decide) ?_
      refine am_getR (t := 8) d_CB_keepAhead_32 fl_CB_213 hg (by decide) sh_1 (by decide) rfl (by decide) lk_1_9 (by decide) ?_
      obtain ⟨hc, h⟩ := h
      refine ak_VM (as := [.ref 8]) (rest := []) d_CB_keepAhead_35 cw_CB_keepAhead_35 rfl rfl rfl (ct_RO_copyFrom hg hc) rfl rfl b1 t1 rfl (Nat.le_of_ble_eq_true rfl) (by decide) (by decide) ?_
      exact am_vret d_CB_keepAhead_38 rfl (by decide) (by decide) am_oM_ok
theorem ct_CB_keepAhead {l : Launch} {g : am_Gl} (hg : g.2.2.2.1 = true) {s : am_M}  (h : p_CB_keepAhead s ) : AC l g m_CB_keepAhead 207 s [.ref 0] (am_oM (f_CB_keepAhead s )) := am_enter ok_CB_keepAhead rfl (Nat.le_of_ble_eq_true rfl) rfl (fun ad0 => w_CB_keepAhead hg h)
theorem cw_CB_keyOf_3 : am_cv m_CB_keyOf m_CB_wantQuestionColumn 290 2 := ⟨⟨ok_CB_wantQuestionColumn, rfl, by decide +kernel, by decide, by decide⟩, aw_4_230, aw_4_232, as_4_3⟩
theorem cw_CB_keyOf_23 : am_cv m_CB_keyOf m_AS_question 298 1 := ⟨⟨ok_AS_question, rfl, by decide +kernel, by decide, by decide⟩, aw_3_182, aw_3_107, aw_3_108⟩
theorem cw_CB_keyOf_46 : am_cv m_CB_keyOf m_AS_find 316 1 := ⟨⟨ok_AS_find, rfl, by decide +kernel, by decide, by decide⟩, aw_3_102, aw_3_103, aw_3_104⟩
theorem cw_CB_keyOf_57 : am_cv m_CB_keyOf m_AS_secondKey 328 1 := ⟨⟨ok_AS_secondKey, rfl, by decide +kernel, by decide, by decide⟩, aw_5_67, aw_5_68, aw_5_69⟩
def f_CB_keyOf  (s : am_M) (x1 : Int32) (x2 : Int32) : Nat × Int32 × am_M := (if (f_CB_wantQuestionColumn s x1 x2).1 = 0 then (if x2 = 0 then (1, 0, (f_CB_wantQuestionColumn s x1 x2).2) else (if ((f_CB_wantQuestionColumn s x1 x2).2 (f_AS_question (f_CB_wantQuestionColumn s x1 x2).2 x1) 0) = (2 : Int32) then (0, (f_AS_secondKey (f_AS_find (f_CB_wantQuestionColumn s x1 x2).2 x1).2 (x2 - (1 : Int32))), (f_AS_find (f_CB_wantQuestionColumn s x1 x2).2 x1).2) else (2, 0, (f_CB_wantQuestionColumn s x1 x2).2))) else ((f_CB_wantQuestionColumn s x1 x2).1, 0, (f_CB_wantQuestionColumn s x1 x2).2))
def p_CB_keyOf  (s : am_M) (x1 : Int32) (x2 : Int32) : Prop := p_CB_wantQuestionColumn s x1 x2 ∧ ((((f_CB_wantQuestionColumn s x1 x2).1 = 0) → ((x2 = 0) → True) ∧ (¬ (x2 = 0) → p_AS_question (f_CB_wantQuestionColumn s x1 x2).2 x1 ∧ (((f_AS_question (f_CB_wantQuestionColumn s x1 x2).2 x1) < 207 ∧ am_sh (f_AS_question (f_CB_wantQuestionColumn s x1 x2).2 x1) = (0, 4, 17)) ∧ (((((f_CB_wantQuestionColumn s x1 x2).2 (f_AS_question (f_CB_wantQuestionColumn s x1 x2).2 x1) 0) = (2 : Int32)) → p_AS_find (f_CB_wantQuestionColumn s x1 x2).2 x1 ∧ (p_AS_secondKey (f_AS_find (f_CB_wantQuestionColumn s x1 x2).2 x1).2 (x2 - (1 : Int32)) ∧ (True))) ∧ (¬ (((f_CB_wantQuestionColumn s x1 x2).2 (f_AS_question (f_CB_wantQuestionColumn s x1 x2).2 x1) 0) = (2 : Int32)) → True))))))
set_option maxRecDepth 8000 in
theorem w_CB_keyOf {l : Launch} {g : am_Gl} (hg : g.2.2.2.1 = true) {ad0 : Nat → Nat} {s : am_M} {x1 : Int32} {x2 : Int32} (h : p_CB_keyOf s x1 x2) : AW l g m_CB_keyOf 207 ad0 (am_oE (f_CB_keyOf s x1 x2)) 0 0 207 s 0 [(0, .ref 0), (1, .int x1), (2, .int x2)] [] := by
  refine am_aload_n (j := 0) d_CB_keyOf_0 rfl rfl ?_
  refine am_iload_n (j := 1) d_CB_keyOf_1 rfl rfl ?_
  refine am_iload_n (j := 2) d_CB_keyOf_2 rfl rfl ?_
  obtain ⟨hc, h⟩ := h
  refine ak_V (F := am_oE) (as := [.int x1, .int x2]) (rest := []) d_CB_keyOf_3 cw_CB_keyOf_3 rfl rfl rfl (ct_CB_wantQuestionColumn hg hc) rfl rfl (by decide) sh_0 rfl (Nat.le_of_ble_eq_true rfl) (by decide) (by decide) am_oE_x (fun c => ?_)
  have h := h c
  refine am_iload_n (j := 2) d_CB_keyOf_6 rfl rfl ?_
  refine ai_ne (F := am_oE) (tgt := 18) d_CB_keyOf_7 (by decide) (fun c => ?_) (fun c => ?_)
  · have h := h.2 c
    refine am_aload_n (j := 0) d_CB_keyOf_18 rfl rfl ?_
    refine am_getR (t := 52) d_CB_keyOf_19 fl_CB_21 hg (by decide) sh_0 (by decide) rfl (by decide) lk_0_1 (by decide) ?_
    refine am_iload_n (j := 1) d_CB_keyOf_22 rfl rfl ?_
    obtain ⟨hc, h⟩ := h
    refine ak_VR (as := [.int x1]) (rest := []) d_CB_keyOf_23 cw_CB_keyOf_23 rfl rfl rfl (ct_AS_question hg hc) rfl rfl (by decide) sh_52 rfl (Nat.le_of_ble_eq_true rfl) (by decide) (by decide) ?_
    obtain ⟨⟨b1, t1⟩, h⟩ := h
    refine am_getI d_CB_keyOf_26 fl_CB_327 b1 t1 (by decide) rfl ?_
    refine am_iconst (v := (2 : Int32)) d_CB_keyOf_29 (by decide) ?_
    refine aj_eq (F := am_oE) (tgt := 41) d_CB_keyOf_30 (by decide) (fun c => ?_) (fun c => ?_)
    · have h := h.1 c
      refine am_aload_n (j := 0) d_CB_keyOf_41 rfl rfl ?_
      refine am_getR (t := 52) d_CB_keyOf_42 fl_CB_21 hg (by decide) sh_0 (by decide) rfl (by decide) lk_0_1 (by decide) ?_
      refine am_iload_n (j := 1) d_CB_keyOf_45 rfl rfl ?_
      obtain ⟨hc, h⟩ := h
      refine ak_VC (as := [.int x1]) (rest := []) d_CB_keyOf_46 cw_CB_keyOf_46 rfl rfl rfl (ct_AS_find hg hc) rfl rfl (by decide) sh_52 rfl (Nat.le_of_ble_eq_true rfl) (by decide) (by decide) ?_
      refine am_pop d_CB_keyOf_49 rfl ?_
      refine am_aload_n (j := 0) d_CB_keyOf_50 rfl rfl ?_
      refine am_getR (t := 52) d_CB_keyOf_51 fl_CB_21 hg (by decide) sh_0 (by decide) rfl (by decide) lk_0_1 (by decide) ?_
      refine am_iload_n (j := 2) d_CB_keyOf_54 rfl rfl ?_
      refine am_iconst (v := (1 : Int32)) d_CB_keyOf_55 (by decide) ?_
      refine am_isub d_CB_keyOf_56 ?_
      obtain ⟨hc, h⟩ := h
      refine ak_VI (as := [.int (x2 - (1 : Int32))]) (rest := []) d_CB_keyOf_57 cw_CB_keyOf_57 rfl rfl rfl (ct_AS_secondKey hg hc) rfl rfl (by decide) sh_52 rfl (Nat.le_of_ble_eq_true rfl) (by decide) (by decide) ?_
      exact am_iret d_CB_keyOf_60 rfl rfl (by decide) (by decide) am_oE_ok
    · have h := h.2 c
      exact am_throw d_CB_keyOf_33 d_CB_keyOf_36 d_CB_keyOf_37 d_CB_keyOf_40 tw_IAE rfl rfl (by decide) (by decide) (by decide) am_oE_2
  · have h := h.1 c
    exact am_throw d_CB_keyOf_10 d_CB_keyOf_13 d_CB_keyOf_14 d_CB_keyOf_17 tw_IOB rfl rfl (by decide) (by decide) (by decide) am_oE_1
theorem ct_CB_keyOf {l : Launch} {g : am_Gl} (hg : g.2.2.2.1 = true) {s : am_M} {x1 : Int32} {x2 : Int32} (h : p_CB_keyOf s x1 x2) : AC l g m_CB_keyOf 207 s [.ref 0, .int x1, .int x2] (am_oE (f_CB_keyOf s x1 x2)) := am_enter ok_CB_keyOf rfl (Nat.le_of_ble_eq_true rfl) rfl (fun ad0 => w_CB_keyOf hg h)
theorem cw_CB_wantNumberColumn_6 : am_cv m_CB_wantNumberColumn m_BA_column 102 2 := ⟨⟨ok_BA_column, rfl, by decide +kernel, by decide, by decide⟩, aw_3_40, aw_2_94, aw_2_95⟩
def f_CB_wantNumberColumn  (s : am_M) (x1 : Int32) (x2 : Int32) : Nat := (if (s (f_BA_column s x1 x2) 0) = (1 : Int32) then 0 else 2)
def p_CB_wantNumberColumn  (s : am_M) (x1 : Int32) (x2 : Int32) : Prop := p_BA_column s x1 x2 ∧ (((f_BA_column s x1 x2) < 207 ∧ am_sh (f_BA_column s x1 x2) = (0, 3, 11)) ∧ ((((s (f_BA_column s x1 x2) 0) = (1 : Int32)) → True) ∧ (¬ ((s (f_BA_column s x1 x2) 0) = (1 : Int32)) → True)))
set_option maxRecDepth 8000 in
theorem w_CB_wantNumberColumn {l : Launch} {g : am_Gl} (hg : g.2.2.2.1 = true) {ad0 : Nat → Nat} {s : am_M} {x1 : Int32} {x2 : Int32} (h : p_CB_wantNumberColumn s x1 x2) : AW l g m_CB_wantNumberColumn 207 ad0 ((am_oD s) (f_CB_wantNumberColumn s x1 x2)) 0 0 207 s 0 [(0, .ref 0), (1, .int x1), (2, .int x2)] [] := by
  refine am_aload_n (j := 0) d_CB_wantNumberColumn_0 rfl rfl ?_
  refine am_getR (t := 1) d_CB_wantNumberColumn_1 fl_CB_12 hg (by decide) sh_0 (by decide) rfl (by decide) lk_0_0 (by decide) ?_
  refine am_iload_n (j := 1) d_CB_wantNumberColumn_4 rfl rfl ?_
  refine am_iload_n (j := 2) d_CB_wantNumberColumn_5 rfl rfl ?_
  obtain ⟨hc, h⟩ := h
  refine ak_VR (as := [.int x1, .int x2]) (rest := []) d_CB_wantNumberColumn_6 cw_CB_wantNumberColumn_6 rfl rfl rfl (ct_BA_column hg hc) rfl rfl (by decide) sh_1 rfl (Nat.le_of_ble_eq_true rfl) (by decide) (by decide) ?_
  obtain ⟨⟨b1, t1⟩, h⟩ := h
  refine am_getI d_CB_wantNumberColumn_9 fl_CB_106 b1 t1 (by decide) rfl ?_
  refine am_iconst (v := (1 : Int32)) d_CB_wantNumberColumn_12 (by decide) ?_
  refine aj_eq (F := (am_oD s)) (tgt := 24) d_CB_wantNumberColumn_13 (by decide) (fun c => ?_) (fun c => ?_)
  · have h := h.1 c
    exact am_vret d_CB_wantNumberColumn_24 rfl (by decide) (by decide) am_oD_ok
  · have h := h.2 c
    exact am_throw d_CB_wantNumberColumn_16 d_CB_wantNumberColumn_19 d_CB_wantNumberColumn_20 d_CB_wantNumberColumn_23 tw_IAE rfl rfl (by decide) (by decide) (by decide) am_oD_2
theorem ct_CB_wantNumberColumn {l : Launch} {g : am_Gl} (hg : g.2.2.2.1 = true) {s : am_M} {x1 : Int32} {x2 : Int32} (h : p_CB_wantNumberColumn s x1 x2) : AC l g m_CB_wantNumberColumn 207 s [.ref 0, .int x1, .int x2] ((am_oD s) (f_CB_wantNumberColumn s x1 x2)) := am_enter ok_CB_wantNumberColumn rfl (Nat.le_of_ble_eq_true rfl) rfl (fun ad0 => w_CB_wantNumberColumn hg h)
theorem cw_CB_narrow_3 : am_cv m_CB_narrow m_CB_wantColumn 99 2 := ⟨⟨ok_CB_wantColumn, rfl, by decide +kernel, by decide, by decide⟩, aw_3_14, aw_3_16, as_1_2⟩
theorem cw_CB_narrow_9 : am_cv m_CB_narrow m_CB_wantNumberColumn 132 2 := ⟨⟨ok_CB_wantNumberColumn, rfl, by decide +kernel, by decide, by decide⟩, aw_4_73, aw_4_75, as_3_11⟩
theorem cw_CB_narrow_16 : am_cv m_CB_narrow m_CB_wantRange 74 2 := ⟨⟨ok_CB_wantRange, rfl, by decide +kernel, by decide, by decide⟩, aw_2_57, aw_2_59, as_0_3⟩
theorem cw_CB_narrow_29 : am_cv m_CB_narrow m_BA_changeRange 139 4 := ⟨⟨ok_BA_changeRange, rfl, by decide +kernel, by decide, by decide⟩, aw_4_77, aw_4_78, aw_4_79⟩
theorem cw_CB_narrow_32 : am_cv m_CB_narrow m_CB_tell 118 1 := ⟨⟨ok_CB_tell, rfl, by decide +kernel, by decide, by decide⟩, aw_3_1, aw_3_3, as_1_1⟩
def f_CB_narrow  (s : am_M) (x1 : Int32) (x2 : Int32) (x3 : Int32) (x4 : Int32) : Nat × Int32 × am_M := (if (f_CB_wantColumn s x1 x2) = 0 then (if (f_CB_wantNumberColumn s x1 x2) = 0 then (if (f_CB_wantRange s x3 x4) = 0 then (0, (f_CB_tell (f_BA_changeRange s x1 x2 x3 x4).2 (f_BA_changeRange s x1 x2 x3 x4).1).1, (f_CB_tell (f_BA_changeRange s x1 x2 x3 x4).2 (f_BA_changeRange s x1 x2 x3 x4).1).2) else ((f_CB_wantRange s x3 x4), 0, s)) else ((f_CB_wantNumberColumn s x1 x2), 0, s)) else ((f_CB_wantColumn s x1 x2), 0, s))
def p_CB_narrow  (s : am_M) (x1 : Int32) (x2 : Int32) (x3 : Int32) (x4 : Int32) : Prop := p_CB_wantColumn s x1 x2 ∧ ((((f_CB_wantColumn s x1 x2) = 0) → p_CB_wantNumberColumn s x1 x2 ∧ ((((f_CB_wantNumberColumn s x1 x2) = 0) → (((f_CB_wantRange s x3 x4) = 0) → p_BA_changeRange s x1 x2 x3 x4 ∧ (p_CB_tell (f_BA_changeRange s x1 x2 x3 x4).2 (f_BA_changeRange s x1 x2 x3 x4).1 ∧ (((f_CB_tell (f_BA_changeRange s x1 x2 x3 x4).2 (f_BA_changeRange s x1 x2 x3 x4).1).1 = 0 ∨ (f_CB_tell (f_BA_changeRange s x1 x2 x3 x4).2 (f_BA_changeRange s x1 x2 x3 x4).1).1 = 1) ∧ (True))))))))
set_option maxRecDepth 8000 in
theorem w_CB_narrow {l : Launch} {g : am_Gl} (hg : g.2.2.2.1 = true) {ad0 : Nat → Nat} {s : am_M} {x1 : Int32} {x2 : Int32} {x3 : Int32} {x4 : Int32} (h : p_CB_narrow s x1 x2 x3 x4) : AW l g m_CB_narrow 207 ad0 (am_oE (f_CB_narrow s x1 x2 x3 x4)) 0 0 207 s 0 [(0, .ref 0), (1, .int x1), (2, .int x2), (3, .int x3), (4, .int x4)] [] := by
  refine am_aload_n (j := 0) d_CB_narrow_0 rfl rfl ?_
  refine am_iload_n (j := 1) d_CB_narrow_1 rfl rfl ?_
  refine am_iload_n (j := 2) d_CB_narrow_2 rfl rfl ?_
  obtain ⟨hc, h⟩ := h
  refine ak_D (F := am_oE) (as := [.int x1, .int x2]) (rest := []) d_CB_narrow_3 cw_CB_narrow_3 rfl rfl rfl (ct_CB_wantColumn hg hc) rfl rfl (by decide) sh_0 rfl (Nat.le_of_ble_eq_true rfl) (by decide) (by decide) am_oE_x (fun c => ?_)
  have h := h c
  refine am_aload_n (j := 0) d_CB_narrow_6 rfl rfl ?_
  refine am_iload_n (j := 1) d_CB_narrow_7 rfl rfl ?_
  refine am_iload_n (j := 2) d_CB_narrow_8 rfl rfl ?_
  obtain ⟨hc, h⟩ := h
  refine ak_D (F := am_oE) (as := [.int x1, .int x2]) (rest := []) d_CB_narrow_9 cw_CB_narrow_9 rfl rfl rfl (ct_CB_wantNumberColumn hg hc) rfl rfl (by decide) sh_0 rfl (Nat.le_of_ble_eq_true rfl) (by decide) (by decide) am_oE_x (fun c => ?_)
  have h := h c
  refine am_aload_n (j := 0) d_CB_narrow_12 rfl rfl ?_
  refine am_iload_n (j := 3) d_CB_narrow_13 rfl rfl ?_
  refine am_iload (j := 4) d_CB_narrow_14 rfl ?_
  refine ak_D (F := am_oE) (as := [.int x3, .int x4]) (rest := []) d_CB_narrow_16 cw_CB_narrow_16 rfl rfl rfl (ct_CB_wantRange hg) rfl rfl (by decide) sh_0 rfl (Nat.le_of_ble_eq_true rfl) (by decide) (by decide) am_oE_x (fun c => ?_)
  have h := h c
  refine am_aload_n (j := 0) d_CB_narrow_19 rfl rfl ?_
  refine am_aload_n (j := 0) d_CB_narrow_20 rfl rfl ?_
  refine am_getR (t := 1) d_CB_narrow_21 fl_CB_12 hg (by decide) sh_0 (by decide) rfl (by decide) lk_0_0 (by decide) ?_
  refine am_iload_n (j := 1) d_CB_narrow_24 rfl rfl ?_
  refine am_iload_n (j := 2) d_CB_narrow_25 rfl rfl ?_
  refine am_iload_n (j := 3) d_CB_narrow_26 rfl rfl ?_
  refine am_iload (j := 4) d_CB_narrow_27 rfl ?_
  obtain ⟨hc, h⟩ := h
  refine ak_VC (as := [.int x1, .int x2, .int x3, .int x4]) (rest := [.ref 0]) d_CB_narrow_29 cw_CB_narrow_29 rfl rfl rfl (ct_BA_changeRange hg hc) rfl rfl (by decide) sh_1 rfl (Nat.le_of_ble_eq_true rfl) (by decide) (by decide) ?_
  obtain ⟨hc, h⟩ := h
  refine ak_VC (as := [.int (f_BA_changeRange s x1 x2 x3 x4).1]) (rest := []) d_CB_narrow_32 cw_CB_narrow_32 rfl rfl rfl (ct_CB_tell hg hc) rfl rfl (by decide) sh_0 rfl (Nat.le_of_ble_eq_true rfl) (by decide) (by decide) ?_
  obtain ⟨hz, h⟩ := h
  exact am_iret d_CB_narrow_35 rfl (am_bool hz).1 (by decide) (by decide) am_oE_ok
theorem ct_CB_narrow {l : Launch} {g : am_Gl} (hg : g.2.2.2.1 = true) {s : am_M} {x1 : Int32} {x2 : Int32} {x3 : Int32} {x4 : Int32} (h : p_CB_narrow s x1 x2 x3 x4) : AC l g m_CB_narrow 207 s [.ref 0, .int x1, .int x2, .int x3, .int x4] (am_oE (f_CB_narrow s x1 x2 x3 x4)) := am_enter ok_CB_narrow rfl (Nat.le_of_ble_eq_true rfl) rfl (fun ad0 => w_CB_narrow hg h)
theorem cw_CB_wantStored_6 : am_cv m_CB_wantStored m_BA_column 102 2 := ⟨⟨ok_BA_column, rfl, by decide +kernel, by decide, by decide⟩, aw_3_40, aw_2_94, aw_2_95⟩
theorem cw_CB_wantStored_9 : am_cv m_CB_wantStored m_CO_isStored 414 0 := ⟨⟨ok_CO_isStored, rfl, by decide +kernel, by decide, by decide⟩, aw_4_56, aw_2_158, aw_2_159⟩
def f_CB_wantStored  (s : am_M) (x1 : Int32) (x2 : Int32) : Nat := (if (f_CO_isStored s (f_BA_column s x1 x2)) = 0 then 2 else 0)
def p_CB_wantStored  (s : am_M) (x1 : Int32) (x2 : Int32) : Prop := p_BA_column s x1 x2 ∧ (p_CO_isStored s (f_BA_column s x1 x2) ∧ (((f_BA_column s x1 x2) < 207 ∧ am_sh (f_BA_column s x1 x2) = (0, 3, 11)) ∧ ((((f_CO_isStored s (f_BA_column s x1 x2)) = 0) → True) ∧ (¬ ((f_CO_isStored s (f_BA_column s x1 x2)) = 0) → True))))
set_option maxRecDepth 8000 in
theorem w_CB_wantStored {l : Launch} {g : am_Gl} (hg : g.2.2.2.1 = true) {ad0 : Nat → Nat} {s : am_M} {x1 : Int32} {x2 : Int32} (h : p_CB_wantStored s x1 x2) : AW l g m_CB_wantStored 207 ad0 ((am_oD s) (f_CB_wantStored s x1 x2)) 0 0 207 s 0 [(0, .ref 0), (1, .int x1), (2, .int x2)] [] := by
  refine am_aload_n (j := 0) d_CB_wantStored_0 rfl rfl ?_
  refine am_getR (t := 1) d_CB_wantStored_1 fl_CB_12 hg (by decide) sh_0 (by decide) rfl (by decide) lk_0_0 (by decide) ?_
  refine am_iload_n (j := 1) d_CB_wantStored_4 rfl rfl ?_
  refine am_iload_n (j := 2) d_CB_wantStored_5 rfl rfl ?_
  obtain ⟨hc, h⟩ := h
  refine ak_VR (as := [.int x1, .int x2]) (rest := []) d_CB_wantStored_6 cw_CB_wantStored_6 rfl rfl rfl (ct_BA_column hg hc) rfl rfl (by decide) sh_1 rfl (Nat.le_of_ble_eq_true rfl) (by decide) (by decide) ?_
  obtain ⟨hc, h⟩ := h
  obtain ⟨⟨b1, t1⟩, h⟩ := h
  refine ak_VI (as := []) (rest := []) d_CB_wantStored_9 cw_CB_wantStored_9 rfl rfl rfl (ct_CO_isStored hg hc) rfl rfl b1 t1 rfl (Nat.le_of_ble_eq_true rfl) (by decide) (by decide) ?_
  refine ai_ne (F := (am_oD s)) (tgt := 23) d_CB_wantStored_12 (by decide) (fun c => ?_) (fun c => ?_)
  · have h := h.2 c
    exact am_vret d_CB_wantStored_23 rfl (by decide) (by decide) am_oD_ok
  · have h := h.1 c
    exact am_throw d_CB_wantStored_15 d_CB_wantStored_18 d_CB_wantStored_19 d_CB_wantStored_22 tw_IAE rfl rfl (by decide) (by decide) (by decide) am_oD_2
theorem ct_CB_wantStored {l : Launch} {g : am_Gl} (hg : g.2.2.2.1 = true) {s : am_M} {x1 : Int32} {x2 : Int32} (h : p_CB_wantStored s x1 x2) : AC l g m_CB_wantStored 207 s [.ref 0, .int x1, .int x2] ((am_oD s) (f_CB_wantStored s x1 x2)) := am_enter ok_CB_wantStored rfl (Nat.le_of_ble_eq_true rfl) rfl (fun ad0 => w_CB_wantStored hg h)
theorem cw_CB_need_3 : am_cv m_CB_need m_CB_wantColumn 99 2 := ⟨⟨ok_CB_wantColumn, rfl, by decide +kernel, by decide, by decide⟩, aw_3_14, aw_3_16, as_1_2⟩
theorem cw_CB_need_9 : am_cv m_CB_need m_CB_wantStored 122 2 := ⟨⟨ok_CB_wantStored, rfl, by decide +kernel, by decide, by decide⟩, aw_4_52, aw_4_54, as_3_10⟩
theorem cw_CB_need_20 : am_cv m_CB_need m_BA_changeNeeded 125 3 := ⟨⟨ok_BA_changeNeeded, rfl, by decide +kernel, by decide, by decide⟩, aw_4_57, aw_4_58, aw_4_59⟩
theorem cw_CB_need_23 : am_cv m_CB_need m_CB_tell 118 1 := ⟨⟨ok_CB_tell, rfl, by decide +kernel, by decide, by decide⟩, aw_3_1, aw_3_3, as_1_1⟩
def f_CB_need  (s : am_M) (x1 : Int32) (x2 : Int32) (x3 : Int32) : Nat × Int32 × am_M := (if (f_CB_wantColumn s x1 x2) = 0 then (if (f_CB_wantStored s x1 x2) = 0 then (0, (f_CB_tell (f_BA_changeNeeded s x1 x2 x3).2 (f_BA_changeNeeded s x1 x2 x3).1).1, (f_CB_tell (f_BA_changeNeeded s x1 x2 x3).2 (f_BA_changeNeeded s x1 x2 x3).1).2) else ((f_CB_wantStored s x1 x2), 0, s)) else ((f_CB_wantColumn s x1 x2), 0, s))
def p_CB_need  (s : am_M) (x1 : Int32) (x2 : Int32) (x3 : Int32) : Prop := p_CB_wantColumn s x1 x2 ∧ ((((f_CB_wantColumn s x1 x2) = 0) → p_CB_wantStored s x1 x2 ∧ ((((f_CB_wantStored s x1 x2) = 0) → p_BA_changeNeeded s x1 x2 x3 ∧ (p_CB_tell (f_BA_changeNeeded s x1 x2 x3).2 (f_BA_changeNeeded s x1 x2 x3).1 ∧ (((f_CB_tell (f_BA_changeNeeded s x1 x2 x3).2 (f_BA_changeNeeded s x1 x2 x3).1).1 = 0 ∨ (f_CB_tell (f_BA_changeNeeded s x1 x2 x3).2 (f_BA_changeNeeded s x1 x2 x3).1).1 = 1) ∧ (True)))))))
set_option maxRecDepth 8000 in
theorem w_CB_need {l : Launch} {g : am_Gl} (hg : g.2.2.2.1 = true) {ad0 : Nat → Nat} {s : am_M} {x1 : Int32} {x2 : Int32} {x3 : Int32} (h : p_CB_need s x1 x2 x3) : AW l g m_CB_need 207 ad0 (am_oE (f_CB_need s x1 x2 x3)) 0 0 207 s 0 [(0, .ref 0), (1, .int x1), (2, .int x2), (3, .int x3)] [] := by
  refine am_aload_n (j := 0) d_CB_need_0 rfl rfl ?_
  refine am_iload_n (j := 1) d_CB_need_1 rfl rfl ?_
  refine am_iload_n (j := 2) d_CB_need_2 rfl rfl ?_
  obtain ⟨hc, h⟩ := h
  refine ak_D (F := am_oE) (as := [.int x1, .int x2]) (rest := []) d_CB_need_3 cw_CB_need_3 rfl rfl rfl (ct_CB_wantColumn hg hc) rfl rfl (by decide) sh_0 rfl (Nat.le_of_ble_eq_true rfl) (by decide) (by decide) am_oE_x (fun c => ?_)
  have h := h c
  refine am_aload_n (j := 0) d_CB_need_6 rfl rfl ?_
  refine am_iload_n (j := 1) d_CB_need_7 rfl rfl ?_
  refine am_iload_n (j := 2) d_CB_need_8 rfl rfl ?_
  obtain ⟨hc, h⟩ := h
  refine ak_D (F := am_oE) (as := [.int x1, .int x2]) (rest := []) d_CB_need_9 cw_CB_need_9 rfl rfl rfl (ct_CB_wantStored hg hc) rfl rfl (by decide) sh_0 rfl (Nat.le_of_ble_eq_true rfl) (by decide) (by decide) am_oE_x (fun c => ?_)
  have h := h c
  refine am_aload_n (j := 0) d_CB_need_12 rfl rfl ?_
  refine am_aload_n (j := 0) d_CB_need_13 rfl rfl ?_
  refine am_getR (t := 1) d_CB_need_14 fl_CB_12 hg (by decide) sh_0 (by decide) rfl (by decide) lk_0_0 (by decide) ?_
  refine am_iload_n (j := 1) d_CB_need_17 rfl rfl ?_
  refine am_iload_n (j := 2) d_CB_need_18 rfl rfl ?_
  refine am_iload_n (j := 3) d_CB_need_19 rfl rfl ?_
  obtain ⟨hc, h⟩ := h
  refine ak_VC (as := [.int x1, .int x2, .int x3]) (rest := [.ref 0]) d_CB_need_20 cw_CB_need_20 rfl rfl rfl (ct_BA_changeNeeded hg hc) rfl rfl (by decide) sh_1 rfl (Nat.le_of_ble_eq_true rfl) (by decide) (by decide) ?_
  obtain ⟨hc, h⟩ := h
  refine ak_VC (as := [.int (f_BA_changeNeeded s x1 x2 x3).1]) (rest := []) d_CB_need_23 cw_CB_need_23 rfl rfl rfl (ct_CB_tell hg hc) rfl rfl (by decide) sh_0 rfl (Nat.le_of_ble_eq_true rfl) (by decide) (by decide) ?_
  obtain ⟨hz, h⟩ := h
  exact am_iret d_CB_need_26 rfl (am_bool hz).1 (by decide) (by decide) am_oE_ok
theorem ct_CB_need {l : Launch} {g : am_Gl} (hg : g.2.2.2.1 = true) {s : am_M} {x1 : Int32} {x2 : Int32} {x3 : Int32} (h : p_CB_need s x1 x2 x3) : AC l g m_CB_need 207 s [.ref 0, .int x1, .int x2, .int x3] (am_oE (f_CB_need s x1 x2 x3)) := am_enter ok_CB_need rfl (Nat.le_of_ble_eq_true rfl) rfl (fun ad0 => w_CB_need hg h)
theorem cw_CB_openForm_3 : am_cv m_CB_openForm m_CB_wantRow 228 2 := ⟨⟨ok_CB_wantRow, rfl, by decide +kernel, by decide, by decide⟩, aw_3_45, aw_3_47, as_1_6⟩
theorem cw_CB_openForm_26 : am_cv m_CB_openForm m_RO_serialOf 240 2 := ⟨⟨ok_RO_serialOf, rfl, by decide +kernel, by decide, by decide⟩, aw_3_28, aw_3_29, aw_3_30⟩
def f_CB_openForm  (s : am_M) (x1 : Int32) (x2 : Int32) : Nat × am_M := (if (f_CB_wantRow s x1 x2) = 0 then (0, (am_set (am_set (am_set s 0 8 x1) 0 9 x2) 0 10 (f_RO_serialOf (am_set (am_set s 0 8 x1) 0 9 x2) 8 x1 x2))) else ((f_CB_wantRow s x1 x2), s))
def p_CB_openForm  (s : am_M) (x1 : Int32) (x2 : Int32) : Prop := p_CB_wantRow s x1 x2 ∧ ((((f_CB_wantRow s x1 x2) = 0) → p_RO_serialOf (am_set (am_set s 0 8 x1) 0 9 x2) 8 x1 x2 ∧ (True)))
set_option maxRecDepth 8000 in
theorem w_CB_openForm {l : Launch} {g : am_Gl} (hg : g.2.2.2.1 = true) {ad0 : Nat → Nat} {s : am_M} {x1 : Int32} {x2 : Int32} (h : p_CB_openForm s x1 x2) : AW l g m_CB_openForm 207 ad0 (am_oV (f_CB_openForm s x1 x2)) 0 0 207 s 0 [(0, .ref 0), (1, .int x1), (2, .int x2)] [] := by
  refine am_aload_n (j := 0) d_CB_openForm_0 rfl rfl ?_
  refine am_iload_n (j := 1) d_CB_openForm_1 rfl rfl ?_
  refine am_iload_n (j := 2) d_CB_openForm_2 rfl rfl ?_
  obtain ⟨hc, h⟩ := h
  refine ak_D (F := am_oV) (as := [.int x1, .int x2]) (rest := []) d_CB_openForm_3 cw_CB_openForm_3 rfl rfl rfl (ct_CB_wantRow hg hc) rfl rfl (by decide) sh_0 rfl (Nat.le_of_ble_eq_true rfl) (by decide) (by decide) am_oV_x (fun c => ?_)
  have h := h c
  refine am_aload_n (j := 0) d_CB_openForm_6 rfl rfl ?_
  refine am_iload_n (j := 1) d_CB_openForm_7 rfl rfl ?_
  refine am_putI (ty := .int) d_CB_openForm_8 fl_CB_57 ft_9_8 (by decide) sh_0 (by decide) rfl rfl rfl ?_
  refine am_aload_n (j := 0) d_CB_openForm_11 rfl rfl ?_
  refine am_iload_n (j := 2) d_CB_openForm_12 rfl rfl ?_
  refine am_putI (ty := .int) d_CB_openForm_13 fl_CB_237 ft_9_9 (by decide) sh_0 (by decide) rfl rfl rfl ?_
  refine am_aload_n (j := 0) d_CB_openForm_16 rfl rfl ?_
  refine am_aload_n (j := 0) d_CB_openForm_17 rfl rfl ?_
  refine am_getR (t := 1) d_CB_openForm_18 fl_CB_12 hg (by decide) sh_0 (by decide) rfl (by decide) lk_0_0 (by decide) ?_
  refine am_getR (t := 8) d_CB_openForm_21 fl_CB_213 hg (by decide) sh_1 (by decide) rfl (by decide) lk_1_9 (by decide) ?_
  refine am_iload_n (j := 1) d_CB_openForm_24 rfl rfl ?_
  refine am_iload_n (j := 2) d_CB_openForm_25 rfl rfl ?_
  obtain ⟨hc, h⟩ := h
  refine ak_VI (as := [.int x1, .int x2]) (rest := [.ref 0]) d_CB_openForm_26 cw_CB_openForm_26 rfl rfl rfl (ct_RO_serialOf hg hc) rfl rfl (by decide) sh_8 rfl (Nat.le_of_ble_eq_true rfl) (by decide) (by decide) ?_
  refine am_putI (ty := .int) d_CB_openForm_29 fl_CB_243 ft_9_10 (by decide) sh_0 (by decide) rfl rfl rfl ?_
  exact am_vret d_CB_openForm_32 rfl (by decide) (by decide) am_oV_ok
theorem ct_CB_openForm {l : Launch} {g : am_Gl} (hg : g.2.2.2.1 = true) {s : am_M} {x1 : Int32} {x2 : Int32} (h : p_CB_openForm s x1 x2) : AC l g m_CB_openForm 207 s [.ref 0, .int x1, .int x2] (am_oV (f_CB_openForm s x1 x2)) := am_enter ok_CB_openForm rfl (Nat.le_of_ble_eq_true rfl) rfl (fun ad0 => w_CB_openForm hg h)
def f_CB_order  (s : am_M) (x1 : Int32) : Nat × Int32 × am_M := (if x1 < 0 then (1, 0, s) else (if (s 1 8) ≤ x1 then (1, 0, s) else (if x1 < (24 : Int32) then (0, (s 7 (x1).toNatClampNeg), s) else (1, 0, s))))
def p_CB_order  (s : am_M) (x1 : Int32) : Prop := ((x1 < 0) → True) ∧ (¬ (x1 < 0) → (((s 1 8) ≤ x1) → True) ∧ (¬ ((s 1 8) ≤ x1) → ((x1 < (24 : Int32)) → vp_in x1 24 ∧ (True)) ∧ (¬ (x1 < (24 : Int32)) → True)))
set_option maxRecDepth 8000 in
theorem w_CB_order {l : Launch} {g : am_Gl} (hg : g.2.2.2.1 = true) {ad0 : Nat → Nat} {s : am_M} {x1 : Int32} (h : p_CB_order s x1) : AW l g m_CB_order 207 ad0 (am_oE (f_CB_order s x1)) 0 0 207 s 0 [(0, .ref 0), (1, .int x1)] [] := by
  refine am_iload_n (j := 1) d_CB_order_0 rfl rfl ?_
  refine ai_lt (F := am_oE) (tgt := 27) d_CB_order_1 (by decide) (fun c => ?_) (fun c => ?_)
  · have h := h.1 c
    exact am_throw d_CB_order_27 d_CB_order_30 d_CB_order_31 d_CB_order_34 tw_IOB rfl rfl (by decide) (by decide) (by decide) am_oE_1
  · have h := h.2 c
    refine am_iload_n (j := 1) d_CB_order_4 rfl rfl ?_
    refine am_aload_n (j := 0) d_CB_order_5 rfl rfl ?_
    refine am_getR (t := 1) d_CB_order_6 fl_CB_12 hg (by decide) sh_0 (by decide) rfl (by decide) lk_0_0 (by decide) ?_
    refine am_getI d_CB_order_9 fl_CB_191 (by decide) sh_1 (by decide) rfl ?_
    refine aj_ge (F := am_oE) (tgt := 27) d_CB_order_12 (by decide) (fun c => ?_) (fun c => ?_)
    · have h := h.1 c
      exact am_throw d_CB_order_27 d_CB_order_30 d_CB_order_31 d_CB_order_34 tw_IOB rfl rfl (by decide) (by decide) (by decide) am_oE_1
    · have h := h.2 c
      refine am_iload_n (j := 1) d_CB_order_15 rfl rfl ?_
      refine am_aload_n (j := 0) d_CB_order_16 rfl rfl ?_
      refine am_getR (t := 1) d_CB_order_17 fl_CB_12 hg (by decide) sh_0 (by decide) rfl (by decide) lk_0_0 (by decide) ?_
      refine am_getR (t := 7) d_CB_order_20 fl_CB_194 hg (by decide) sh_1 (by decide) rfl (by decide) lk_1_7 (by decide) ?_
      refine am_alen (v := (24 : Int32)) d_CB_order_23 (by decide) sh_7 (by decide) (by decide) ?_
      refine aj_lt (F := am_oE) (tgt := 35) d_CB_order_24 (by decide) (fun c => ?_) (fun c => ?_)
      · have h := h.1 c
        refine am_aload_n (j := 0) d_CB_order_35 rfl rfl ?_
        refine am_getR (t := 1) d_CB_order_36 fl_CB_12 hg (by decide) sh_0 (by decide) rfl (by decide) lk_0_0 (by decide) ?_
        refine am_getR (t := 7) d_CB_order_39 fl_CB_194 hg (by decide) sh_1 (by decide) rfl (by decide) lk_1_7 (by decide) ?_
        refine am_iload_n (j := 1) d_CB_order_42 rfl rfl ?_
        obtain ⟨hv, h⟩ := h
        refine am_iald d_CB_order_43 (by decide) sh_7 hv ?_
        exact am_iret d_CB_order_44 rfl rfl (by decide) (by decide) am_oE_ok
      · have h := h.2 c
        exact am_throw d_CB_order_27 d_CB_order_30 d_CB_order_31 d_CB_order_34 tw_IOB rfl rfl (by decide) (by decide) (by decide) am_oE_1
theorem ct_CB_order {l : Launch} {g : am_Gl} (hg : g.2.2.2.1 = true) {s : am_M} {x1 : Int32} (h : p_CB_order s x1) : AC l g m_CB_order 207 s [.ref 0, .int x1] (am_oE (f_CB_order s x1)) := am_enter ok_CB_order rfl (Nat.le_of_ble_eq_true rfl) rfl (fun ad0 => w_CB_order hg h)
def f_CB_wantValue  (s : am_M) (x1 : Int32) : Nat := (if x1 = (-1000000 : Int32) then 0 else (if x1 < (-9999 : Int32) then 2 else (if x1 ≤ (9999 : Int32) then 0 else 2)))
def p_CB_wantValue  (s : am_M) (x1 : Int32) : Prop := ((x1 = (-1000000 : Int32)) → True) ∧ (¬ (x1 = (-1000000 : Int32)) → ((x1 < (-9999 : Int32)) → True) ∧ (¬ (x1 < (-9999 : Int32)) → ((x1 ≤ (9999 : Int32)) → True) ∧ (¬ (x1 ≤ (9999 : Int32)) → True)))
set_option maxRecDepth 8000 in
theorem w_CB_wantValue {l : Launch} {g : am_Gl} (hg : g.2.2.2.1 = true) {ad0 : Nat → Nat} {s : am_M} {x1 : Int32} : AW l g m_CB_wantValue 207 ad0 ((am_oD s) (f_CB_wantValue s x1)) 0 0 207 s 0 [(0, .ref 0), (1, .int x1)] [] := by
  have h : p_CB_wantValue s x1 := by
    unfold p_CB_wantValue
    first | exact trivial | simp
  refine am_iload_n (j := 1) d_CB_wantValue_0 rfl rfl ?_
  refine am_ldc (v := (-1000000 : Int32)) d_CB_wantValue_1 aw_1_99 ?_
  refine aj_eq (F := (am_oD s)) (tgt := 28) d_CB_wantValue_3 (by decide) (fun c => ?_) (fun c => ?_)
  · have h := h.1 c
    exact am_vret d_CB_wantValue_28 rfl (by decide) (by decide) am_oD_ok
  · have h := h.2 c
    refine am_iload_n (j := 1) d_CB_wantValue_6 rfl rfl ?_
    refine am_sipush (v := (-9999 : Int32)) d_CB_wantValue_7 (by decide) ?_
    refine aj_lt (F := (am_oD s)) (tgt := 20) d_CB_wantValue_10 (by decide) (fun c => ?_) (fun c => ?_)
    · have h := h.1 c
      exact am_throw d_CB_wantValue_20 d_CB_wantValue_23 d_CB_wantValue_24 d_CB_wantValue_27 tw_IAE rfl rfl (by decide) (by decide) (by decide) am_oD_2
    · have h := h.2 c
      refine am_iload_n (j := 1) d_CB_wantValue_13 rfl rfl ?_
      refine am_sipush (v := (9999 : Int32)) d_CB_wantValue_14 (by decide) ?_
      refine aj_le (F := (am_oD s)) (tgt := 28) d_CB_wantValue_17 (by decide) (fun c => ?_) (fun c => ?_)
      · have h := h.1 c
        exact am_vret d_CB_wantValue_28 rfl (by decide) (by decide) am_oD_ok
      · have h := h.2 c
        exact am_throw d_CB_wantValue_20 d_CB_wantValue_23 d_CB_wantValue_24 d_CB_wantValue_27 tw_IAE rfl rfl (by decide) (by decide) (by decide) am_oD_2
theorem ct_CB_wantValue {l : Launch} {g : am_Gl} (hg : g.2.2.2.1 = true) {s : am_M} {x1 : Int32} : AC l g m_CB_wantValue 207 s [.ref 0, .int x1] ((am_oD s) (f_CB_wantValue s x1)) := am_enter ok_CB_wantValue rfl (Nat.le_of_ble_eq_true rfl) rfl (fun ad0 => w_CB_wantValue hg)
theorem cw_CB_put_3 : am_cv m_CB_put m_CB_wantRow 228 2 := ⟨⟨ok_CB_wantRow, rfl, by decide +kernel, by decide, by decide⟩, aw_3_45, aw_3_47, as_1_6⟩
theorem cw_CB_put_9 : am_cv m_CB_put m_CB_wantColumn 99 2 := ⟨⟨ok_CB_wantColumn, rfl, by decide +kernel, by decide, by decide⟩, aw_3_14, aw_3_16, as_1_2⟩
theorem cw_CB_put_15 : am_cv m_CB_put m_CB_wantStored 122 2 := ⟨⟨ok_CB_wantStored, rfl, by decide +kernel, by decide, by decide⟩, aw_4_52, aw_4_54, as_3_10⟩
theorem cw_CB_put_21 : am_cv m_CB_put m_CB_wantValue 210 1 := ⟨⟨ok_CB_wantValue, rfl, by decide +kernel, by decide, by decide⟩, aw_2_121, aw_2_123, as_0_7⟩
theorem cw_CB_put_38 : am_cv m_CB_put m_BA_putThrough 231 3 := ⟨⟨ok_BA_putThrough, rfl, by decide +kernel, by decide, by decide⟩, aw_3_191, aw_3_192, aw_3_193⟩
theorem cw_CB_put_41 : am_cv m_CB_put m_CB_tell 118 1 := ⟨⟨ok_CB_tell, rfl, by decide +kernel, by decide, by decide⟩, aw_3_1, aw_3_3, as_1_1⟩
def f_CB_put  (s : am_M) (x1 : Int32) (x2 : Int32) (x3 : Int32) (x4 : Int32) : Nat × Int32 × am_M := (if (f_CB_wantRow s x1 x2) = 0 then (if (f_CB_wantColumn s x1 x3) = 0 then (if (f_CB_wantStored s x1 x3) = 0 then (if (f_CB_wantValue s x4) = 0 then (0, (f_CB_tell (f_BA_putThrough s (((10 : Int32) * x1) + x3) x2 x4).2 (f_BA_putThrough s (((10 : Int32) * x1) + x3) x2 x4).1).1, (f_CB_tell (f_BA_putThrough s (((10 : Int32) * x1) + x3) x2 x4).2 (f_BA_putThrough s (((10 : Int32) * x1) + x3) x2 x4).1).2) else ((f_CB_wantValue s x4), 0, s)) else ((f_CB_wantStored s x1 x3), 0, s)) else ((f_CB_wantColumn s x1 x3), 0, s)) else ((f_CB_wantRow s x1 x2), 0, s))
def p_CB_put  (s : am_M) (x1 : Int32) (x2 : Int32) (x3 : Int32) (x4 : Int32) : Prop := p_CB_wantRow s x1 x2 ∧ ((((f_CB_wantRow s x1 x2) = 0) → p_CB_wantColumn s x1 x3 ∧ ((((f_CB_wantColumn s x1 x3) = 0) → p_CB_wantStored s x1 x3 ∧ ((((f_CB_wantStored s x1 x3) = 0) → (((f_CB_wantValue s x4) = 0) → p_BA_putThrough s (((10 : Int32) * x1) + x3) x2 x4 ∧ (p_CB_tell (f_BA_putThrough s (((10 : Int32) * x1) + x3) x2 x4).2 (f_BA_putThrough s (((10 : Int32) * x1) + x3) x2 x4).1 ∧ (((f_CB_tell (f_BA_putThrough s (((10 : Int32) * x1) + x3) x2 x4).2 (f_BA_putThrough s (((10 : Int32) * x1) + x3) x2 x4).1).1 = 0 ∨ (f_CB_tell (f_BA_putThrough s (((10 : Int32) * x1) + x3) x2 x4).2 (f_BA_putThrough s (((10 : Int32) * x1) + x3) x2 x4).1).1 = 1) ∧ (True))))))))))
set_option maxRecDepth 8000 in
theorem w_CB_put {l : Launch} {g : am_Gl} (hg : g.2.2.2.1 = true) {ad0 : Nat → Nat} {s : am_M} {x1 : Int32} {x2 : Int32} {x3 : Int32} {x4 : Int32} (h : p_CB_put s x1 x2 x3 x4) : AW l g m_CB_put 207 ad0 (am_oE (f_CB_put s x1 x2 x3 x4)) 0 0 207 s 0 [(0, .ref 0), (1, .int x1), (2, .int x2), (3, .int x3), (4, .int x4)] [] := by
  refine am_aload_n (j := 0) d_CB_put_0 rfl rfl ?_
  refine am_iload_n (j := 1) d_CB_put_1 rfl rfl ?_
  refine am_iload_n (j := 2) d_CB_put_2 rfl rfl ?_
  obtain ⟨hc, h⟩ := h
  refine ak_D (F := am_oE) (as := [.int x1, .int x2]) (rest := []) d_CB_put_3 cw_CB_put_3 rfl rfl rfl (ct_CB_wantRow hg hc) rfl rfl (by decide) sh_0 rfl (Nat.le_of_ble_eq_true rfl) (by decide) (by decide) am_oE_x (fun c => ?_)
  have h := h c
  refine am_aload_n (j := 0) d_CB_put_6 rfl rfl ?_
  refine am_iload_n (j := 1) d_CB_put_7 rfl rfl ?_
  refine am_iload_n (j := 3) d_CB_put_8 rfl rfl ?_
  obtain ⟨hc, h⟩ := h
  refine ak_D (F := am_oE) (as := [.int x1, .int x3]) (rest := []) d_CB_put_9 cw_CB_put_9 rfl rfl rfl (ct_CB_wantColumn hg hc) rfl rfl (by decide) sh_0 rfl (Nat.le_of_ble_eq_true rfl) (by decide) (by decide) am_oE_x (fun c => ?_)
  have h := h c
  refine am_aload_n (j := 0) d_CB_put_12 rfl rfl ?_
  refine am_iload_n (j := 1) d_CB_put_13 rfl rfl ?_
  refine am_iload_n (j := 3) d_CB_put_14 rfl rfl ?_
  obtain ⟨hc, h⟩ := h
  refine ak_D (F := am_oE) (as := [.int x1, .int x3]) (rest := []) d_CB_put_15 cw_CB_put_15 rfl rfl rfl (ct_CB_wantStored hg hc) rfl rfl (by decide) sh_0 rfl (Nat.le_of_ble_eq_true rfl) (by decide) (by decide) am_oE_x (fun c => ?_)
  have h := h c
  refine am_aload_n (j := 0) d_CB_put_18 rfl rfl ?_
  refine am_iload (j := 4) d_CB_put_19 rfl ?_
  refine ak_D (F := am_oE) (as := [.int x4]) (rest := []) d_CB_put_21 cw_CB_put_21 rfl rfl rfl (ct_CB_wantValue hg) rfl rfl (by decide) sh_0 rfl (Nat.le_of_ble_eq_true rfl) (by decide) (by decide) am_oE_x (fun c => ?_)
  have h := h c
  refine am_aload_n (j := 0) d_CB_put_24 rfl rfl ?_
  refine am_aload_n (j := 0) d_CB_put_25 rfl rfl ?_
  refine am_getR (t := 1) d_CB_put_26 fl_CB_12 hg (by decide) sh_0 (by decide) rfl (by decide) lk_0_0 (by decide) ?_
  refine am_bipush (v := (10 : Int32)) d_CB_put_29 (by decide) ?_
  refine am_iload_n (j := 1) d_CB_put_31 rfl rfl ?_
  refine am_imul d_CB_put_32 ?_
  refine am_iload_n (j := 3) d_CB_put_33 rfl rfl ?_
  refine am_iadd d_CB_put_34 ?_
  refine am_iload_n (j := 2) d_CB_put_35 rfl rfl ?_
  refine am_iload (j := 4) d_CB_put_36 rfl ?_
  obtain ⟨hc, h⟩ := h
  refine ak_VC (as := [.int (((10 : Int32) * x1) + x3), .int x2, .int x4]) (rest := [.ref 0]) d_CB_put_38 cw_CB_put_38 rfl rfl rfl (ct_BA_putThrough hg hc) rfl rfl (by decide) sh_1 rfl (Nat.le_of_ble_eq_true rfl) (by decide) (by decide) ?_
  obtain ⟨hc, h⟩ := h
  refine ak_VC (as := [.int (f_BA_putThrough s (((10 : Int32) * x1) + x3) x2 x4).1]) (rest := []) d_CB_put_41 cw_CB_put_41 rfl rfl rfl (ct_CB_tell hg hc) rfl rfl (by decide) sh_0 rfl (Nat.le_of_ble_eq_true rfl) (by decide) (by decide) ?_
  obtain ⟨hz, h⟩ := h
  exact am_iret d_CB_put_44 rfl (am_bool hz).1 (by decide) (by decide) am_oE_ok
theorem ct_CB_put {l : Launch} {g : am_Gl} (hg : g.2.2.2.1 = true) {s : am_M} {x1 : Int32} {x2 : Int32} {x3 : Int32} {x4 : Int32} (h : p_CB_put s x1 x2 x3 x4) : AC l g m_CB_put 207 s [.ref 0, .int x1, .int x2, .int x3, .int x4] (am_oE (f_CB_put s x1 x2 x3 x4)) := am_enter ok_CB_put rfl (Nat.le_of_ble_eq_true rfl) rfl (fun ad0 => w_CB_put hg h)
theorem cw_CB_putInAll_8 : am_cv m_CB_putInAll m_AS_find 316 1 := ⟨⟨ok_AS_find, rfl, by decide +kernel, by decide, by decide⟩, aw_3_102, aw_3_103, aw_3_104⟩
theorem cw_CB_putInAll_20 : am_cv m_CB_putInAll m_AS_question 298 1 := ⟨⟨ok_AS_question, rfl, by decide +kernel, by decide, by decide⟩, aw_3_182, aw_3_107, aw_3_108⟩
theorem cw_CB_putInAll_27 : am_cv m_CB_putInAll m_QU_originOf 331 1 := ⟨⟨ok_QU_originOf, rfl, by decide +kernel, by decide, by decide⟩, aw_3_183, aw_3_184, aw_3_185⟩
theorem cw_CB_putInAll_59 : am_cv m_CB_putInAll m_AS_rowOf 336 3 := ⟨⟨ok_AS_rowOf, rfl, by decide +kernel, by decide, by decide⟩, aw_3_187, aw_3_188, aw_3_189⟩
theorem cw_CB_putInAll_66 : am_cv m_CB_putInAll m_BA_putThrough 231 3 := ⟨⟨ok_BA_putThrough, rfl, by decide +kernel, by decide, by decide⟩, aw_3_191, aw_3_192, aw_3_193⟩
def f_CB_putInAll_34  : Nat → am_M → Nat → Int32 → Int32 → Int32 → Int32 × am_M
  | 0, s, x1, x2, x3, x4 => (0, s)
  | n + 1, s, x1, x2, x3, x4 => (if x2 ≤ x4 then ((1 : Int32), s) else (if (f_BA_putThrough s x3 (f_AS_rowOf s (s x1 1) x4 (s x1 2)) (s x1 3)).1 = 0 then ((0 : Int32), (f_BA_putThrough s x3 (f_AS_rowOf s (s x1 1) x4 (s x1 2)) (s x1 3)).2) else ((f_CB_putInAll_34  n) (f_BA_putThrough s x3 (f_AS_rowOf s (s x1 1) x4 (s x1 2)) (s x1 3)).2 x1 x2 x3 (x4 + (1 : Int32)))))
def p_CB_putInAll_34  : Nat → am_M → Nat → Int32 → Int32 → Int32 → Prop
  | 0, s, x1, x2, x3, x4 => False
  | n + 1, s, x1, x2, x3, x4 => ((x2 ≤ x4) → True) ∧ (¬ (x2 ≤ x4) → (x1 < 207 ∧ am_sh x1 = (0, 8, 5)) ∧ (p_AS_rowOf s (s x1 1) x4 (s x1 2) ∧ (p_BA_putThrough s x3 (f_AS_rowOf s (s x1 1) x4 (s x1 2)) (s x1 3) ∧ ((((f_BA_putThrough s x3 (f_AS_rowOf s (s x1 1) x4 (s x1 2)) (s x1 3)).1 = 0) → True) ∧ (¬ ((f_BA_putThrough s x3 (f_AS_rowOf s (s x1 1) x4 (s x1 2)) (s x1 3)).1 = 0) → ((p_CB_putInAll_34  n) (f_BA_putThrough s x3 (f_AS_rowOf s (s x1 1) x4 (s x1 2)) (s x1 3)).2 x1 x2 x3 (x4 + (1 : Int32))))))))
set_option maxRecDepth 8000 in
theorem w_CB_putInAll_34 {l : Launch} {g : am_Gl} (hg : g.2.2.2.1 = true) {ad0 : Nat → Nat}   : ∀ (n : Nat) (s : am_M) (x1 : Nat) (x2 : Int32) (x3 : Int32) (x4 : Int32), p_CB_putInAll_34  n s x1 x2 x3 x4 → AW l g m_CB_putInAll 207 ad0 (am_oC (f_CB_putInAll_34  n s x1 x2 x3 x4)) 0 0 207 s 34 [(0, .ref 0), (1, .ref x1), (2, .int x2), (3, .int x3), (4, .int x4)] [] := by
  intro n
  induction n with
  | zero => intro s x1 x2 x3 x4 h; exact h.elim
  | succ n hK34 =>
    intro s x1 x2 x3 x4 h
    refine am_iload (j := 4) d_CB_putInAll_34 rfl ?_
    refine am_iload_n (j := 2) d_CB_putInAll_36 rfl rfl ?_
    refine aj_ge (F := am_oC) (tgt := 80) d_CB_putInAll_37 (by decide) (fun c => ?_) (fun c => ?_)
    · have h := h.1 c
      refine am_iconst (v := (1 : Int32)) d_CB_putInAll_80 (by decide) ?_
      exact am_iret d_CB_putInAll_81 rfl (am_bool (Or.inr rfl)).1 (by decide) (by decide) am_oC_ok
    · have h := h.2 c
      refine am_aload_n (j := 0) d_CB_putInAll_40 rfl rfl ?_
      refine am_getR (t := 1) d_CB_putInAll_41 fl_CB_12 hg (by decide) sh_0 (by decide) rfl (by decide) lk_0_0 (by decide) ?_
      refine am_iload_n (j := 3) d_CB_putInAll_44 rfl rfl ?_
      refine am_aload_n (j := 0) d_CB_putInAll_45 rfl rfl ?_
      refine am_getR (t := 52) d_CB_putInAll_46 fl_CB_21 hg (by decide) sh_0 (by decide) rfl (by decide) lk_0_1 (by decide) ?_
      refine am_aload_n (j := 1) d_CB_putInAll_49 rfl rfl ?_
      obtain ⟨⟨b1, t1⟩, h⟩ := h
      refine am_getI d_CB_putInAll_50 fl_CB_378 b1 t1 (by decide) rfl ?_
      refine am_iload (j := 4) d_CB_putInAll_53 rfl ?_
      refine am_aload_n (j := 1) d_CB_putInAll_55 rfl rfl ?_
      refine am_getI d_CB_putInAll_56 fl_CB_405 b1 t1 (by decide) rfl ?_
      obtain ⟨hc, h⟩ := h
      refine ak_VI (as := [.int (s x1 1), .int x4, .int (s x1 2)]) (rest := [.int x3, .ref 1]) d_CB_putInAll_59 cw_CB_putInAll_59 rfl rfl rfl (ct_AS_rowOf hg hc) rfl rfl (by decide) sh_52 rfl (Nat.le_of_ble_eq_true rfl) (by decide) (by decide) ?_
      refine am_aload_n (j := 1) d_CB_putInAll_62 rfl rfl ?_
      refine am_getI d_CB_putInAll_63 fl_CB_380 b1 t1 (by decide) rfl ?_
      obtain ⟨hc, h⟩ := h
      refine ak_VC (as := [.int x3, .int (f_AS_rowOf s (s x1 1) x4 (s x1 2)), .int (s x1 3)]) (rest := []) d_CB_putInAll_66 cw_CB_putInAll_66 rfl rfl rfl (ct_BA_putThrough hg hc) rfl rfl (by decide) sh_1 rfl (Nat.le_of_ble_eq_true rfl) (by decide) (by decide) ?_
      refine ai_ne (F := am_oC) (tgt := 74) d_CB_putInAll_69 (by decide) (fun c => ?_) (fun c => ?_)
      · have h := h.2 c
        refine am_iinc (j := 4) (v := (x4 + (1 : Int32))) (lv2 := [(4, .int (x4 + (1 : Int32))), (0, .ref 0), (1, .ref x1), (2, .int x2), (3, .int x3)]) d_CB_putInAll_74 rfl rfl (by decide) rfl ?_
        refine am_goto (tgt := 34) d_CB_putInAll_77 (by decide) ?_
        refine am_sub [1, 2, 3, 4, 0] (lv2 := [(0, .ref 0), (1, .ref x1), (2, .int x2), (3, .int x3), (4, .int (x4 + (1 : Int32)))]) rfl ?_
        exact hK34 _ _ _ _ _ h
      · have h := h.1 c
        refine am_iconst (v := (0 : Int32)) d_CB_putInAll_72 (by decide) ?_
        exact am_iret d_CB_putInAll_73 rfl (am_bool (Or.inl rfl)).1 (by decide) (by decide) am_oC_ok
def f_CB_putInAll  (s : am_M) (x1 : Nat) : Int32 × am_M := (f_CB_putInAll_34 am_F (f_AS_find s (s x1 1)).2 x1 (f_AS_find s (s x1 1)).1 (f_QU_originOf (f_AS_find s (s x1 1)).2 (f_AS_question (f_AS_find s (s x1 1)).2 ((f_AS_find s (s x1 1)).2 x1 1)) ((f_AS_find s (s x1 1)).2 x1 2)) (0 : Int32))
def p_CB_putInAll  (s : am_M) (x1 : Nat) : Prop := (x1 < 207 ∧ am_sh x1 = (0, 8, 5)) ∧ (p_AS_find s (s x1 1) ∧ (p_AS_question (f_AS_find s (s x1 1)).2 ((f_AS_find s (s x1 1)).2 x1 1) ∧ (p_QU_originOf (f_AS_find s (s x1 1)).2 (f_AS_question (f_AS_find s (s x1 1)).2 ((f_AS_find s (s x1 1)).2 x1 1)) ((f_AS_find s (s x1 1)).2 x1 2) ∧ (((f_AS_question (f_AS_find s (s x1 1)).2 ((f_AS_find s (s x1 1)).2 x1 1)) < 207 ∧ am_sh (f_AS_question (f_AS_find s (s x1 1)).2 ((f_AS_find s (s x1 1)).2 x1 1)) = (0, 4, 17)) ∧ ((p_CB_putInAll_34 am_F (f_AS_find s (s x1 1)).2 x1 (f_AS_find s (s x1 1)).1 (f_QU_originOf (f_AS_find s (s x1 1)).2 (f_AS_question (f_AS_find s (s x1 1)).2 ((f_AS_find s (s x1 1)).2 x1 1)) ((f_AS_find s (s x1 1)).2 x1 2)) (0 : Int32)))))))
set_option maxRecDepth 8000 in
theorem w_CB_putInAll {l : Launch} {g : am_Gl} (hg : g.2.2.2.1 = true) {ad0 : Nat → Nat} {s : am_M} {x1 : Nat} (h : p_CB_putInAll s x1) : AW l g m_CB_putInAll 207 ad0 (am_oC (f_CB_putInAll s x1)) 0 0 207 s 0 [(0, .ref 0), (1, .ref x1)] [] := by
  refine am_aload_n (j := 0) d_CB_putInAll_0 rfl rfl ?_
  refine am_getR (t := 52) d_CB_putInAll_1 fl_CB_21 hg (by decide) sh_0 (by decide) rfl (by decide) lk_0_1 (by decide) ?_
  refine am_aload_n (j := 1) d_CB_putInAll_4 rfl rfl ?_
  obtain ⟨⟨b1, t1⟩, h⟩ := h
  refine am_getI d_CB_putInAll_5 fl_CB_378 b1 t1 (by decide) rfl ?_
  obtain ⟨hc, h⟩ := h
  refine ak_VC (as := [.int (s x1 1)]) (rest := []) d_CB_putInAll_8 cw_CB_putInAll_8 rfl rfl rfl (ct_AS_find hg hc) rfl rfl (by decide) sh_52 rfl (Nat.le_of_ble_eq_true rfl) (by decide) (by decide) ?_
  refine am_istore_n (lv2 := [(2, .int (f_AS_find s (s x1 1)).1), (0, .ref 0), (1, .ref x1)]) d_CB_putInAll_11 rfl (by decide) rfl ?_
  refine am_aload_n (j := 1) d_CB_putInAll_12 rfl rfl ?_
  refine am_getR (t := 52) d_CB_putInAll_13 fl_CB_21 hg (by decide) sh_0 (by decide) rfl (by decide) lk_0_1 (by decide) ?_
  refine am_aload_n (j := 2) d_CB_putInAll_16 rfl rfl ?_
  refine am_getI d_CB_putInAll_17 fl_CB_378 b1 t1 (by decide) rfl ?_
  obtain ⟨hc, h⟩ := h
  refine ak_VR (as := [.int ((f_AS_find s (s x1 1)).2 x1 1)]) (rest := []) d_CB_putInAll_20 cw_CB_putInAll_20 rfl rfl rfl (ct_AS_question hg hc) rfl rfl (by decide) sh_52 rfl (Nat.le_of_ble_eq_true rfl) (by decide) (by decide) ?_
  refine am_aload_n (j := 2) d_CB_putInAll_23 rfl rfl ?_
  refine am_getI d_CB_putInAll_24 fl_CB_405 b1 t1 (by decide) rfl ?_
  obtain ⟨hc, h⟩ := h
  obtain ⟨⟨b2, t2⟩, h⟩ := h
  refine ak_VI (as := [.int ((f_AS_find s (s x1 1)).2 x1 2)]) (rest := []) d_CB_putInAll_27 cw_CB_putInAll_27 rfl rfl rfl (ct_QU_originOf hg hc) rfl rfl b2 t2 rfl (Nat.le_of_ble_eq_true rfl) (by decide) (by decide) ?_
  refine am_istore_n (lv2 := [(3, .int (f_QU_originOf (f_AS_find s (s x1 1)).2 (f_AS_question (f_AS_find s (s x1 1)).2 ((f_AS_find s (s x1 1)).2 x1 1)) ((f_AS_find s (s x1 1)).2 x1 2))), (2, .int (f_AS_find s (s x1 1)).1), (0, .ref 0), (1, .ref x1)]) d_CB_putInAll_30 rfl (by decide) rfl ?_
  refine am_iconst (v := (0 : Int32)) d_CB_putInAll_31 (by decide) ?_
  refine am_istore (lv2 := [(4, .int (0 : Int32)), (3, .int (f_QU_originOf (f_AS_find s (s x1 1)).2 (f_AS_question (f_AS_find s (s x1 1)).2 ((f_AS_find s (s x1 1)).2 x1 1)) ((f_AS_find s (s x1 1)).2 x1 2))), (2, .int (f_AS_find s (s x1 1)).1), (0, .ref 0), (1, .ref x1)]) d_CB_putInAll_32 (by decide) rfl ?_
  refine am_sub [3, 4, 2, 1, 0] (lv2 := [(0, .ref 0), (1, .ref x1), (2, .int (f_AS_find s (s x1 1)).1), (3, .int (f_QU_originOf (f_AS_find s (s x1 1)).2 (f_AS_question (f_AS_find s (s x1 1)).2 ((f_AS_find s (s x1 1)).2 x1 1)) ((f_AS_find s (s x1 1)).2 x1 2))), (4, .int (0 : Int32))]) rfl ?_
  exact w_CB_putInAll_34 hg am_F _ _ _ _ _ h
theorem ct_CB_putInAll {l : Launch} {g : am_Gl} (hg : g.2.2.2.1 = true) {s : am_M} {x1 : Nat} (h : p_CB_putInAll s x1) : AC l g m_CB_putInAll 207 s [.ref 0, .ref x1] (am_oC (f_CB_putInAll s x1)) := am_enter ok_CB_putInAll rfl (Nat.le_of_ble_eq_true rfl) rfl (fun ad0 => w_CB_putInAll hg h)
def f_CB_reason  (s : am_M)  : Int32 := (s 123 0)
def p_CB_reason  (s : am_M)  : Prop := True
set_option maxRecDepth 8000 in
theorem w_CB_reason {l : Launch} {g : am_Gl} (hg : g.2.2.2.1 = true) {ad0 : Nat → Nat} {s : am_M}  : AW l g m_CB_reason 207 ad0 ((am_oI s) (f_CB_reason s )) 0 0 207 s 0 [(0, .ref 0)] [] := by
  have h : p_CB_reason s  := by
    unfold p_CB_reason
    first | exact trivial | simp
  refine am_aload_n (j := 0) d_CB_reason_0 rfl rfl ?_
  refine am_getR (t := 123) d_CB_reason_1 fl_CB_28 hg (by decide) sh_0 (by decide) rfl (by decide) lk_0_2 (by decide) ?_
  refine am_getI d_CB_reason_4 fl_CB_197 (by decide) sh_123 (by decide) rfl ?_
  exact am_iret d_CB_reason_7 rfl rfl (by decide) (by decide) am_oI_ok
theorem ct_CB_reason {l : Launch} {g : am_Gl} (hg : g.2.2.2.1 = true) {s : am_M}  : AC l g m_CB_reason 207 s [.ref 0] ((am_oI s) (f_CB_reason s )) := am_enter ok_CB_reason rfl (Nat.le_of_ble_eq_true rfl) rfl (fun ad0 => w_CB_reason hg)
theorem cw_CB_reckonAnew_3 : am_cv m_CB_reckonAnew m_CB_wantColumn 99 2 := ⟨⟨ok_CB_wantColumn, rfl, by decide +kernel, by decide, by decide⟩, aw_3_14, aw_3_16, as_1_2⟩
theorem cw_CB_reckonAnew_15 : am_cv m_CB_reckonAnew m_CB_wantFormula 91 5 := ⟨⟨ok_CB_wantFormula, rfl, by decide +kernel, by decide, by decide⟩, aw_3_228, aw_3_230, as_2_15⟩
theorem cw_CB_reckonAnew_24 : am_cv m_CB_reckonAnew m_BA_column 102 2 := ⟨⟨ok_BA_column, rfl, by decide +kernel, by decide, by decide⟩, aw_3_40, aw_2_94, aw_2_95⟩
theorem cw_CB_reckonAnew_56 : am_cv m_CB_reckonAnew m_BA_changeFormula 114 6 := ⟨⟨ok_BA_changeFormula, rfl, by decide +kernel, by decide, by decide⟩, aw_4_44, aw_4_45, aw_4_46⟩
theorem cw_CB_reckonAnew_59 : am_cv m_CB_reckonAnew m_CB_tell 118 1 := ⟨⟨ok_CB_tell, rfl, by decide +kernel, by decide, by decide⟩, aw_3_1, aw_3_3, as_1_1⟩
def f_CB_reckonAnew  (s : am_M) (x1 : Int32) (x2 : Int32) (x3 : Int32) (x4 : Int32) (x5 : Int32) (x6 : Int32) : Nat × Int32 × am_M := (if (f_CB_wantColumn s x1 x2) = 0 then (if (f_CB_wantFormula s x1 x3 x4 x5 x6) = 0 then (if (s (f_BA_column s x1 x2) 0) = (3 : Int32) then (0, (f_CB_tell (f_BA_changeFormula s x1 x2 x3 x4 x5 x6).2 (f_BA_changeFormula s x1 x2 x3 x4 x5 x6).1).1, (f_CB_tell (f_BA_changeFormula s x1 x2 x3 x4 x5 x6).2 (f_BA_changeFormula s x1 x2 x3 x4 x5 x6).1).2) else (2, 0, s)) else ((f_CB_wantFormula s x1 x3 x4 x5 x6), 0, s)) else ((f_CB_wantColumn s x1 x2), 0, s))
def p_CB_reckonAnew  (s : am_M) (x1 : Int32) (x2 : Int32) (x3 : Int32) (x4 : Int32) (x5 : Int32) (x6 : Int32) : Prop := p_CB_wantColumn s x1 x2 ∧ ((((f_CB_wantColumn s x1 x2) = 0) → p_CB_wantFormula s x1 x3 x4 x5 x6 ∧ ((((f_CB_wantFormula s x1 x3 x4 x5 x6) = 0) → p_BA_column s x1 x2 ∧ (((f_BA_column s x1 x2) < 207 ∧ am_sh (f_BA_column s x1 x2) = (0, 3, 11)) ∧ ((((s (f_BA_column s x1 x2) 0) = (3 : Int32)) → p_BA_changeFormula s x1 x2 x3 x4 x5 x6 ∧ (p_CB_tell (f_BA_changeFormula s x1 x2 x3 x4 x5 x6).2 (f_BA_changeFormula s x1 x2 x3 x4 x5 x6).1 ∧ (((f_CB_tell (f_BA_changeFormula s x1 x2 x3 x4 x5 x6).2 (f_BA_changeFormula s x1 x2 x3 x4 x5 x6).1).1 = 0 ∨ (f_CB_tell (f_BA_changeFormula s x1 x2 x3 x4 x5 x6).2 (f_BA_changeFormula s x1 x2 x3 x4 x5 x6).1).1 = 1) ∧ (True)))) ∧ (¬ ((s (f_BA_column s x1 x2) 0) = (3 : Int32)) → True)))))))
set_option maxRecDepth 8000 in
theorem w_CB_reckonAnew {l : Launch} {g : am_Gl} (hg : g.2.2.2.1 = true) {ad0 : Nat → Nat} {s : am_M} {x1 : Int32} {x2 : Int32} {x3 : Int32} {x4 : Int32} {x5 : Int32} {x6 : Int32} (h : p_CB_reckonAnew s x1 x2 x3 x4 x5 x6) : AW l g m_CB_reckonAnew 207 ad0 (am_oE (f_CB_reckonAnew s x1 x2 x3 x4 x5 x6)) 0 0 207 s 0 [(0, .ref 0), (1, .int x1), (2, .int x2), (3, .int x3), (4, .int x4), (5, .int x5), (6, .int x6)] [] := by
  refine am_aload_n (j := 0) d_CB_reckonAnew_0 rfl rfl ?_
  refine am_iload_n (j := 1) d_CB_reckonAnew_1 rfl rfl ?_
  refine am_iload_n (j := 2) d_CB_reckonAnew_2 rfl rfl ?_
  obtain ⟨hc, h⟩ := h
  refine ak_D (F := am_oE) (as := [.int x1, .int x2]) (rest := []) d_CB_reckonAnew_3 cw_CB_reckonAnew_3 rfl rfl rfl (ct_CB_wantColumn hg hc) rfl rfl (by decide) sh_0 rfl (Nat.le_of_ble_eq_true rfl) (by decide) (by decide) am_oE_x (fun c => ?_)
  have h := h c
  refine am_aload_n (j := 0) d_CB_reckonAnew_6 rfl rfl ?_
  refine am_iload_n (j := 1) d_CB_reckonAnew_7 rfl rfl ?_
  refine am_iload_n (j := 3) d_CB_reckonAnew_8 rfl rfl ?_
  refine am_iload (j := 4) d_CB_reckonAnew_9 rfl ?_
  refine am_iload (j := 5) d_CB_reckonAnew_11 rfl ?_
  refine am_iload (j := 6) d_CB_reckonAnew_13 rfl ?_
  obtain ⟨hc, h⟩ := h
  refine ak_D (F := am_oE) (as := [.int x1, .int x3, .int x4, .int x5, .int x6]) (rest := []) d_CB_reckonAnew_15 cw_CB_reckonAnew_15 rfl rfl rfl (ct_CB_wantFormula hg hc) rfl rfl (by decide) sh_0 rfl (Nat.le_of_ble_eq_true rfl) (by decide) (by decide) am_oE_x (fun c => ?_)
  have h := h c
  refine am_aload_n (j := 0) d_CB_reckonAnew_18 rfl rfl ?_
  refine am_getR (t := 1) d_CB_reckonAnew_19 fl_CB_12 hg (by decide) sh_0 (by decide) rfl (by decide) lk_0_0 (by decide) ?_
  refine am_iload_n (j := 1) d_CB_reckonAnew_22 rfl rfl ?_
  refine am_iload_n (j := 2) d_CB_reckonAnew_23 rfl rfl ?_
  obtain ⟨hc, h⟩ := h
  refine ak_VR (as := [.int x1, .int x2]) (rest := []) d_CB_reckonAnew_24 cw_CB_reckonAnew_24 rfl rfl rfl (ct_BA_column hg hc) rfl rfl (by decide) sh_1 rfl (Nat.le_of_ble_eq_true rfl) (by decide) (by decide) ?_
  obtain ⟨⟨b1, t1⟩, h⟩ := h
  refine am_getI d_CB_reckonAnew_27 fl_CB_106 b1 t1 (by decide) rfl ?_
  refine am_iconst (v := (3 : Int32)) d_CB_reckonAnew_30 (by decide) ?_
  refine aj_eq (F := am_oE) (tgt := 42) d_CB_reckonAnew_31 (by decide) (fun c => ?_) (fun c => ?_)
  · have h := h.1 c
    refine am_aload_n (j := 0) d_CB_reckonAnew_42 rfl rfl ?_
    refine am_aload_n (j := 0) d_CB_reckonAnew_43 rfl rfl ?_
    refine am_getR (t := 1) d_CB_reckonAnew_44 fl_CB_12 hg (by decide) sh_0 (by decide) rfl (by decide) lk_0_0 (by decide) ?_
    refine am_iload_n (j := 1) d_CB_reckonAnew_47 rfl rfl ?_
    refine am_iload_n (j := 2) d_CB_reckonAnew_48 rfl rfl ?_
    refine am_iload_n (j := 3) d_CB_reckonAnew_49 rfl rfl ?_
    refine am_iload (j := 4) d_CB_reckonAnew_50 rfl ?_
    refine am_iload (j := 5) d_CB_reckonAnew_52 rfl ?_
    refine am_iload (j := 6) d_CB_reckonAnew_54 rfl ?_
    obtain ⟨hc, h⟩ := h
    refine ak_VC (as := [.int x1, .int x2, .int x3, .int x4, .int x5, .int x6]) (rest := [.ref 0]) d_CB_reckonAnew_56 cw_CB_reckonAnew_56 rfl rfl rfl (ct_BA_changeFormula hg hc) rfl rfl (by decide) sh_1 rfl (Nat.le_of_ble_eq_true rfl) (by decide) (by decide) ?_
    obtain ⟨hc, h⟩ := h
    refine ak_VC (as := [.int (f_BA_changeFormula s x1 x2 x3 x4 x5 x6).1]) (rest := []) d_CB_reckonAnew_59 cw_CB_reckonAnew_59 rfl rfl rfl (ct_CB_tell hg hc) rfl rfl (by decide) sh_0 rfl (Nat.le_of_ble_eq_true rfl) (by decide) (by decide) ?_
    obtain ⟨hz, h⟩ := h
    exact am_iret d_CB_reckonAnew_62 rfl (am_bool hz).1 (by decide) (by decide) am_oE_ok
  · have h := h.2 c
    exact am_throw d_CB_reckonAnew_34 d_CB_reckonAnew_37 d_CB_reckonAnew_38 d_CB_reckonAnew_41 tw_IAE rfl rfl (by decide) (by decide) (by decide) am_oE_2
theorem ct_CB_reckonAnew {l : Launch} {g : am_Gl} (hg : g.2.2.2.1 = true) {s : am_M} {x1 : Int32} {x2 : Int32} {x3 : Int32} {x4 : Int32} {x5 : Int32} {x6 : Int32} (h : p_CB_reckonAnew s x1 x2 x3 x4 x5 x6) : AC l g m_CB_reckonAnew 207 s [.ref 0, .int x1, .int x2, .int x3, .int x4, .int x5, .int x6] (am_oE (f_CB_reckonAnew s x1 x2 x3 x4 x5 x6)) := am_enter ok_CB_reckonAnew rfl (Nat.le_of_ble_eq_true rfl) rfl (fun ad0 => w_CB_reckonAnew hg h)
theorem cw_CB_remove_3 : am_cv m_CB_remove m_CB_wantRow 228 2 := ⟨⟨ok_CB_wantRow, rfl, by decide +kernel, by decide, by decide⟩, aw_3_45, aw_3_47, as_1_6⟩
theorem cw_CB_remove_13 : am_cv m_CB_remove m_BA_takeOut 234 2 := ⟨⟨ok_BA_takeOut, rfl, by decide +kernel, by decide, by decide⟩, aw_3_49, aw_3_50, aw_3_51⟩
theorem cw_CB_remove_16 : am_cv m_CB_remove m_CB_tell 118 1 := ⟨⟨ok_CB_tell, rfl, by decide +kernel, by decide, by decide⟩, aw_3_1, aw_3_3, as_1_1⟩
def f_CB_remove  (s : am_M) (x1 : Int32) (x2 : Int32) : Nat × Int32 × am_M := (if (f_CB_wantRow s x1 x2) = 0 then (0, (f_CB_tell (f_BA_takeOut s x1 x2).2 (f_BA_takeOut s x1 x2).1).1, (f_CB_tell (f_BA_takeOut s x1 x2).2 (f_BA_takeOut s x1 x2).1).2) else ((f_CB_wantRow s x1 x2), 0, s))
def p_CB_remove  (s : am_M) (x1 : Int32) (x2 : Int32) : Prop := p_CB_wantRow s x1 x2 ∧ ((((f_CB_wantRow s x1 x2) = 0) → p_BA_takeOut s x1 x2 ∧ (p_CB_tell (f_BA_takeOut s x1 x2).2 (f_BA_takeOut s x1 x2).1 ∧ (((f_CB_tell (f_BA_takeOut s x1 x2).2 (f_BA_takeOut s x1 x2).1).1 = 0 ∨ (f_CB_tell (f_BA_takeOut s x1 x2).2 (f_BA_takeOut s x1 x2).1).1 = 1) ∧ (True)))))
set_option maxRecDepth 8000 in
theorem w_CB_remove {l : Launch} {g : am_Gl} (hg : g.2.2.2.1 = true) {ad0 : Nat → Nat} {s : am_M} {x1 : Int32} {x2 : Int32} (h : p_CB_remove s x1 x2) : AW l g m_CB_remove 207 ad0 (am_oE (f_CB_remove s x1 x2)) 0 0 207 s 0 [(0, .ref 0), (1, .int x1), (2, .int x2)] [] := by
  refine am_aload_n (j := 0) d_CB_remove_0 rfl rfl ?_
  refine am_iload_n (j := 1) d_CB_remove_1 rfl rfl ?_
  refine am_iload_n (j := 2) d_CB_remove_2 rfl rfl ?_
  obtain ⟨hc, h⟩ := h
  refine ak_D (F := am_oE) (as := [.int x1, .int x2]) (rest := []) d_CB_remove_3 cw_CB_remove_3 rfl rfl rfl (ct_CB_wantRow hg hc) rfl rfl (by decide) sh_0 rfl (Nat.le_of_ble_eq_true rfl) (by decide) (by decide) am_oE_x (fun c => ?_)
  have h := h c
  refine am_aload_n (j := 0) d_CB_remove_6 rfl rfl ?_
  refine am_aload_n (j := 0) d_CB_remove_7 rfl rfl ?_
  refine am_getR (t := 1) d_CB_remove_8 fl_CB_12 hg (by decide) sh_0 (by decide) rfl (by decide) lk_0_0 (by decide) ?_
  refine am_iload_n (j := 1) d_CB_remove_11 rfl rfl ?_
  refine am_iload_n (j := 2) d_CB_remove_12 rfl rfl ?_
  obtain ⟨hc, h⟩ := h
  refine ak_VC (as := [.int x1, .int x2]) (rest := [.ref 0]) d_CB_remove_13 cw_CB_remove_13 rfl rfl rfl (ct_BA_takeOut hg hc) rfl rfl (by decide) sh_1 rfl (Nat.le_of_ble_eq_true rfl) (by decide) (by decide) ?_
  obtain ⟨hc, h⟩ := h
  refine ak_VC (as := [.int (f_BA_takeOut s x1 x2).1]) (rest := []) d_CB_remove_16 cw_CB_remove_16 rfl rfl rfl (ct_CB_tell hg hc) rfl rfl (by decide) sh_0 rfl (Nat.le_of_ble_eq_true rfl) (by decide) (by decide) ?_
  obtain ⟨hz, h⟩ := h
  exact am_iret d_CB_remove_19 rfl (am_bool hz).1 (by decide) (by decide) am_oE_ok
theorem ct_CB_remove {l : Launch} {g : am_Gl} (hg : g.2.2.2.1 = true) {s : am_M} {x1 : Int32} {x2 : Int32} (h : p_CB_remove s x1 x2) : AC l g m_CB_remove 207 s [.ref 0, .int x1, .int x2] (am_oE (f_CB_remove s x1 x2)) := am_enter ok_CB_remove rfl (Nat.le_of_ble_eq_true rfl) rfl (fun ad0 => w_CB_remove hg h)
theorem cw_CB_removeAll_8 : am_cv m_CB_removeAll m_AS_find 316 1 := ⟨⟨ok_AS_find, rfl, by decide +kernel, by decide, by decide⟩, aw_3_102, aw_3_103, aw_3_104⟩
theorem cw_CB_removeAll_20 : am_cv m_CB_removeAll m_AS_question 298 1 := ⟨⟨ok_AS_question, rfl, by decide +kernel, by decide, by decide⟩, aw_3_182, aw_3_107, aw_3_108⟩
theorem cw_CB_removeAll_27 : am_cv m_CB_removeAll m_QU_originOf 331 1 := ⟨⟨ok_QU_originOf, rfl, by decide +kernel, by decide, by decide⟩, aw_3_183, aw_3_184, aw_3_185⟩
theorem cw_CB_removeAll_47 : am_cv m_CB_removeAll m_BA_refuse 155 3 := ⟨⟨ok_BA_refuse, rfl, by decide +kernel, by decide, by decide⟩, aw_3_207, aw_3_200, aw_3_201⟩
theorem cw_CB_removeAll_82 : am_cv m_CB_removeAll m_AS_rowOf 336 3 := ⟨⟨ok_AS_rowOf, rfl, by decide +kernel, by decide, by decide⟩, aw_3_187, aw_3_188, aw_3_189⟩
theorem cw_CB_removeAll_100 : am_cv m_CB_removeAll m_RO_has 257 2 := ⟨⟨ok_RO_has, rfl, by decide +kernel, by decide, by decide⟩, aw_3_27, aw_2_184, aw_2_185⟩
theorem cw_CB_removeAll_116 : am_cv m_CB_removeAll m_BA_takeOut 234 2 := ⟨⟨ok_BA_takeOut, rfl, by decide +kernel, by decide, by decide⟩, aw_3_49, aw_3_50, aw_3_51⟩
def f_CB_removeAll_124 (K62 : am_M → Nat → Int32 → Int32 → Int32 → Int32 × am_M) (s : am_M) (x1 : Nat) (x2 : Int32) (x3 : Int32) (x4 : Int32) (x5 : Int32) : Int32 × am_M := (K62 s x1 x2 x3 (x4 + (1 : Int32)))
def p_CB_removeAll_124 (KP62 : am_M → Nat → Int32 → Int32 → Int32 → Prop) (s : am_M) (x1 : Nat) (x2 : Int32) (x3 : Int32) (x4 : Int32) (x5 : Int32) : Prop := (KP62 s x1 x2 x3 (x4 + (1 : Int32)))
set_option maxRecDepth 8000 in
theorem w_CB_removeAll_124 {l : Launch} {g : am_Gl} (hg : g.2.2.2.1 = true) {ad0 : Nat → Nat} {K62 : am_M → Nat → Int32 → Int32 → Int32 → Int32 × am_M} {KP62 : am_M → Nat → Int32 → Int32 → Int32 → Prop} (hK62 : ∀ (s : am_M) (x1 : Nat) (x2 : Int32) (x3 : Int32) (x4 : Int32), KP62 s x1 x2 x3 x4 → AW l g m_CB_removeAll 207 ad0 (am_oC (K62 s x1 x2 x3 x4)) 0 0 207 s 62 [(0, .ref 0), (1, .ref x1), (2, .int x2), (3, .int x3), (4, .int x4)] []) {s : am_M} {x1 : Nat} {x2 : Int32} {x3 : Int32} {x4 : Int32} {x5 : Int32} (h : p_CB_removeAll_124 KP62 s x1 x2 x3 x4 x5) : AW l g m_CB_removeAll 207 ad0 (am_oC (f_CB_removeAll_124 K62 s x1 x2 x3 x4 x5)) 0 0 207 s 124 [(0, .ref 0), (1, .ref x1), (2, .int x2), (3, .int x3), (4, .int x4), (5, .int x5)] [] := by
  refine am_iinc (j := 4) (v := (x4 + (1 : Int32))) (lv2 := [(4, .int (x4 + (1 : Int32))), (0, .ref 0), (1, .ref x1), (2, .int x2), (3, .int x3), (5, .int x5)]) d_CB_removeAll_124 rfl rfl (by decide) rfl ?_
  refine am_goto (tgt := 62) d_CB_removeAll_127 (by decide) ?_
  refine am_sub [1, 2, 3, 4, 0] (lv2 := [(0, .ref 0), (1, .ref x1), (2, .int x2), (3, .int x3), (4, .int (x4 + (1 : Int32)))]) rfl ?_
  exact hK62 _ _ _ _ _ h
def f_CB_removeAll_62  : Nat → am_M → Nat → Int32 → Int32 → Int32 → Int32 × am_M
  | 0, s, x1, x2, x3, x4 => (0, s)
  | n + 1, s, x1, x2, x3, x4 => (if x2 ≤ x4 then ((1 : Int32), s) else (if (f_RO_has s 8 (x3 / (10 : Int32)) (f_AS_rowOf s (s x1 1) x4 (s x1 2))) = 0 then (f_CB_removeAll_124 (f_CB_removeAll_62  n) s x1 x2 x3 x4 (f_AS_rowOf s (s x1 1) x4 (s x1 2))) else (if (f_BA_takeOut s (x3 / (10 : Int32)) (f_AS_rowOf s (s x1 1) x4 (s x1 2))).1 = 0 then ((0 : Int32), (f_BA_takeOut s (x3 / (10 : Int32)) (f_AS_rowOf s (s x1 1) x4 (s x1 2))).2) else (f_CB_removeAll_124 (f_CB_removeAll_62  n) (f_BA_takeOut s (x3 / (10 : Int32)) (f_AS_rowOf s (s x1 1) x4 (s x1 2))).2 x1 x2 x3 x4 (f_AS_rowOf s (s x1 1) x4 (s x1 2))))))
def p_CB_removeAll_62  : Nat → am_M → Nat → Int32 → Int32 → Int32 → Prop
  | 0, s, x1, x2, x3, x4 => False
  | n + 1, s, x1, x2, x3, x4 => ((x2 ≤ x4) → True) ∧ (¬ (x2 ≤ x4) → (x1 < 207 ∧ am_sh x1 = (0, 8, 5)) ∧ (p_AS_rowOf s (s x1 1) x4 (s x1 2) ∧ (p_RO_has s 8 (x3 / (10 : Int32)) (f_AS_rowOf s (s x1 1) x4 (s x1 2)) ∧ ((((f_RO_has s 8 (x3 / (10 : Int32)) (f_AS_rowOf s (s x1 1) x4 (s x1 2))) = 0) → (p_CB_removeAll_124 (p_CB_removeAll_62  n) s x1 x2 x3 x4 (f_AS_rowOf s (s x1 1) x4 (s x1 2)))) ∧ (¬ ((f_RO_has s 8 (x3 / (10 : Int32)) (f_AS_rowOf s (s x1 1) x4 (s x1 2))) = 0) → p_BA_takeOut s (x3 / (10 : Int32)) (f_AS_rowOf s (s x1 1) x4 (s x1 2)) ∧ ((((f_BA_takeOut s (x3 / (10 : Int32)) (f_AS_rowOf s (s x1 1) x4 (s x1 2))).1 = 0) → True) ∧ (¬ ((f_BA_takeOut s (x3 / (10 : Int32)) (f_AS_rowOf s (s x1 1) x4 (s x1 2))).1 = 0) → (p_CB_removeAll_124 (p_CB_removeAll_62  n) (f_BA_takeOut s (x3 / (10 : Int32)) (f_AS_rowOf s (s x1 1) x4 (s x1 2))).2 x1 x2 x3 x4 (f_AS_rowOf s (s x1 1) x4 (s x1 2))))))))))
set_option maxRecDepth 8000 in
theorem w_CB_removeAll_62 {l : Launch} {g : am_Gl} (hg : g.2.2.2.1 = true) {ad0 : Nat → Nat}   : ∀ (n : Nat) (s : am_M) (x1 : Nat) (x2 : Int32) (x3 : Int32) (x4 : Int32), p_CB_removeAll_62  n s x1 x2 x3 x4 → AW l g m_CB_removeAll 207 ad0 (am_oC (f_CB_removeAll_62  n s x1 x2 x3 x4)) 0 0 207 s 62 [(0, .ref 0), (1, .ref x1), (2, .int x2), (3, .int x3), (4, .int x4)] [] := by
  intro n
  induction n with
  | zero => intro s x1 x2 x3 x4 h; exact h.elim
  | succ n hK62 =>
    intro s x1 x2 x3 x4 h
    refine am_iload (j := 4) d_CB_removeAll_62 rfl ?_
    refine am_iload_n (j := 2) d_CB_removeAll_64 rfl rfl ?_
    refine aj_ge (F := am_oC) (tgt := 130) d_CB_removeAll_65 (by decide) (fun c => ?_) (fun c => ?_)
    · have h := h.1 c
      refine am_iconst (v := (1 : Int32)) d_CB_removeAll_130 (by decide) ?_
      exact am_iret d_CB_removeAll_131 rfl (am_bool (Or.inr rfl)).1 (by decide) (by decide) am_oC_ok
    · have h := h.2 c
      refine am_aload_n (j := 0) d_CB_removeAll_68 rfl rfl ?_
      refine am_getR (t := 52) d_CB_removeAll_69 fl_CB_21 hg (by decide) sh_0 (by decide) rfl (by decide) lk_0_1 (by decide) ?_
      refine am_aload_n (j := 1) d_CB_removeAll_72 rfl rfl ?_
      obtain ⟨⟨b1, t1⟩, h⟩ := h
      refine am_getI d_CB_removeAll_73 fl_CB_378 b1 t1 (by decide) rfl ?_
      refine am_iload (j := 4) d_CB_removeAll_76 rfl ?_
      refine am_aload_n (j := 1) d_CB_removeAll_78 rfl rfl ?_
      refine am_getI d_CB_removeAll_79 fl_CB_405 b1 t1 (by decide) rfl ?_
      obtain ⟨hc, h⟩ := h
      refine ak_VI (as := [.int (s x1 1), .int x4, .int (s x1 2)]) (rest := []) d_CB_removeAll_82 cw_CB_removeAll_82 rfl rfl rfl (ct_AS_rowOf hg hc) rfl rfl (by decide) sh_52 rfl (Nat.le_of_ble_eq_true rfl) (by decide) (by decide) ?_
      refine am_istore (lv2 := [(5, .int (f_AS_rowOf s (s x1 1) x4 (s x1 2))), (0, .ref 0), (1, .ref x1), (2, .int x2), (3, .int x3), (4, .int x4)]) d_CB_removeAll_85 (by decide) rfl ?_
      refine am_aload_n (j := 1) d_CB_removeAll_87 rfl rfl ?_
      refine am_getR (t := 1) d_CB_removeAll_88 fl_CB_12 hg (by decide) sh_0 (by decide) rfl (by decide) lk_0_0 (by decide) ?_
      refine am_getR (t := 8) d_CB_removeAll_91 fl_CB_213 hg (by decide) sh_1 (by decide) rfl (by decide) lk_1_9 (by decide) ?_
      refine am_iload_n (j := 4) d_CB_removeAll_94 rfl rfl ?_
      refine am_bipush (v := (10 : Int32)) d_CB_removeAll_95 (by decide) ?_
      refine am_idiv d_CB_removeAll_97 (by decide) ?_
      refine am_iload (j := 0) d_CB_removeAll_98 rfl ?_
      obtain ⟨hc, h⟩ := h
      refine ak_VI (as := [.int (x3 / (10 : Int32)), .int (f_AS_rowOf s (s x1 1) x4 (s x1 2))]) (rest := []) d_CB_removeAll_100 cw_CB_removeAll_100 rfl rfl rfl (ct_RO_has hg hc) rfl rfl (by decide) sh_8 rfl (Nat.le_of_ble_eq_true rfl) (by decide) (by decide) ?_
      refine ai_eq (F := am_oC) (tgt := 124) d_CB_removeAll_103 (by decide) (fun c => ?_) (fun c => ?_)
      · have h := h.1 c
        refine am_sub [1, 2, 3, 4, 5, 0] (lv2 := [(0, .ref 0), (1, .ref x1), (2, .int x2), (3, .int x3), (4, .int x4), (5, .int (f_AS_rowOf s (s x1 1) x4 (s x1 2)))]) rfl ?_
        exact w_CB_removeAll_124 hg hK62 h
      · have h := h.2 c
        refine am_aload_n (j := 1) d_CB_removeAll_106 rfl rfl ?_
        refine am_getR (t := 1) d_CB_removeAll_107 fl_CB_12 hg (by decide) sh_0 (by decide) rfl (by decide) lk_0_0 (by decide) ?_
        refine am_iload_n (j := 4) d_CB_removeAll_110 rfl rfl ?_
        refine am_bipush (v := (10 : Int32)) d_CB_removeAll_111 (by decide) ?_
        refine am_idiv d_CB_removeAll_113 (by decide) ?_
        refine am_iload (j := 0) d_CB_removeAll_114 rfl ?_
        obtain ⟨hc, h⟩ := h
        refine ak_VC (as := [.int (x3 / (10 : Int32)), .int (f_AS_rowOf s (s x1 1) x4 (s x1 2))]) (rest := []) d_CB_removeAll_116 cw_CB_removeAll_116 rfl rfl rfl (ct_BA_takeOut hg hc) rfl rfl (by decide) sh_1 rfl (Nat.le_of_ble_eq_true rfl) (by decide) (by decide) ?_
        refine ai_ne (F := am_oC) (tgt := 124) d_CB_removeAll_119 (by decide) (fun c => ?_) (fun c => ?_)
        · have h := h.2 c
          refine am_sub [1, 2, 3, 4, 5, 0] (lv2 := [(0, .ref 0), (1, .ref x1), (2, .int x2), (3, .int x3), (4, .int x4), (5, .int (f_AS_rowOf s (s x1 1) x4 (s x1 2)))]) rfl ?_
          exact w_CB_removeAll_124 hg hK62 h
        · have h := h.1 c
          refine am_iconst (v := (0 : Int32)) d_CB_removeAll_122 (by decide) ?_
          exact am_iret d_CB_removeAll_123 rfl (am_bool (Or.inl rfl)).1 (by decide) (by decide) am_oC_ok
def f_CB_removeAll  (s : am_M) (x1 : Nat) : Int32 × am_M := (if 0 ≤ (f_QU_originOf (f_AS_find s (s x1 1)).2 (f_AS_question (f_AS_find s (s x1 1)).2 ((f_AS_find s (s x1 1)).2 x1 1)) ((f_AS_find s (s x1 1)).2 x1 2)) then (f_CB_removeAll_62 am_F (f_AS_find s (s x1 1)).2 x1 (f_AS_find s (s x1 1)).1 (f_QU_originOf (f_AS_find s (s x1 1)).2 (f_AS_question (f_AS_find s (s x1 1)).2 ((f_AS_find s (s x1 1)).2 x1 1)) ((f_AS_find s (s x1 1)).2 x1 2)) (0 : Int32)) else (if (f_AS_find s (s x1 1)).1 = 0 then ((1 : Int32), (f_AS_find s (s x1 1)).2) else (if (f_BA_refuse (f_AS_find s (s x1 1)).2 (7 : Int32) (-1 : Int32) (-1 : Int32)).1 = 0 then ((0 : Int32), (f_BA_refuse (f_AS_find s (s x1 1)).2 (7 : Int32) (-1 : Int32) (-1 : Int32)).2) else ((1 : Int32), (f_BA_refuse (f_AS_find s (s x1 1)).2 (7 : Int32) (-1 : Int32) (-1 : Int32)).2))))
def p_CB_removeAll  (s : am_M) (x1 : Nat) : Prop := (x1 < 207 ∧ am_sh x1 = (0, 8, 5)) ∧ (p_AS_find s (s x1 1) ∧ (p_AS_question (f_AS_find s (s x1 1)).2 ((f_AS_find s (s x1 1)).2 x1 1) ∧ (p_QU_originOf (f_AS_find s (s x1 1)).2 (f_AS_question (f_AS_find s (s x1 1)).2 ((f_AS_find s (s x1 1)).2 x1 1)) ((f_AS_find s (s x1 1)).2 x1 2) ∧ (((f_AS_question (f_AS_find s (s x1 1)).2 ((f_AS_find s (s x1 1)).2 x1 1)) < 207 ∧ am_sh (f_AS_question (f_AS_find s (s x1 1)).2 ((f_AS_find s (s x1 1)).2 x1 1)) = (0, 4, 17)) ∧ (((0 ≤ (f_QU_originOf (f_AS_find s (s x1 1)).2 (f_AS_question (f_AS_find s (s x1 1)).2 ((f_AS_find s (s x1 1)).2 x1 1)) ((f_AS_find s (s x1 1)).2 x1 2))) → (p_CB_removeAll_62 am_F (f_AS_find s (s x1 1)).2 x1 (f_AS_find s (s x1 1)).1 (f_QU_originOf (f_AS_find s (s x1 1)).2 (f_AS_question (f_AS_find s (s x1 1)).2 ((f_AS_find s (s x1 1)).2 x1 1)) ((f_AS_find s (s x1 1)).2 x1 2)) (0 : Int32))) ∧ (¬ (0 ≤ (f_QU_originOf (f_AS_find s (s x1 1)).2 (f_AS_question (f_AS_find s (s x1 1)).2 ((f_AS_find s (s x1 1)).2 x1 1)) ((f_AS_find s (s x1 1)).2 x1 2))) → (((f_AS_find s (s x1 1)).1 = 0) → True) ∧ (¬ ((f_AS_find s (s x1 1)).1 = 0) → p_BA_refuse (f_AS_find s (s x1 1)).2 (7 : Int32) (-1 : Int32) (-1 : Int32) ∧ ((((f_BA_refuse (f_AS_find s (s x1 1)).2 (7 : Int32) (-1 : Int32) (-1 : Int32)).1 = 0) → True) ∧ (¬ ((f_BA_refuse (f_AS_find s (s x1 1)).2 (7 : Int32) (-1 : Int32) (-1 : Int32)).1 = 0) → True)))))))))
set_option maxRecDepth 8000 in
theorem w_CB_removeAll {l : Launch} {g : am_Gl} (hg : g.2.2.2.1 = true) {ad0 : Nat → Nat} {s : am_M} {x1 : Nat} (h : p_CB_removeAll s x1) : AW l g m_CB_removeAll 207 ad0 (am_oC (f_CB_removeAll s x1)) 0 0 207 s 0 [(0, .ref 0), (1, .ref x1)] [] := by
  refine am_aload_n (j := 0) d_CB_removeAll_0 rfl rfl ?_
  refine am_getR (t := 52) d_CB_removeAll_1 fl_CB_21 hg (by decide) sh_0 (by decide) rfl (by decide) lk_0_1 (by decide) ?_
  refine am_aload_n (j := 1) d_CB_removeAll_4 rfl rfl ?_
  obtain ⟨⟨b1, t1⟩, h⟩ := h
  refine am_getI d_CB_removeAll_5 fl_CB_378 b1 t1 (by decide) rfl ?_
  obtain ⟨hc, h⟩ := h
  refine ak_VC (as := [.int (s x1 1)]) (rest := []) d_CB_removeAll_8 cw_CB_removeAll_8 rfl rfl rfl (ct_AS_find hg hc) rfl rfl (by decide) sh_52 rfl (Nat.le_of_ble_eq_true rfl) (by decide) (by decide) ?_
  refine am_istore_n (lv2 := [(2, .int (f_AS_find s (s x1 1)).1), (0, .ref 0), (1, .ref x1)]) d_CB_removeAll_11 rfl (by decide) rfl ?_
  refine am_aload_n (j := 1) d_CB_removeAll_12 rfl rfl ?_
  refine am_getR (t := 52) d_CB_removeAll_13 fl_CB_21 hg (by decide) sh_0 (by decide) rfl (by decide) lk_0_1 (by decide) ?_
  refine am_aload_n (j := 2) d_CB_removeAll_16 rfl rfl ?_
  refine am_getI d_CB_removeAll_17 fl_CB_378 b1 t1 (by decide) rfl ?_
  obtain ⟨hc, h⟩ := h
  refine ak_VR (as := [.int ((f_AS_find s (s x1 1)).2 x1 1)]) (rest := []) d_CB_removeAll_20 cw_CB_removeAll_20 rfl rfl rfl (ct_AS_question hg hc) rfl rfl (by decide) sh_52 rfl (Nat.le_of_ble_eq_true rfl) (by decide) (by decide) ?_
  refine am_aload_n (j := 2) d_CB_removeAll_23 rfl rfl ?_
  refine am_getI d_CB_removeAll_24 fl_CB_405 b1 t1 (by decide) rfl ?_
  obtain ⟨hc, h⟩ := h
  obtain ⟨⟨b2, t2⟩, h⟩ := h
  refine ak_VI (as := [.int ((f_AS_find s (s x1 1)).2 x1 2)]) (rest := []) d_CB_removeAll_27 cw_CB_removeAll_27 rfl rfl rfl (ct_QU_originOf hg hc) rfl rfl b2 t2 rfl (Nat.le_of_ble_eq_true rfl) (by decide) (by decide) ?_
  refine am_istore_n (lv2 := [(3, .int (f_QU_originOf (f_AS_find s (s x1 1)).2 (f_AS_question (f_AS_find s (s x1 1)).2 ((f_AS_find s (s x1 1)).2 x1 1)) ((f_AS_find s (s x1 1)).2 x1 2))), (2, .int (f_AS_find s (s x1 1)).1), (0, .ref 0), (1, .ref x1)]) d_CB_removeAll_30 rfl (by decide) rfl ?_
  refine am_iload_n (j := 0) d_CB_removeAll_31 rfl rfl ?_
  refine ai_ge (F := am_oC) (tgt := 59) d_CB_removeAll_32 (by decide) (fun c => ?_) (fun c => ?_)
  · have h := h.1 c
    refine am_iconst (v := (0 : Int32)) d_CB_removeAll_59 (by decide) ?_
    refine am_istore (lv2 := [(4, .int (0 : Int32)), (3, .int (f_QU_originOf (f_AS_find s (s x1 1)).2 (f_AS_question (f_AS_find s (s x1 1)).2 ((f_AS_find s (s x1 1)).2 x1 1)) ((f_AS_find s (s x1 1)).2 x1 2))), (2, .int (f_AS_find s (s x1 1)).1), (0, .ref 0), (1, .ref x1)]) d_CB_removeAll_60 (by decide) rfl ?_
    refine am_sub [3, 4, 2, 1, 0] (lv2 := [(0, .ref 0), (1, .ref x1), (2, .int (f_AS_find s (s x1 1)).1), (3, .int (f_QU_originOf (f_AS_find s (s x1 1)).2 (f_AS_question (f_AS_find s (s x1 1)).2 ((f_AS_find s (s x1 1)).2 x1 1)) ((f_AS_find s (s x1 1)).2 x1 2))), (4, .int (0 : Int32))]) rfl ?_
    exact w_CB_removeAll_62 hg am_F _ _ _ _ _ h
  · have h := h.2 c
    refine am_iload_n (j := 1) d_CB_removeAll_35 rfl rfl ?_
    refine ai_eq (F := am_oC) (tgt := 53) d_CB_removeAll_36 (by decide) (fun c => ?_) (fun c => ?_)
    · have h := h.1 c
      refine am_iconst (v := (1 : Int32)) d_CB_removeAll_53 (by decide) ?_
      refine am_goto (tgt := 58) d_CB_removeAll_54 (by decide) ?_
      exact am_iret d_CB_removeAll_58 rfl (am_bool (Or.inr rfl)).1 (by decide) (by decide) am_oC_ok
    · have h := h.2 c
      refine am_aload_n (j := 2) d_CB_removeAll_39 rfl rfl ?_
      refine am_getR (t := 1) d_CB_removeAll_40 fl_CB_12 hg (by decide) sh_0 (by decide) rfl (by decide) lk_0_0 (by decide) ?_
      refine am_bipush (v := (7 : Int32)) d_CB_removeAll_43 (by decide) ?_
      refine am_iconst (v := (-1 : Int32)) d_CB_removeAll_45 (by decide) ?_
      refine am_iconst (v := (-1 : Int32)) d_CB_removeAll_46 (by decide) ?_
      obtain ⟨hc, h⟩ := h
      refine ak_VC (as := [.int (7 : Int32), .int (-1 : Int32), .int (-1 : Int32)]) (rest := []) d_CB_removeAll_47 cw_CB_removeAll_47 rfl rfl rfl (ct_BA_refuse hg hc) rfl rfl (by decide) sh_1 rfl (Nat.le_of_ble_eq_true rfl) (by decide) (by decide) ?_
      refine ai_eq (F := am_oC) (tgt := 57) d_CB_removeAll_50 (by decide) (fun c => ?_) (fun c => ?_)
      · have h := h.1 c
        refine am_iconst (v := (0 : Int32)) d_CB_removeAll_57 (by decide) ?_
        exact am_iret d_CB_removeAll_58 rfl (am_bool (Or.inl rfl)).1 (by decide) (by decide) am_oC_ok
      · have h := h.2 c
        refine am_iconst (v := (1 : Int32)) d_CB_removeAll_53 (by decide) ?_
        refine am_goto (tgt := 58) d_CB_removeAll_54 (by decide) ?_
        exact am_iret d_CB_removeAll_58 rfl (am_bool (Or.inr rfl)).1 (by decide) (by decide) am_oC_ok
theorem ct_CB_removeAll {l : Launch} {g : am_Gl} (hg : g.2.2.2.1 = true) {s : am_M} {x1 : Nat} (h : p_CB_removeAll s x1) : AC l g m_CB_removeAll 207 s [.ref 0, .ref x1] (am_oC (f_CB_removeAll s x1)) := am_enter ok_CB_removeAll rfl (Nat.le_of_ble_eq_true rfl) rfl (fun ad0 => w_CB_removeAll hg h)
theorem cw_CB_rows_2 : am_cv m_CB_rows m_CB_wantTable 70 1 := ⟨⟨ok_CB_wantTable, rfl, by decide +kernel, by decide, by decide⟩, aw_2_34, aw_2_36, as_0_2⟩
theorem cw_CB_rows_13 : am_cv m_CB_rows m_RO_madeIn 266 1 := ⟨⟨ok_RO_madeIn, rfl, by decide +kernel, by decide, by decide⟩, aw_5_106, aw_2_134, aw_2_135⟩
def f_CB_rows  (s : am_M) (x1 : Int32) : Nat × Int32 × am_M := (if (f_CB_wantTable s x1) = 0 then (0, (f_RO_madeIn s 8 x1), s) else ((f_CB_wantTable s x1), 0, s))
def p_CB_rows  (s : am_M) (x1 : Int32) : Prop := (((f_CB_wantTable s x1) = 0) → p_RO_madeIn s 8 x1 ∧ (True))
set_option maxRecDepth 8000 in
theorem w_CB_rows {l : Launch} {g : am_Gl} (hg : g.2.2.2.1 = true) {ad0 : Nat → Nat} {s : am_M} {x1 : Int32} (h : p_CB_rows s x1) : AW l g m_CB_rows 207 ad0 (am_oE (f_CB_rows s x1)) 0 0 207 s 0 [(0, .ref 0), (1, .int x1)] [] := by
  refine am_aload_n (j := 0) d_CB_rows_0 rfl rfl ?_
  refine am_iload_n (j := 1) d_CB_rows_1 rfl rfl ?_
  refine ak_D (F := am_oE) (as := [.int x1]) (rest := []) d_CB_rows_2 cw_CB_rows_2 rfl rfl rfl (ct_CB_wantTable hg) rfl rfl (by decide) sh_0 rfl (Nat.le_of_ble_eq_true rfl) (by decide) (by decide) am_oE_x (fun c => ?_)
  have h := h c
  refine am_aload_n (j := 0) d_CB_rows_5 rfl rfl ?_
  refine am_getR (t := 1) d_CB_rows_6 fl_CB_12 hg (by decide) sh_0 (by decide) rfl (by decide) lk_0_0 (by decide) ?_
  refine am_getR (t := 8) d_CB_rows_9 fl_CB_213 hg (by decide) sh_1 (by decide) rfl (by decide) lk_1_9 (by decide) ?_
  refine am_iload_n (j := 1) d_CB_rows_12 rfl rfl ?_
  obtain ⟨hc, h⟩ := h
  refine ak_VI (as := [.int x1]) (rest := []) d_CB_rows_13 cw_CB_rows_13 rfl rfl rfl (ct_RO_madeIn hg hc) rfl rfl (by decide) sh_8 rfl (Nat.le_of_ble_eq_true rfl) (by decide) (by decide) ?_
  exact am_iret d_CB_rows_16 rfl rfl (by decide) (by decide) am_oE_ok
theorem ct_CB_rows {l : Launch} {g : am_Gl} (hg : g.2.2.2.1 = true) {s : am_M} {x1 : Int32} (h : p_CB_rows s x1) : AC l g m_CB_rows 207 s [.ref 0, .int x1] (am_oE (f_CB_rows s x1)) := am_enter ok_CB_rows rfl (Nat.le_of_ble_eq_true rfl) rfl (fun ad0 => w_CB_rows hg h)
def f_CB_wantAct  (s : am_M) (x1 : Int32) : Nat := (if x1 < 0 then 1 else (if (s 0 5) ≤ x1 then 1 else (if x1 < (4 : Int32) then 0 else 1)))
def p_CB_wantAct  (s : am_M) (x1 : Int32) : Prop := ((x1 < 0) → True) ∧ (¬ (x1 < 0) → (((s 0 5) ≤ x1) → True) ∧ (¬ ((s 0 5) ≤ x1) → ((x1 < (4 : Int32)) → True) ∧ (¬ (x1 < (4 : Int32)) → True)))
set_option maxRecDepth 8000 in
theorem w_CB_wantAct {l : Launch} {g : am_Gl} (hg : g.2.2.2.1 = true) {ad0 : Nat → Nat} {s : am_M} {x1 : Int32} : AW l g m_CB_wantAct 207 ad0 ((am_oD s) (f_CB_wantAct s x1)) 0 0 207 s 0 [(0, .ref 0), (1, .int x1)] [] := by
  have h : p_CB_wantAct s x1 := by
    unfold p_CB_wantAct
    first | exact trivial | simp
  refine am_iload_n (j := 1) d_CB_wantAct_0 rfl rfl ?_
  refine ai_lt (F := (am_oD s)) (tgt := 21) d_CB_wantAct_1 (by decide) (fun c => ?_) (fun c => ?_)
  · have h := h.1 c
    exact am_throw d_CB_wantAct_21 d_CB_wantAct_24 d_CB_wantAct_25 d_CB_wantAct_28 tw_IOB rfl rfl (by decide) (by decide) (by decide) am_oD_1
  · have h := h.2 c
    refine am_iload_n (j := 1) d_CB_wantAct_4 rfl rfl ?_
    refine am_aload_n (j := 0) d_CB_wantAct_5 rfl rfl ?_
    refine am_getI d_CB_wantAct_6 fl_CB_339 (by decide) sh_0 (by decide) rfl ?_
    refine aj_ge (F := (am_oD s)) (tgt := 21) d_CB_wantAct_9 (by decide) (fun c => ?_) (fun c => ?_)
    · have h := h.1 c
      exact am_throw d_CB_wantAct_21 d_CB_wantAct_24 d_CB_wantAct_25 d_CB_wantAct_28 tw_IOB rfl rfl (by decide) (by decide) (by decide) am_oD_1
    · have h := h.2 c
      refine am_iload_n (j := 1) d_CB_wantAct_12 rfl rfl ?_
      refine am_aload_n (j := 0) d_CB_wantAct_13 rfl rfl ?_
      refine am_getR (t := 125) d_CB_wantAct_14 fl_CB_45 hg (by decide) sh_0 (by decide) rfl (by decide) lk_0_4 (by decide) ?_
      refine am_alen (v := (4 : Int32)) d_CB_wantAct_17 (by decide) sh_125 (by decide) (by decide) ?_
      refine aj_lt (F := (am_oD s)) (tgt := 29) d_CB_wantAct_18 (by decide) (fun c => ?_) (fun c => ?_)
      · have h := h.1 c
        exact am_vret d_CB_wantAct_29 rfl (by decide) (by decide) am_oD_ok
      · have h := h.2 c
        exact am_throw d_CB_wantAct_21 d_CB_wantAct_24 d_CB_wantAct_25 d_CB_wantAct_28 tw_IOB rfl rfl (by decide) (by decide) (by decide) am_oD_1
theorem ct_CB_wantAct {l : Launch} {g : am_Gl} (hg : g.2.2.2.1 = true) {s : am_M} {x1 : Int32} : AC l g m_CB_wantAct 207 s [.ref 0, .int x1] ((am_oD s) (f_CB_wantAct s x1)) := am_enter ok_CB_wantAct rfl (Nat.le_of_ble_eq_true rfl) rfl (fun ad0 => w_CB_wantAct hg)
theorem cw_CB_run_2 : am_cv m_CB_run m_CB_wantAct 342 1 := ⟨⟨ok_CB_wantAct, rfl, by decide +kernel, by decide, by decide⟩, aw_3_90, aw_3_92, as_1_11⟩
theorem cw_CB_run_6 : am_cv m_CB_run m_CB_keepAhead 357 0 := ⟨⟨ok_CB_keepAhead, rfl, by decide +kernel, by decide, by decide⟩, aw_3_94, aw_3_96, as_1_12⟩
theorem cw_CB_run_151 : am_cv m_CB_run m_CB_endRun 383 1 := ⟨⟨ok_CB_endRun, rfl, by decide +kernel, by decide, by decide⟩, aw_3_212, aw_3_214, as_2_13⟩
theorem cw_CB_run_79 : am_cv m_CB_run m_CB_putInAll 368 1 := ⟨⟨ok_CB_putInAll, rfl, by decide +kernel, by decide, by decide⟩, aw_3_98, aw_3_100, as_1_13⟩
theorem cw_CB_run_90 : am_cv m_CB_run m_CB_addFrom 372 1 := ⟨⟨ok_CB_addFrom, rfl, by decide +kernel, by decide, by decide⟩, aw_3_203, aw_3_205, as_2_11⟩
theorem cw_CB_run_101 : am_cv m_CB_run m_CB_removeAll 375 1 := ⟨⟨ok_CB_removeAll, rfl, by decide +kernel, by decide, by decide⟩, aw_3_208, aw_3_210, as_2_12⟩
theorem cw_CB_run_118 : am_cv m_CB_run m_AS_find 316 1 := ⟨⟨ok_AS_find, rfl, by decide +kernel, by decide, by decide⟩, aw_3_102, aw_3_103, aw_3_104⟩
theorem cw_CB_run_139 : am_cv m_CB_run m_CB_endRun 383 1 := ⟨⟨ok_CB_endRun, rfl, by decide +kernel, by decide, by decide⟩, aw_3_212, aw_3_214, as_2_13⟩
def f_CB_run_132 (K18 : am_M → Int32 → Nat → Int32 → Nat × Int32 × am_M) (s : am_M) (x1 : Int32) (x2 : Nat) (x3 : Int32) (x4 : Nat) (x5 : Int32) : Nat × Int32 × am_M := (if x5 = 0 then (0, (f_CB_endRun s (0 : Int32)).1, (f_CB_endRun s (0 : Int32)).2) else (K18 s x1 x2 (x3 + (1 : Int32))))
def p_CB_run_132 (KP18 : am_M → Int32 → Nat → Int32 → Prop) (s : am_M) (x1 : Int32) (x2 : Nat) (x3 : Int32) (x4 : Nat) (x5 : Int32) : Prop := ((x5 = 0) → p_CB_endRun s (0 : Int32) ∧ (((f_CB_endRun s (0 : Int32)).1 = 0 ∨ (f_CB_endRun s (0 : Int32)).1 = 1) ∧ (True))) ∧ (¬ (x5 = 0) → (KP18 s x1 x2 (x3 + (1 : Int32))))
set_option maxRecDepth 8000 in
theorem w_CB_run_132 {l : Launch} {g : am_Gl} (hg : g.2.2.2.1 = true) {ad0 : Nat → Nat} {K18 : am_M → Int32 → Nat → Int32 → Nat × Int32 × am_M} {KP18 : am_M → Int32 → Nat → Int32 → Prop} (hK18 : ∀ (s : am_M) (x1 : Int32) (x2 : Nat) (x3 : Int32), KP18 s x1 x2 x3 → AW l g m_CB_run 207 ad0 (am_oE (K18 s x1 x2 x3)) 1 6 207 s 18 [(0, .ref 0), (1, .int x1), (2, .ref x2), (3, .int x3)] []) {s : am_M} {x1 : Int32} {x2 : Nat} {x3 : Int32} {x4 : Nat} {x5 : Int32} (h : p_CB_run_132 KP18 s x1 x2 x3 x4 x5) : AW l g m_CB_run 207 ad0 (am_oE (f_CB_run_132 K18 s x1 x2 x3 x4 x5)) 1 6 207 s 132 [(0, .ref 0), (1, .int x1), (2, .ref x2), (3, .int x3), (4, .ref x4), (5, .int x5)] [] := by
  refine am_iload (j := 5) d_CB_run_132 rfl ?_
  refine ai_ne (F := am_oE) (tgt := 143) d_CB_run_134 (by decide) (fun c => ?_) (fun c => ?_)
  · have h := h.2 c
    refine am_iinc (j := 3) (v := (x3 + (1 : Int32))) (lv2 := [(3, .int (x3 + (1 : Int32))), (0, .ref 0), (1, .int x1), (2, .ref x2), (4, .ref x4), (5, .int x5)]) d_CB_run_143 rfl rfl (by decide) rfl ?_
    refine am_goto (tgt := 18) d_CB_run_146 (by decide) ?_
    refine am_sub [1, 2, 3, 0] (lv2 := [(0, .ref 0), (1, .int x1), (2, .ref x2), (3, .int (x3 + (1 : Int32)))]) rfl ?_
    refine am_widen (k2 := 1) (z2 := 6) (by decide) (by decide) ?_
    exact hK18 _ _ _ _ h
  · have h := h.1 c
    refine am_aload_n (j := 0) d_CB_run_137 rfl rfl ?_
    refine am_iconst (v := (0 : Int32)) d_CB_run_138 (by decide) ?_
    obtain ⟨hc, h⟩ := h
    refine ak_VC (as := [.int (0 : Int32)]) (rest := []) d_CB_run_139 cw_CB_run_139 rfl rfl rfl (ct_CB_endRun hg hc) rfl rfl (by decide) sh_0 rfl (Nat.le_of_ble_eq_true rfl) (by decide) (by decide) ?_
    obtain ⟨hz, h⟩ := h
    exact am_iret d_CB_run_142 rfl (am_bool hz).1 (by decide) (by decide) am_oE_ok
def f_CB_run_18  : Nat → am_M → Int32 → Nat → Int32 → Nat × Int32 × am_M
  | 0, s, x1, x2, x3 => (0, 0, s)
  | n + 1, s, x1, x2, x3 => (if (s x2 1) ≤ x3 then (0, (f_CB_endRun s (1 : Int32)).1, (f_CB_endRun s (1 : Int32)).2) else (if (6 : Int32) ≤ x3 then (0, (f_CB_endRun s (1 : Int32)).1, (f_CB_endRun s (1 : Int32)).2) else (if (s (am_lk (am_lk x2 0) (x3).toNatClampNeg) 0) = (0 : Int32) then (f_CB_run_132 (f_CB_run_18  n) (f_CB_putInAll s (am_lk (am_lk x2 0) (x3).toNatClampNeg)).2 x1 x2 x3 (am_lk (am_lk x2 0) (x3).toNatClampNeg) (f_CB_putInAll s (am_lk (am_lk x2 0) (x3).toNatClampNeg)).1) else (if (s (am_lk (am_lk x2 0) (x3).toNatClampNeg) 0) = (1 : Int32) then (f_CB_run_132 (f_CB_run_18  n) (f_CB_addFrom s (am_lk (am_lk x2 0) (x3).toNatClampNeg)).2 x1 x2 x3 (am_lk (am_lk x2 0) (x3).toNatClampNeg) (f_CB_addFrom s (am_lk (am_lk x2 0) (x3).toNatClampNeg)).1) else (if (s (am_lk (am_lk x2 0) (x3).toNatClampNeg) 0) = (2 : Int32) then (f_CB_run_132 (f_CB_run_18  n) (f_CB_removeAll s (am_lk (am_lk x2 0) (x3).toNatClampNeg)).2 x1 x2 x3 (am_lk (am_lk x2 0) (x3).toNatClampNeg) (f_CB_removeAll s (am_lk (am_lk x2 0) (x3).toNatClampNeg)).1) else (if (f_AS_find s (s (am_lk (am_lk x2 0) (x3).toNatClampNeg) 1)).1 = 0 then (f_CB_run_132 (f_CB_run_18  n) (f_AS_find s (s (am_lk (am_lk x2 0) (x3).toNatClampNeg) 1)).2 x1 x2 (x3 + ((f_AS_find s (s (am_lk (am_lk x2 0) (x3).toNatClampNeg) 1)).2 (am_lk (am_lk x2 0) (x3).toNatClampNeg) 3)) (am_lk (am_lk x2 0) (x3).toNatClampNeg) (1 : Int32)) else (f_CB_run_132 (f_CB_run_18  n) (f_AS_find s (s (am_lk (am_lk x2 0) (x3).toNatClampNeg) 1)).2 x1 x2 x3 (am_lk (am_lk x2 0) (x3).toNatClampNeg) (1 : Int32))))))))
def p_CB_run_18  : Nat → am_M → Int32 → Nat → Int32 → Prop
  | 0, s, x1, x2, x3 => False
  | n + 1, s, x1, x2, x3 => (x2 < 207 ∧ am_sh x2 = (0, 0, 2)) ∧ ((((s x2 1) ≤ x3) → p_CB_endRun s (1 : Int32) ∧ (((f_CB_endRun s (1 : Int32)).1 = 0 ∨ (f_CB_endRun s (1 : Int32)).1 = 1) ∧ (True))) ∧ (¬ ((s x2 1) ≤ x3) → (((6 : Int32) ≤ x3) → p_CB_endRun s (1 : Int32) ∧ (((f_CB_endRun s (1 : Int32)).1 = 0 ∨ (f_CB_endRun s (1 : Int32)).1 = 1) ∧ (True))) ∧ (¬ ((6 : Int32) ≤ x3) → ((am_lk x2 0) < 207 ∧ am_sh (am_lk x2 0) = (1, 8, 6)) ∧ (vp_in x3 6 ∧ (((am_lk (am_lk x2 0) (x3).toNatClampNeg) < 207 ∧ am_sh (am_lk (am_lk x2 0) (x3).toNatClampNeg) = (0, 8, 5)) ∧ ((((s (am_lk (am_lk x2 0) (x3).toNatClampNeg) 0) = (0 : Int32)) → p_CB_putInAll s (am_lk (am_lk x2 0) (x3).toNatClampNeg) ∧ ((p_CB_run_132 (p_CB_run_18  n) (f_CB_putInAll s (am_lk (am_lk x2 0) (x3).toNatClampNeg)).2 x1 x2 x3 (am_lk (am_lk x2 0) (x3).toNatClampNeg) (f_CB_putInAll s (am_lk (am_lk x2 0) (x3).toNatClampNeg)).1))) ∧ (¬ ((s (am_lk (am_lk x2 0) (x3).toNatClampNeg) 0) = (0 : Int32)) → (((s (am_lk (am_lk x2 0) (x3).toNatClampNeg) 0) = (1 : Int32)) → p_CB_addFrom s (am_lk (am_lk x2 0) (x3).toNatClampNeg) ∧ ((p_CB_run_132 (p_CB_run_18  n) (f_CB_addFrom s (am_lk (am_lk x2 0) (x3).toNatClampNeg)).2 x1 x2 x3 (am_lk (am_lk x2 0) (x3).toNatClampNeg) (f_CB_addFrom s (am_lk (am_lk x2 0) (x3).toNatClampNeg)).1))) ∧ (¬ ((s (am_lk (am_lk x2 0) (x3).toNatClampNeg) 0) = (1 : Int32)) → (((s (am_lk (am_lk x2 0) (x3).toNatClampNeg) 0) = (2 : Int32)) → p_CB_removeAll s (am_lk (am_lk x2 0) (x3).toNatClampNeg) ∧ ((p_CB_run_132 (p_CB_run_18  n) (f_CB_removeAll s (am_lk (am_lk x2 0) (x3).toNatClampNeg)).2 x1 x2 x3 (am_lk (am_lk x2 0) (x3).toNatClampNeg) (f_CB_removeAll s (am_lk (am_lk x2 0) (x3).toNatClampNeg)).1))) ∧ (¬ ((s (am_lk (am_lk x2 0) (x3).toNatClampNeg) 0) = (2 : Int32)) → p_AS_find s (s (am_lk (am_lk x2 0) (x3).toNatClampNeg) 1) ∧ ((((f_AS_find s (s (am_lk (am_lk x2 0) (x3).toNatClampNeg) 1)).1 = 0) → (p_CB_run_132 (p_CB_run_18  n) (f_AS_find s (s (am_lk (am_lk x2 0) (x3).toNatClampNeg) 1)).2 x1 x2 (x3 + ((f_AS_find s (s (am_lk (am_lk x2 0) (x3).toNatClampNeg) 1)).2 (am_lk (am_lk x2 0) (x3).toNatClampNeg) 3)) (am_lk (am_lk x2 0) (x3).toNatClampNeg) (1 : Int32))) ∧ (¬ ((f_AS_find s (s (am_lk (am_lk x2 0) (x3).toNatClampNeg) 1)).1 = 0) → (p_CB_run_132 (p_CB_run_18  n) (f_AS_find s (s (am_lk (am_lk x2 0) (x3).toNatClampNeg) 1)).2 x1 x2 x3 (am_lk (am_lk x2 0) (x3).toNatClampNeg) (1 : Int32)))))))))))))
set_option maxRecDepth 8000 in
theorem w_CB_run_18 {l : Launch} {g : am_Gl} (hg : g.2.2.2.1 = true) {ad0 : Nat → Nat}   : ∀ (n : Nat) (s : am_M) (x1 : Int32) (x2 : Nat) (x3 : Int32), p_CB_run_18  n s x1 x2 x3 → AW l g m_CB_run 207 ad0 (am_oE (f_CB_run_18  n s x1 x2 x3)) 1 6 207 s 18 [(0, .ref 0), (1, .int x1), (2, .ref x2), (3, .int x3)] [] := by
  intro n
  induction n with
  | zero => intro s x1 x2 x3 h; exact h.elim
  | succ n hK18 =>
    intro s x1 x2 x3 h
    refine am_iload_n (j := 3) d_CB_run_18 rfl rfl ?_
    refine am_aload_n (j := 2) d_CB_run_19 rfl rfl ?_
    obtain ⟨⟨b1, t1⟩, h⟩ := h
    refine am_getI d_CB_run_20 fl_CB_360 b1 t1 (by decide) rfl ?_
    refine aj_ge (F := am_oE) (tgt := 149) d_CB_run_23 (by decide) (fun c => ?_) (fun c => ?_)
    · have h := h.1 c
      refine am_aload_n (j := 0) d_CB_run_149 rfl rfl ?_
      refine am_iconst (v := (1 : Int32)) d_CB_run_150 (by decide) ?_
      obtain ⟨hc, h⟩ := h
      refine ak_VC (as := [.int (1 : Int32)]) (rest := []) d_CB_run_151 cw_CB_run_151 rfl rfl rfl (ct_CB_endRun hg hc) rfl rfl (by decide) sh_0 rfl (Nat.le_of_ble_eq_true rfl) (by decide) (by decide) ?_
      obtain ⟨hz, h⟩ := h
      exact am_iret d_CB_run_154 rfl (am_bool hz).1 (by decide) (by decide) am_oE_ok
    · have h := h.2 c
      refine am_iload_n (j := 3) d_CB_run_26 rfl rfl ?_
      refine am_bipush (v := (6 : Int32)) d_CB_run_27 (by decide) ?_
      refine aj_ge (F := am_oE) (tgt := 149) d_CB_run_29 (by decide) (fun c => ?_) (fun c => ?_)
      · have h := h.1 c
        refine am_aload_n (j := 0) d_CB_run_149 rfl rfl ?_
        refine am_iconst (v := (1 : Int32)) d_CB_run_150 (by decide) ?_
        obtain ⟨hc, h⟩ := h
        refine ak_VC (as := [.int (1 : Int32)]) (rest := []) d_CB_run_151 cw_CB_run_151 rfl rfl rfl (ct_CB_endRun hg hc) rfl rfl (by decide) sh_0 rfl (Nat.le_of_ble_eq_true rfl) (by decide) (by decide) ?_
        obtain ⟨hz, h⟩ := h
        exact am_iret d_CB_run_154 rfl (am_bool hz).1 (by decide) (by decide) am_oE_ok
      · have h := h.2 c
        refine am_aload_n (j := 2) d_CB_run_32 rfl rfl ?_
        obtain ⟨⟨b2, t2⟩, h⟩ := h
        refine am_getR (t := (am_lk x2 0)) d_CB_run_33 fl_CB_363 hg b1 t1 (by decide) rfl (am_ne0 t1) rfl b2 ?_
        refine am_iload_n (j := 3) d_CB_run_36 rfl rfl ?_
        obtain ⟨hv, h⟩ := h
        obtain ⟨⟨b3, t3⟩, h⟩ := h
        refine am_aalL d_CB_run_37 hg b2 t2 (by decide) (am_ne1 t2 (by decide)) hv rfl b3 ?_
        refine am_astore (lv2 := [(4, .ref (am_lk (am_lk x2 0) (x3).toNatClampNeg)), (0, .ref 0), (1, .int x1), (2, .ref x2), (3, .int x3)]) d_CB_run_38 (by decide) rfl ?_
        refine am_iconst (v := (1 : Int32)) d_CB_run_40 (by decide) ?_
        refine am_istore (lv2 := [(5, .int (1 : Int32)), (4, .ref (am_lk (am_lk x2 0) (x3).toNatClampNeg)), (0, .ref 0), (1, .int x1), (2, .ref x2), (3, .int x3)]) d_CB_run_41 (by decide) rfl ?_
        refine am_aload (j := 1) d_CB_run_43 rfl ?_
        refine am_getI d_CB_run_45 fl_CB_367 b3 t3 (by decide) rfl ?_
        refine am_case (F := am_oE) (c := (0 : Int32)) (fun c => ?_) (fun c => ?_)
        · have h := h.1 c
          refine am_tableIn (off := (28 : Int)) (tgt := 76) d_CB_run_48 (by rw [c]; decide) (by rw [c]; decide) (by rw [c]; rfl) (by decide) ?_
          refine am_aload_n (j := 2) d_CB_run_76 rfl rfl ?_
          refine am_aload (j := 1) d_CB_run_77 rfl ?_
          obtain ⟨hc, h⟩ := h
          refine ak_VC (as := [.ref (am_lk (am_lk x2 0) (x3).toNatClampNeg)]) (rest := []) d_CB_run_79 cw_CB_run_79 rfl rfl rfl (ct_CB_putInAll hg hc) rfl rfl (by decide) sh_0 rfl (Nat.le_of_ble_eq_true rfl) (by decide) (by decide) ?_
          refine am_istore (lv2 := [(5, .int (f_CB_putInAll s (am_lk (am_lk x2 0) (x3).toNatClampNeg)).1), (4, .ref (am_lk (am_lk x2 0) (x3).toNatClampNeg)), (0, .ref 0), (1, .int x1), (2, .ref x2), (3, .int x3)]) d_CB_run_82 (by decide) rfl ?_
          refine am_goto (tgt := 132) d_CB_run_84 (by decide) ?_
          refine am_sub [2, 3, 4, 5, 1, 0] (lv2 := [(0, .ref 0), (1, .int x1), (2, .ref x2), (3, .int x3), (4, .ref (am_lk (am_lk x2 0) (x3).toNatClampNeg)), (5, .int (f_CB_putInAll s (am_lk (am_lk x2 0) (x3).toNatClampNeg)).1)]) rfl ?_
          refine am_widen (k2 := 1) (z2 := 6) (by decide) (by decide) ?_
          exact w_CB_run_132 hg hK18 h
        · have h := h.2 c
          have n0 := c
          refine am_case (F := am_oE) (c := (1 : Int32)) (fun c => ?_) (fun c => ?_)
          · have h := h.1 c
            refine am_tableIn (off := (39 : Int)) (tgt := 87) d_CB_run_48 (by rw [c]; decide) (by rw [c]; decide) (by rw [c]; rfl) (by decide) ?_
            refine am_aload_n (j := 2) d_CB_run_87 rfl rfl ?_
            refine am_aload (j := 1) d_CB_run_88 rfl ?_
            obtain ⟨hc, h⟩ := h
            refine ak_VC (as := [.ref (am_lk (am_lk x2 0) (x3).toNatClampNeg)]) (rest := []) d_CB_run_90 cw_CB_run_90 rfl rfl rfl (ct_CB_addFrom hg hc) rfl rfl (by decide) sh_0 rfl (Nat.le_of_ble_eq_true rfl) (by decide) (by decide) ?_
            refine am_istore (lv2 := [(5, .int (f_CB_addFrom s (am_lk (am_lk x2 0) (x3).toNatClampNeg)).1), (4, .ref (am_lk (am_lk x2 0) (x3).toNatClampNeg)), (0, .ref 0), (1, .int x1), (2, .ref x2), (3, .int x3)]) d_CB_run_93 (by decide) rfl ?_
            refine am_goto (tgt := 132) d_CB_run_95 (by decide) ?_
            refine am_sub [2, 3, 4, 5, 1, 0] (lv2 := [(0, .ref 0), (1, .int x1), (2, .ref x2), (3, .int x3), (4, .ref (am_lk (am_lk x2 0) (x3).toNatClampNeg)), (5, .int (f_CB_addFrom s (am_lk (am_lk x2 0) (x3).toNatClampNeg)).1)]) rfl ?_
            refine am_widen (k2 := 1) (z2 := 6) (by decide) (by decide) ?_
            exact w_CB_run_132 hg hK18 h
          · have h := h.2 c
            have n1 := c
            refine am_case (F := am_oE) (c := (2 : Int32)) (fun c => ?_) (fun c => ?_)
            · have h := h.1 c
              refine am_tableIn (off := (50 : Int)) (tgt := 98) d_CB_run_48 (by rw [c]; decide) (by rw [c]; decide) (by rw [c]; rfl) (by decide) ?_
              refine am_aload_n (j := 2) d_CB_run_98 rfl rfl ?_
              refine am_aload (j := 1) d_CB_run_99 rfl ?_
              obtain ⟨hc, h⟩ := h
              refine ak_VC (as := [.ref (am_lk (am_lk x2 0) (x3).toNatClampNeg)]) (rest := []) d_CB_run_101 cw_CB_run_101 rfl rfl rfl (ct_CB_removeAll hg hc) rfl rfl (by decide) sh_0 rfl (Nat.le_of_ble_eq_true rfl) (by decide) (by decide) ?_
              refine am_istore (lv2 := [(5, .int (f_CB_removeAll s (am_lk (am_lk x2 0) (x3).toNatClampNeg)).1), (4, .ref (am_lk (am_lk x2 0) (x3).toNatClampNeg)), (0, .ref 0), (1, .int x1), (2, .ref x2), (3, .int x3)]) d_CB_run_104 (by decide) rfl ?_
              refine am_goto (tgt := 132) d_CB_run_106 (by decide) ?_
              refine am_sub [2, 3, 4, 5, 1, 0] (lv2 := [(0, .ref 0), (1, .int x1), (2, .ref x2), (3, .int x3), (4, .ref (am_lk (am_lk x2 0) (x3).toNatClampNeg)), (5, .int (f_CB_removeAll s (am_lk (am_lk x2 0) (x3).toNatClampNeg)).1)]) rfl ?_
              refine am_widen (k2 := 1) (z2 := 6) (by decide) (by decide) ?_
              exact w_CB_run_132 hg hK18 h
            · have h := h.2 c
              have n2 := c
              refine am_tableOut (tgt := 109) d_CB_run_48 (am_out5 (fun j j1 j2 e => ?_)) (by decide) ?_
              · exact am_sw3 j1 j2 e n0 n1 n2
              refine am_aload_n (j := 2) d_CB_run_109 rfl rfl ?_
              refine am_getR (t := 52) d_CB_run_110 fl_CB_21 hg (by decide) sh_0 (by decide) rfl (by decide) lk_0_1 (by decide) ?_
              refine am_aload (j := 1) d_CB_run_113 rfl ?_
              refine am_getI d_CB_run_115 fl_CB_378 b3 t3 (by decide) rfl ?_
              obtain ⟨hc, h⟩ := h
              refine ak_VC (as := [.int (s (am_lk (am_lk x2 0) (x3).toNatClampNeg) 1)]) (rest := []) d_CB_run_118 cw_CB_run_118 rfl rfl rfl (ct_AS_find hg hc) rfl rfl (by decide) sh_52 rfl (Nat.le_of_ble_eq_true rfl) (by decide) (by decide) ?_
              refine ai_ne (F := am_oE) (tgt := 132) d_CB_run_121 (by decide) (fun c => ?_) (fun c => ?_)
              · have h := h.2 c
                refine am_sub [2, 3, 4, 5, 1, 0] (lv2 := [(0, .ref 0), (1, .int x1), (2, .ref x2), (3, .int x3), (4, .ref (am_lk (am_lk x2 0) (x3).toNatClampNeg)), (5, .int (1 : Int32))]) rfl ?_
                refine am_widen (k2 := 1) (z2 := 6) (by decide) (by decide) ?_
                exact w_CB_run_132 hg hK18 h
              · have h := h.1 c
                refine am_iload_n (j := 5) d_CB_run_124 rfl rfl ?_
                refine am_aload (j := 1) d_CB_run_125 rfl ?_
                refine am_getI d_CB_run_127 fl_CB_380 b3 t3 (by decide) rfl ?_
                refine am_iadd d_CB_run_130 ?_
                refine am_istore_n (lv2 := [(3, .int (x3 + ((f_AS_find s (s (am_lk (am_lk x2 0) (x3).toNatClampNeg) 1)).2 (am_lk (am_lk x2 0) (x3).toNatClampNeg) 3))), (5, .int (1 : Int32)), (4, .ref (am_lk (am_lk x2 0) (x3).toNatClampNeg)), (0, .ref 0), (1, .int x1), (2, .ref x2)]) d_CB_run_131 rfl (by decide) rfl ?_
                refine am_sub [3, 4, 5, 0, 2, 1] (lv2 := [(0, .ref 0), (1, .int x1), (2, .ref x2), (3, .int (x3 + ((f_AS_find s (s (am_lk (am_lk x2 0) (x3).toNatClampNeg) 1)).2 (am_lk (am_lk x2 0) (x3).toNatClampNeg) 3))), (4, .ref (am_lk (am_lk x2 0) (x3).toNatClampNeg)), (5, .int (1 : Int32))]) rfl ?_
                refine am_widen (k2 := 1) (z2 := 6) (by decide) (by decide) ?_
                exact w_CB_run_132 hg hK18 h
def f_CB_run  (s : am_M) (x1 : Int32) : Nat × Int32 × am_M := (if (f_CB_wantAct s x1) = 0 then (f_CB_run_18 am_F (f_CB_keepAhead s) x1 (am_lk 125 (x1).toNatClampNeg) (0 : Int32)) else ((f_CB_wantAct s x1), 0, s))
def p_CB_run  (s : am_M) (x1 : Int32) : Prop := (((f_CB_wantAct s x1) = 0) → p_CB_keepAhead s ∧ (vp_in x1 4 ∧ (((am_lk 125 (x1).toNatClampNeg) < 207 ∧ am_sh (am_lk 125 (x1).toNatClampNeg) = (0, 0, 2)) ∧ ((p_CB_run_18 am_F (f_CB_keepAhead s) x1 (am_lk 125 (x1).toNatClampNeg) (0 : Int32))))))
set_option maxRecDepth 8000 in
theorem w_CB_run {l : Launch} {g : am_Gl} (hg : g.2.2.2.1 = true) {ad0 : Nat → Nat} {s : am_M} {x1 : Int32} (h : p_CB_run s x1) : AW l g m_CB_run 207 ad0 (am_oE (f_CB_run s x1)) 0 0 207 s 0 [(0, .ref 0), (1, .int x1)] [] := by
  refine am_aload_n (j := 0) d_CB_run_0 rfl rfl ?_
  refine am_iload_n (j := 1) d_CB_run_1 rfl rfl ?_
  refine ak_D (F := am_oE) (as := [.int x1]) (rest := []) d_CB_run_2 cw_CB_run_2 rfl rfl rfl (ct_CB_wantAct hg) rfl rfl (by decide) sh_0 rfl (Nat.le_of_ble_eq_true rfl) (by decide) (by decide) am_oE_x (fun c => ?_)
  have h := h c
  refine am_aload_n (j := 0) d_CB_run_5 rfl rfl ?_
  obtain ⟨hc, h⟩ := h
  refine ak_VM (as := []) (rest := []) d_CB_run_6 cw_CB_run_6 rfl rfl rfl (ct_CB_keepAhead hg hc) rfl rfl (by decide) sh_0 rfl (Nat.le_of_ble_eq_true rfl) (by decide) (by decide) ?_
  refine am_aload_n (j := 0) d_CB_run_9 rfl rfl ?_
  refine am_getR (t := 125) d_CB_run_10 fl_CB_45 hg (by decide) sh_0 (by decide) rfl (by decide) lk_0_4 (by decide) ?_
  refine am_iload_n (j := 1) d_CB_run_13 rfl rfl ?_
  obtain ⟨hv, h⟩ := h
  obtain ⟨⟨b1, t1⟩, h⟩ := h
  refine am_aalL d_CB_run_14 hg (by decide) sh_125 (by decide) (by decide) hv rfl b1 ?_
  refine am_astore_n (lv2 := [(2, .ref (am_lk 125 (x1).toNatClampNeg)), (0, .ref 0), (1, .int x1)]) d_CB_run_15 rfl (by decide) rfl ?_
  refine am_iconst (v := (0 : Int32)) d_CB_run_16 (by decide) ?_
  refine am_istore_n (lv2 := [(3, .int (0 : Int32)), (2, .ref (am_lk 125 (x1).toNatClampNeg)), (0, .ref 0), (1, .int x1)]) d_CB_run_17 rfl (by decide) rfl ?_
  refine am_sub [2, 3, 1, 0] (lv2 := [(0, .ref 0), (1, .int x1), (2, .ref (am_lk 125 (x1).toNatClampNeg)), (3, .int (0 : Int32))]) rfl ?_
  refine am_widen (k2 := 1) (z2 := 6) (by decide) (by decide) ?_
  exact w_CB_run_18 hg am_F _ _ _ _ h
theorem ct_CB_run {l : Launch} {g : am_Gl} (hg : g.2.2.2.1 = true) {s : am_M} {x1 : Int32} (h : p_CB_run s x1) : AC l g m_CB_run 207 s [.ref 0, .int x1] (am_oE (f_CB_run s x1)) := am_enter ok_CB_run rfl (Nat.le_of_ble_eq_true rfl) rfl (fun ad0 => w_CB_run hg h)
theorem cw_CB_setRemoval_3 : am_cv m_CB_setRemoval m_CB_wantColumn 99 2 := ⟨⟨ok_CB_wantColumn, rfl, by decide +kernel, by decide, by decide⟩, aw_3_14, aw_3_16, as_1_2⟩
theorem cw_CB_setRemoval_9 : am_cv m_CB_setRemoval m_CB_wantLink 162 2 := ⟨⟨ok_CB_wantLink, rfl, by decide +kernel, by decide, by decide⟩, aw_3_36, aw_3_38, as_1_5⟩
theorem cw_CB_setRemoval_14 : am_cv m_CB_setRemoval m_CB_wantRemoval 85 1 := ⟨⟨ok_CB_wantRemoval, rfl, by decide +kernel, by decide, by decide⟩, aw_2_101, aw_2_103, as_0_6⟩
theorem cw_CB_setRemoval_18 : am_cv m_CB_setRemoval m_CB_forgetActs 67 0 := ⟨⟨ok_CB_forgetActs, rfl, by decide +kernel, by decide, by decide⟩, aw_2_26, aw_2_28, as_0_1⟩
theorem cw_CB_setRemoval_27 : am_cv m_CB_setRemoval m_BA_column 102 2 := ⟨⟨ok_BA_column, rfl, by decide +kernel, by decide, by decide⟩, aw_3_40, aw_2_94, aw_2_95⟩
def f_CB_setRemoval  (s : am_M) (x1 : Int32) (x2 : Int32) (x3 : Int32) : Nat × Int32 × am_M := (if (f_CB_wantColumn s x1 x2) = 0 then (if (f_CB_wantLink s x1 x2) = 0 then (if (f_CB_wantRemoval s x3) = 0 then (0, ((f_CB_forgetActs s) (f_BA_column (f_CB_forgetActs s) x1 x2) 4), (am_set (f_CB_forgetActs s) (f_BA_column (f_CB_forgetActs s) x1 x2) 4 x3)) else ((f_CB_wantRemoval s x3), 0, s)) else ((f_CB_wantLink s x1 x2), 0, s)) else ((f_CB_wantColumn s x1 x2), 0, s))
def p_CB_setRemoval  (s : am_M) (x1 : Int32) (x2 : Int32) (x3 : Int32) : Prop := p_CB_wantColumn s x1 x2 ∧ ((((f_CB_wantColumn s x1 x2) = 0) → p_CB_wantLink s x1 x2 ∧ ((((f_CB_wantLink s x1 x2) = 0) → (((f_CB_wantRemoval s x3) = 0) → p_BA_column (f_CB_forgetActs s) x1 x2 ∧ (((f_BA_column (f_CB_forgetActs s) x1 x2) < 207 ∧ am_sh (f_BA_column (f_CB_forgetActs s) x1 x2) = (0, 3, 11)) ∧ (True)))))))
set_option maxRecDepth 8000 in
theorem w_CB_setRemoval {l : Launch} {g : am_Gl} (hg : g.2.2.2.1 = true) {ad0 : Nat → Nat} {s : am_M} {x1 : Int32} {x2 : Int32} {x3 : Int32} (h : p_CB_setRemoval s x1 x2 x3) : AW l g m_CB_setRemoval 207 ad0 (am_oE (f_CB_setRemoval s x1 x2 x3)) 0 0 207 s 0 [(0, .ref 0), (1, .int x1), (2, .int x2), (3, .int x3)] [] := by
  refine am_aload_n (j := 0) d_CB_setRemoval_0 rfl rfl ?_
  refine am_iload_n (j := 1) d_CB_setRemoval_1 rfl rfl ?_
  refine am_iload_n (j := 2) d_CB_setRemoval_2 rfl rfl ?_
  obtain ⟨hc, h⟩ := h
  refine ak_D (F := am_oE) (as := [.int x1, .int x2]) (rest := []) d_CB_setRemoval_3 cw_CB_setRemoval_3 rfl rfl rfl (ct_CB_wantColumn hg hc) rfl rfl (by decide) sh_0 rfl (Nat.le_of_ble_eq_true rfl) (by decide) (by decide) am_oE_x (fun c => ?_)
  have h := h c
  refine am_aload_n (j := 0) d_CB_setRemoval_6 rfl rfl ?_
  refine am_iload_n (j := 1) d_CB_setRemoval_7 rfl rfl ?_
  refine am_iload_n (j := 2) d_CB_setRemoval_8 rfl rfl ?_
  obtain ⟨hc, h⟩ := h
  refine ak_D (F := am_oE) (as := [.int x1, .int x2]) (rest := []) d_CB_setRemoval_9 cw_CB_setRemoval_9 rfl rfl rfl (ct_CB_wantLink hg hc) rfl rfl (by decide) sh_0 rfl (Nat.le_of_ble_eq_true rfl) (by decide) (by decide) am_oE_x (fun c => ?_)
  have h := h c
  refine am_aload_n (j := 0) d_CB_setRemoval_12 rfl rfl ?_
  refine am_iload_n (j := 3) d_CB_setRemoval_13 rfl rfl ?_
  refine ak_D (F := am_oE) (as := [.int x3]) (rest := []) d_CB_setRemoval_14 cw_CB_setRemoval_14 rfl rfl rfl (ct_CB_wantRemoval hg) rfl rfl (by decide) sh_0 rfl (Nat.le_of_ble_eq_true rfl) (by decide) (by decide) am_oE_x (fun c => ?_)
  have h := h c
  refine am_aload_n (j := 0) d_CB_setRemoval_17 rfl rfl ?_
  refine ak_VM (as := []) (rest := []) d_CB_setRemoval_18 cw_CB_setRemoval_18 rfl rfl rfl (ct_CB_forgetActs hg) rfl rfl (by decide) sh_0 rfl (Nat.le_of_ble_eq_true rfl) (by decide) (by decide) ?_
  refine am_aload_n (j := 0) d_CB_setRemoval_21 rfl rfl ?_
  refine am_getR (t := 1) d_CB_setRemoval_22 fl_CB_12 hg (by decide) sh_0 (by decide) rfl (by decide) lk_0_0 (by decide) ?_
  refine am_iload_n (j := 1) d_CB_setRemoval_25 rfl rfl ?_
  refine am_iload_n (j := 2) d_CB_setRemoval_26 rfl rfl ?_
  obtain ⟨hc, h⟩ := h
  refine ak_VR (as := [.int x1, .int x2]) (rest := []) d_CB_setRemoval_27 cw_CB_setRemoval_27 rfl rfl rfl (ct_BA_column hg hc) rfl rfl (by decide) sh_1 rfl (Nat.le_of_ble_eq_true rfl) (by decide) (by decide) ?_
  refine am_astore (lv2 := [(4, .ref (f_BA_column (f_CB_forgetActs s) x1 x2)), (0, .ref 0), (1, .int x1), (2, .int x2), (3, .int x3)]) d_CB_setRemoval_30 (by decide) rfl ?_
  refine am_aload (j := 0) d_CB_setRemoval_32 rfl ?_
  obtain ⟨⟨b1, t1⟩, h⟩ := h
  refine am_getI d_CB_setRemoval_34 fl_CB_165 b1 t1 (by decide) rfl ?_
  refine am_istore (lv2 := [(5, .int ((f_CB_forgetActs s) (f_BA_column (f_CB_forgetActs s) x1 x2) 4)), (4, .ref (f_BA_column (f_CB_forgetActs s) x1 x2)), (0, .ref 0), (1, .int x1), (2, .int x2), (3, .int x3)]) d_CB_setRemoval_37 (by decide) rfl ?_
  refine am_aload (j := 1) d_CB_setRemoval_39 rfl ?_
  refine am_iload_n (j := 5) d_CB_setRemoval_41 rfl rfl ?_
  refine am_putI (ty := .int) d_CB_setRemoval_42 fl_CB_165 ft_3_4 b1 t1 (by decide) rfl rfl rfl ?_
  refine am_iload (j := 0) d_CB_setRemoval_45 rfl ?_
  exact am_iret d_CB_setRemoval_47 rfl rfl (by decide) (by decide) am_oE_ok
theorem ct_CB_setRemoval {l : Launch} {g : am_Gl} (hg : g.2.2.2.1 = true) {s : am_M} {x1 : Int32} {x2 : Int32} {x3 : Int32} (h : p_CB_setRemoval s x1 x2 x3) : AC l g m_CB_setRemoval 207 s [.ref 0, .int x1, .int x2, .int x3] (am_oE (f_CB_setRemoval s x1 x2 x3)) := am_enter ok_CB_setRemoval rfl (Nat.le_of_ble_eq_true rfl) rfl (fun ad0 => w_CB_setRemoval hg h)
theorem cw_CB_single_3 : am_cv m_CB_single m_CB_wantColumn 99 2 := ⟨⟨ok_CB_wantColumn, rfl, by decide +kernel, by decide, by decide⟩, aw_3_14, aw_3_16, as_1_2⟩
theorem cw_CB_single_9 : am_cv m_CB_single m_CB_wantStored 122 2 := ⟨⟨ok_CB_wantStored, rfl, by decide +kernel, by decide, by decide⟩, aw_4_52, aw_4_54, as_3_10⟩
theorem cw_CB_single_20 : am_cv m_CB_single m_BA_changeSingle 129 3 := ⟨⟨ok_BA_changeSingle, rfl, by decide +kernel, by decide, by decide⟩, aw_4_65, aw_4_66, aw_4_67⟩
theorem cw_CB_single_23 : am_cv m_CB_single m_CB_tell 118 1 := ⟨⟨ok_CB_tell, rfl, by decide +kernel, by decide, by decide⟩, aw_3_1, aw_3_3, as_1_1⟩
def f_CB_single  (s : am_M) (x1 : Int32) (x2 : Int32) (x3 : Int32) : Nat × Int32 × am_M := (if (f_CB_wantColumn s x1 x2) = 0 then (if (f_CB_wantStored s x1 x2) = 0 then (0, (f_CB_tell (f_BA_changeSingle s x1 x2 x3).2 (f_BA_changeSingle s x1 x2 x3).1).1, (f_CB_tell (f_BA_changeSingle s x1 x2 x3).2 (f_BA_changeSingle s x1 x2 x3).1).2) else ((f_CB_wantStored s x1 x2), 0, s)) else ((f_CB_wantColumn s x1 x2), 0, s))
def p_CB_single  (s : am_M) (x1 : Int32) (x2 : Int32) (x3 : Int32) : Prop := p_CB_wantColumn s x1 x2 ∧ ((((f_CB_wantColumn s x1 x2) = 0) → p_CB_wantStored s x1 x2 ∧ ((((f_CB_wantStored s x1 x2) = 0) → p_BA_changeSingle s x1 x2 x3 ∧ (p_CB_tell (f_BA_changeSingle s x1 x2 x3).2 (f_BA_changeSingle s x1 x2 x3).1 ∧ (((f_CB_tell (f_BA_changeSingle s x1 x2 x3).2 (f_BA_changeSingle s x1 x2 x3).1).1 = 0 ∨ (f_CB_tell (f_BA_changeSingle s x1 x2 x3).2 (f_BA_changeSingle s x1 x2 x3).1).1 = 1) ∧ (True)))))))
set_option maxRecDepth 8000 in
theorem w_CB_single {l : Launch} {g : am_Gl} (hg : g.2.2.2.1 = true) {ad0 : Nat → Nat} {s : am_M} {x1 : Int32} {x2 : Int32} {x3 : Int32} (h : p_CB_single s x1 x2 x3) : AW l g m_CB_single 207 ad0 (am_oE (f_CB_single s x1 x2 x3)) 0 0 207 s 0 [(0, .ref 0), (1, .int x1), (2, .int x2), (3, .int x3)] [] := by
  refine am_aload_n (j := 0) d_CB_single_0 rfl rfl ?_
  refine am_iload_n (j := 1) d_CB_single_1 rfl rfl ?_
  refine am_iload_n (j := 2) d_CB_single_2 rfl rfl ?_
  obtain ⟨hc, h⟩ := h
  refine ak_D (F := am_oE) (as := [.int x1, .int x2]) (rest := []) d_CB_single_3 cw_CB_single_3 rfl rfl rfl (ct_CB_wantColumn hg hc) rfl rfl (by decide) sh_0 rfl (Nat.le_of_ble_eq_true rfl) (by decide) (by decide) am_oE_x (fun c => ?_)
  have h := h c
  refine am_aload_n (j := 0) d_CB_single_6 rfl rfl ?_
  refine am_iload_n (j := 1) d_CB_single_7 rfl rfl ?_
  refine am_iload_n (j := 2) d_CB_single_8 rfl rfl ?_
  obtain ⟨hc, h⟩ := h
  refine ak_D (F := am_oE) (as := [.int x1, .int x2]) (rest := []) d_CB_single_9 cw_CB_single_9 rfl rfl rfl (ct_CB_wantStored hg hc) rfl rfl (by decide) sh_0 rfl (Nat.le_of_ble_eq_true rfl) (by decide) (by decide) am_oE_x (fun c => ?_)
  have h := h c
  refine am_aload_n (j := 0) d_CB_single_12 rfl rfl ?_
  refine am_aload_n (j := 0) d_CB_single_13 rfl rfl ?_
  refine am_getR (t := 1) d_CB_single_14 fl_CB_12 hg (by decide) sh_0 (by decide) rfl (by decide) lk_0_0 (by decide) ?_
  refine am_iload_n (j := 1) d_CB_single_17 rfl rfl ?_
  refine am_iload_n (j := 2) d_CB_single_18 rfl rfl ?_
  refine am_iload_n (j := 3) d_CB_single_19 rfl rfl ?_
  obtain ⟨hc, h⟩ := h
  refine ak_VC (as := [.int x1, .int x2, .int x3]) (rest := [.ref 0]) d_CB_single_20 cw_CB_single_20 rfl rfl rfl (ct_BA_changeSingle hg hc) rfl rfl (by decide) sh_1 rfl (Nat.le_of_ble_eq_true rfl) (by decide) (by decide) ?_
  obtain ⟨hc, h⟩ := h
  refine ak_VC (as := [.int (f_BA_changeSingle s x1 x2 x3).1]) (rest := []) d_CB_single_23 cw_CB_single_23 rfl rfl rfl (ct_CB_tell hg hc) rfl rfl (by decide) sh_0 rfl (Nat.le_of_ble_eq_true rfl) (by decide) (by decide) ?_
  obtain ⟨hz, h⟩ := h
  exact am_iret d_CB_single_26 rfl (am_bool hz).1 (by decide) (by decide) am_oE_ok
theorem ct_CB_single {l : Launch} {g : am_Gl} (hg : g.2.2.2.1 = true) {s : am_M} {x1 : Int32} {x2 : Int32} {x3 : Int32} (h : p_CB_single s x1 x2 x3) : AC l g m_CB_single 207 s [.ref 0, .int x1, .int x2, .int x3] (am_oE (f_CB_single s x1 x2 x3)) := am_enter ok_CB_single rfl (Nat.le_of_ble_eq_true rfl) rfl (fun ad0 => w_CB_single hg h)
def f_CB_wantStepPlace  (s : am_M) (x1 : Int32) : Nat := (if (s (am_lk 125 (x1).toNatClampNeg) 1) < (6 : Int32) then 0 else 3)
def p_CB_wantStepPlace  (s : am_M) (x1 : Int32) : Prop := vp_in x1 4 ∧ (((am_lk 125 (x1).toNatClampNeg) < 207 ∧ am_sh (am_lk 125 (x1).toNatClampNeg) = (0, 0, 2)) ∧ ((((s (am_lk 125 (x1).toNatClampNeg) 1) < (6 : Int32)) → True) ∧ (¬ ((s (am_lk 125 (x1).toNatClampNeg) 1) < (6 : Int32)) → True)))
set_option maxRecDepth 8000 in
theorem w_CB_wantStepPlace {l : Launch} {g : am_Gl} (hg : g.2.2.2.1 = true) {ad0 : Nat → Nat} {s : am_M} {x1 : Int32} (h : p_CB_wantStepPlace s x1) : AW l g m_CB_wantStepPlace 207 ad0 ((am_oD s) (f_CB_wantStepPlace s x1)) 0 0 207 s 0 [(0, .ref 0), (1, .int x1)] [] := by
  refine am_aload_n (j := 0) d_CB_wantStepPlace_0 rfl rfl ?_
  refine am_getR (t := 125) d_CB_wantStepPlace_1 fl_CB_45 hg (by decide) sh_0 (by decide) rfl (by decide) lk_0_4 (by decide) ?_
  refine am_iload_n (j := 1) d_CB_wantStepPlace_4 rfl rfl ?_
  obtain ⟨hv, h⟩ := h
  obtain ⟨⟨b1, t1⟩, h⟩ := h
  refine am_aalL d_CB_wantStepPlace_5 hg (by decide) sh_125 (by decide) (by decide) hv rfl b1 ?_
  refine am_getI d_CB_wantStepPlace_6 fl_CB_360 b1 t1 (by decide) rfl ?_
  refine am_bipush (v := (6 : Int32)) d_CB_wantStepPlace_9 (by decide) ?_
  refine aj_lt (F := (am_oD s)) (tgt := 22) d_CB_wantStepPlace_11 (by decide) (fun c => ?_) (fun c => ?_)
  · have h := h.1 c
    exact am_vret d_CB_wantStepPlace_22 rfl (by decide) (by decide) am_oD_ok
  · have h := h.2 c
    exact am_throw d_CB_wantStepPlace_14 d_CB_wantStepPlace_17 d_CB_wantStepPlace_18 d_CB_wantStepPlace_21 tw_ISE rfl rfl (by decide) (by decide) (by decide) am_oD_3
theorem ct_CB_wantStepPlace {l : Launch} {g : am_Gl} (hg : g.2.2.2.1 = true) {s : am_M} {x1 : Int32} (h : p_CB_wantStepPlace s x1) : AC l g m_CB_wantStepPlace 207 s [.ref 0, .int x1] ((am_oD s) (f_CB_wantStepPlace s x1)) := am_enter ok_CB_wantStepPlace rfl (Nat.le_of_ble_eq_true rfl) rfl (fun ad0 => w_CB_wantStepPlace hg h)
theorem cw_CB_stepAdd_2 : am_cv m_CB_stepAdd m_CB_wantAct 342 1 := ⟨⟨ok_CB_wantAct, rfl, by decide +kernel, by decide, by decide⟩, aw_3_90, aw_3_92, as_1_11⟩
theorem cw_CB_stepAdd_7 : am_cv m_CB_stepAdd m_CB_wantTable 70 1 := ⟨⟨ok_CB_wantTable, rfl, by decide +kernel, by decide, by decide⟩, aw_2_34, aw_2_36, as_0_2⟩
theorem cw_CB_stepAdd_12 : am_cv m_CB_stepAdd m_CB_wantStepPlace 345 1 := ⟨⟨ok_CB_wantStepPlace, rfl, by decide +kernel, by decide, by decide⟩, aw_5_38, aw_5_40, as_4_6⟩
theorem cw_CB_stepAdd_25 : am_cv m_CB_stepAdd m_AC_keepDraft 353 1 := ⟨⟨ok_AC_keepDraft, rfl, by decide +kernel, by decide, by decide⟩, aw_5_50, aw_5_51, aw_5_52⟩
theorem cw_CB_stepAdd_38 : am_cv m_CB_stepAdd m_AC_addStep 350 4 := ⟨⟨ok_AC_addStep, rfl, by decide +kernel, by decide, by decide⟩, aw_5_42, aw_5_43, aw_5_44⟩
def f_CB_stepAdd  (s : am_M) (x1 : Int32) (x2 : Int32) : Nat × Int32 × am_M := (if (f_CB_wantAct s x1) = 0 then (if (f_CB_wantTable s x2) = 0 then (if (f_CB_wantStepPlace s x1) = 0 then (0, (f_AC_addStep (f_AC_keepDraft s (am_lk 125 (x1).toNatClampNeg) 124) (am_lk 125 (x1).toNatClampNeg) (1 : Int32) (-1 : Int32) (-1 : Int32) x2).1, (f_AC_addStep (f_AC_keepDraft s (am_lk 125 (x1).toNatClampNeg) 124) (am_lk 125 (x1).toNatClampNeg) (1 : Int32) (-1 : Int32) (-1 : Int32) x2).2) else ((f_CB_wantStepPlace s x1), 0, s)) else ((f_CB_wantTable s x2), 0, s)) else ((f_CB_wantAct s x1), 0, s))
def p_CB_stepAdd  (s : am_M) (x1 : Int32) (x2 : Int32) : Prop := (((f_CB_wantAct s x1) = 0) → (((f_CB_wantTable s x2) = 0) → p_CB_wantStepPlace s x1 ∧ ((((f_CB_wantStepPlace s x1) = 0) → vp_in x1 4 ∧ (((am_lk 125 (x1).toNatClampNeg) < 207 ∧ am_sh (am_lk 125 (x1).toNatClampNeg) = (0, 0, 2)) ∧ (p_AC_keepDraft s (am_lk 125 (x1).toNatClampNeg) 124 ∧ (vp_in x1 4 ∧ (p_AC_addStep (f_AC_keepDraft s (am_lk 125 (x1).toNatClampNeg) 124) (am_lk 125 (x1).toNatClampNeg) (1 : Int32) (-1 : Int32) (-1 : Int32) x2 ∧ (True)))))))))
set_option maxRecDepth 8000 in
theorem w_CB_stepAdd {l : Launch} {g : am_Gl} (hg : g.2.2.2.1 = true) {ad0 : Nat → Nat} {s : am_M} {x1 : Int32} {x2 : Int32} (h : p_CB_stepAdd s x1 x2) : AW l g m_CB_stepAdd 207 ad0 (am_oE (f_CB_stepAdd s x1 x2)) 0 0 207 s 0 [(0, .ref 0), (1, .int x1), (2, .int x2)] [] := by
  refine am_aload_n (j := 0) d_CB_stepAdd_0 rfl rfl ?_
  refine am_iload_n (j := 1) d_CB_stepAdd_1 rfl rfl ?_
  refine ak_D (F := am_oE) (as := [.int x1]) (rest := []) d_CB_stepAdd_2 cw_CB_stepAdd_2 rfl rfl rfl (ct_CB_wantAct hg) rfl rfl (by decide) sh_0 rfl (Nat.le_of_ble_eq_true rfl) (by decide) (by decide) am_oE_x (fun c => ?_)
  have h := h c
  refine am_aload_n (j := 0) d_CB_stepAdd_5 rfl rfl ?_
  refine am_iload_n (j := 2) d_CB_stepAdd_6 rfl rfl ?_
  refine ak_D (F := am_oE) (as := [.int x2]) (rest := []) d_CB_stepAdd_7 cw_CB_stepAdd_7 rfl rfl rfl (ct_CB_wantTable hg) rfl rfl (by decide) sh_0 rfl (Nat.le_of_ble_eq_true rfl) (by decide) (by decide) am_oE_x (fun c => ?_)
  have h := h c
  refine am_aload_n (j := 0) d_CB_stepAdd_10 rfl rfl ?_
  refine am_iload_n (j := 1) d_CB_stepAdd_11 rfl rfl ?_
  obtain ⟨hc, h⟩ := h
  refine ak_D (F := am_oE) (as := [.int x1]) (rest := []) d_CB_stepAdd_12 cw_CB_stepAdd_12 rfl rfl rfl (ct_CB_wantStepPlace hg hc) rfl rfl (by decide) sh_0 rfl (Nat.le_of_ble_eq_true rfl) (by decide) (by decide) am_oE_x (fun c => ?_)
  have h := h c
  refine am_aload_n (j := 0) d_CB_stepAdd_15 rfl rfl ?_
  refine am_getR (t := 125) d_CB_stepAdd_16 fl_CB_45 hg (by decide) sh_0 (by decide) rfl (by decide) lk_0_4 (by decide) ?_
  refine am_iload_n (j := 1) d_CB_stepAdd_19 rfl rfl ?_
  obtain ⟨hv, h⟩ := h
  obtain ⟨⟨b1, t1⟩, h⟩ := h
  refine am_aalL d_CB_stepAdd_20 hg (by decide) sh_125 (by decide) (by decide) hv rfl b1 ?_
  refine am_aload_n (j := 0) d_CB_stepAdd_21 rfl rfl ?_
  refine am_getR (t := 124) d_CB_stepAdd_22 fl_CB_32 hg (by decide) sh_0 (by decide) rfl (by decide) lk_0_3 (by decide) ?_
  obtain ⟨hc, h⟩ := h
  refine ak_VM (as := [.ref 124]) (rest := []) d_CB_stepAdd_25 cw_CB_stepAdd_25 rfl rfl rfl (ct_AC_keepDraft hg hc) rfl rfl b1 t1 rfl (Nat.le_of_ble_eq_true rfl) (by decide) (by decide) ?_
  refine am_aload_n (j := 0) d_CB_stepAdd_28 rfl rfl ?_
  refine am_getR (t := 125) d_CB_stepAdd_29 fl_CB_45 hg (by decide) sh_0 (by decide) rfl (by decide) lk_0_4 (by decide) ?_
  refine am_iload_n (j := 1) d_CB_stepAdd_32 rfl rfl ?_
  obtain ⟨hv, h⟩ := h
  refine am_aalL d_CB_stepAdd_33 hg (by decide) sh_125 (by decide) (by decide) hv rfl b1 ?_
  refine am_iconst (v := (1 : Int32)) d_CB_stepAdd_34 (by decide) ?_
  refine am_iconst (v := (-1 : Int32)) d_CB_stepAdd_35 (by decide) ?_
  refine am_iconst (v := (-1 : Int32)) d_CB_stepAdd_36 (by decide) ?_
  refine am_iload_n (j := 2) d_CB_stepAdd_37 rfl rfl ?_
  obtain ⟨hc, h⟩ := h
  refine ak_VC (as := [.int (1 : Int32), .int (-1 : Int32), .int (-1 : Int32), .int x2]) (rest := []) d_CB_stepAdd_38 cw_CB_stepAdd_38 rfl rfl rfl (ct_AC_addStep hg hc) rfl rfl b1 t1 rfl (Nat.le_of_ble_eq_true rfl) (by decide) (by decide) ?_
  exact am_iret d_CB_stepAdd_41 rfl rfl (by decide) (by decide) am_oE_ok
theorem ct_CB_stepAdd {l : Launch} {g : am_Gl} (hg : g.2.2.2.1 = true) {s : am_M} {x1 : Int32} {x2 : Int32} (h : p_CB_stepAdd s x1 x2) : AC l g m_CB_stepAdd 207 s [.ref 0, .int x1, .int x2] (am_oE (f_CB_stepAdd s x1 x2)) := am_enter ok_CB_stepAdd rfl (Nat.le_of_ble_eq_true rfl) rfl (fun ad0 => w_CB_stepAdd hg h)
theorem cw_CB_stepIf_2 : am_cv m_CB_stepIf m_CB_wantAct 342 1 := ⟨⟨ok_CB_wantAct, rfl, by decide +kernel, by decide, by decide⟩, aw_3_90, aw_3_92, as_1_11⟩
theorem cw_CB_stepIf_7 : am_cv m_CB_stepIf m_CB_wantQuestion 313 1 := ⟨⟨ok_CB_wantQuestion, rfl, by decide +kernel, by decide, by decide⟩, aw_4_180, aw_4_182, as_3_14⟩
theorem cw_CB_stepIf_31 : am_cv m_CB_stepIf m_CB_wantStepPlace 345 1 := ⟨⟨ok_CB_wantStepPlace, rfl, by decide +kernel, by decide, by decide⟩, aw_5_38, aw_5_40, as_4_6⟩
theorem cw_CB_stepIf_44 : am_cv m_CB_stepIf m_AC_addStep 350 4 := ⟨⟨ok_AC_addStep, rfl, by decide +kernel, by decide, by decide⟩, aw_5_42, aw_5_43, aw_5_44⟩
def f_CB_stepIf  (s : am_M) (x1 : Int32) (x2 : Int32) (x3 : Int32) : Nat × Int32 × am_M := (if (f_CB_wantAct s x1) = 0 then (if (f_CB_wantQuestion s x2) = 0 then (if x3 < (1 : Int32) then (2, 0, s) else (if x3 < (6 : Int32) then (if (f_CB_wantStepPlace s x1) = 0 then (0, (f_AC_addStep s (am_lk 125 (x1).toNatClampNeg) (3 : Int32) x2 (-1 : Int32) x3).1, (f_AC_addStep s (am_lk 125 (x1).toNatClampNeg) (3 : Int32) x2 (-1 : Int32) x3).2) else ((f_CB_wantStepPlace s x1), 0, s)) else (2, 0, s))) else ((f_CB_wantQuestion s x2), 0, s)) else ((f_CB_wantAct s x1), 0, s))
def p_CB_stepIf  (s : am_M) (x1 : Int32) (x2 : Int32) (x3 : Int32) : Prop := (((f_CB_wantAct s x1) = 0) → (((f_CB_wantQuestion s x2) = 0) → ((x3 < (1 : Int32)) → True) ∧ (¬ (x3 < (1 : Int32)) → ((x3 < (6 : Int32)) → p_CB_wantStepPlace s x1 ∧ ((((f_CB_wantStepPlace s x1) = 0) → vp_in x1 4 ∧ (((am_lk 125 (x1).toNatClampNeg) < 207 ∧ am_sh (am_lk 125 (x1).toNatClampNeg) = (0, 0, 2)) ∧ (p_AC_addStep s (am_lk 125 (x1).toNatClampNeg) (3 : Int32) x2 (-1 : Int32) x3 ∧ (True)))))) ∧ (¬ (x3 < (6 : Int32)) → True))))
set_option maxRecDepth 8000 in
theorem w_CB_stepIf {l : Launch} {g : am_Gl} (hg : g.2.2.2.1 = true) {ad0 : Nat → Nat} {s : am_M} {x1 : Int32} {x2 : Int32} {x3 : Int32} (h : p_CB_stepIf s x1 x2 x3) : AW l g m_CB_stepIf 207 ad0 (am_oE (f_CB_stepIf s x1 x2 x3)) 0 0 207 s 0 [(0, .ref 0), (1, .int x1), (2, .int x2), (3, .int x3)] [] := by
  refine am_aload_n (j := 0) d_CB_stepIf_0 rfl rfl ?_
  refine am_iload_n (j := 1) d_CB_stepIf_1 rfl rfl ?_
  refine ak_D (F := am_oE) (as := [.int x1]) (rest := []) d_CB_stepIf_2 cw_CB_stepIf_2 rfl rfl rfl (ct_CB_wantAct hg) rfl rfl (by decide) sh_0 rfl (Nat.le_of_ble_eq_true rfl) (by decide) (by decide) am_oE_x (fun c => ?_)
  have h := h c
  refine am_aload_n (j := 0) d_CB_stepIf_5 rfl rfl ?_
  refine am_iload_n (j := 2) d_CB_stepIf_6 rfl rfl ?_
  refine ak_D (F := am_oE) (as := [.int x2]) (rest := []) d_CB_stepIf_7 cw_CB_stepIf_7 rfl rfl rfl (ct_CB_wantQuestion hg) rfl rfl (by decide) sh_0 rfl (Nat.le_of_ble_eq_true rfl) (by decide) (by decide) am_oE_x (fun c => ?_)
  have h := h c
  refine am_iload_n (j := 3) d_CB_stepIf_10 rfl rfl ?_
  refine am_iconst (v := (1 : Int32)) d_CB_stepIf_11 (by decide) ?_
  refine aj_lt (F := am_oE) (tgt := 21) d_CB_stepIf_12 (by decide) (fun c => ?_) (fun c => ?_)
  · have h := h.1 c
    exact am_throw d_CB_stepIf_21 d_CB_stepIf_24 d_CB_stepIf_25 d_CB_stepIf_28 tw_IAE rfl rfl (by decide) (by decide) (by decide) am_oE_2
  · have h := h.2 c
    refine am_iload_n (j := 3) d_CB_stepIf_15 rfl rfl ?_
    refine am_bipush (v := (6 : Int32)) d_CB_stepIf_16 (by decide) ?_
    refine aj_lt (F := am_oE) (tgt := 29) d_CB_stepIf_18 (by decide) (fun c => ?_) (fun c => ?_)
    · have h := h.1 c
      refine am_aload_n (j := 0) d_CB_stepIf_29 rfl rfl ?_
      refine am_iload_n (j := 1) d_CB_stepIf_30 rfl rfl ?_
      obtain ⟨hc, h⟩ := h
      refine ak_D (F := am_oE) (as := [.int x1]) (rest := []) d_CB_stepIf_31 cw_CB_stepIf_31 rfl rfl rfl (ct_CB_wantStepPlace hg hc) rfl rfl (by decide) sh_0 rfl (Nat.le_of_ble_eq_true rfl) (by decide) (by decide) am_oE_x (fun c => ?_)
      have h := h c
      refine am_aload_n (j := 0) d_CB_stepIf_34 rfl rfl ?_
      refine am_getR (t := 125) d_CB_stepIf_35 fl_CB_45 hg (by decide) sh_0 (by decide) rfl (by decide) lk_0_4 (by decide) ?_
      refine am_iload_n (j := 1) d_CB_stepIf_38 rfl rfl ?_
      obtain ⟨hv, h⟩ := h
      obtain ⟨⟨b1, t1⟩, h⟩ := h
      refine am_aalL d_CB_stepIf_39 hg (by decide) sh_125 (by decide) (by decide) hv rfl b1 ?_
      refine am_iconst (v := (3 : Int32)) d_CB_stepIf_40 (by decide) ?_
      refine am_iload_n (j := 2) d_CB_stepIf_41 rfl rfl ?_
      refine am_iconst (v := (-1 : Int32)) d_CB_stepIf_42 (by decide) ?_
      refine am_iload_n (j := 3) d_CB_stepIf_43 rfl rfl ?_
      obtain ⟨hc, h⟩ := h
      refine ak_VC (as := [.int (3 : Int32), .int x2, .int (-1 : Int32), .int x3]) (rest := []) d_CB_stepIf_44 cw_CB_stepIf_44 rfl rfl rfl (ct_AC_addStep hg hc) rfl rfl b1 t1 rfl (Nat.le_of_ble_eq_true rfl) (by decide) (by decide) ?_
      exact am_iret d_CB_stepIf_47 rfl rfl (by decide) (by decide) am_oE_ok
    · have h := h.2 c
      exact am_throw d_CB_stepIf_21 d_CB_stepIf_24 d_CB_stepIf_25 d_CB_stepIf_28 tw_IAE rfl rfl (by decide) (by decide) (by decide) am_oE_2
theorem ct_CB_stepIf {l : Launch} {g : am_Gl} (hg : g.2.2.2.1 = true) {s : am_M} {x1 : Int32} {x2 : Int32} {x3 : Int32} (h : p_CB_stepIf s x1 x2 x3) : AC l g m_CB_stepIf 207 s [.ref 0, .int x1, .int x2, .int x3] (am_oE (f_CB_stepIf s x1 x2 x3)) := am_enter ok_CB_stepIf rfl (Nat.le_of_ble_eq_true rfl) rfl (fun ad0 => w_CB_stepIf hg h)
theorem cw_CB_stepPut_2 : am_cv m_CB_stepPut m_CB_wantAct 342 1 := ⟨⟨ok_CB_wantAct, rfl, by decide +kernel, by decide, by decide⟩, aw_3_90, aw_3_92, as_1_11⟩
theorem cw_CB_stepPut_8 : am_cv m_CB_stepPut m_CB_wantQuestionColumn 290 2 := ⟨⟨ok_CB_wantQuestionColumn, rfl, by decide +kernel, by decide, by decide⟩, aw_4_230, aw_4_232, as_4_3⟩
theorem cw_CB_stepPut_13 : am_cv m_CB_stepPut m_CB_wantPlain 293 1 := ⟨⟨ok_CB_wantPlain, rfl, by decide +kernel, by decide, by decide⟩, aw_4_234, aw_4_236, as_4_4⟩
theorem cw_CB_stepPut_19 : am_cv m_CB_stepPut m_CB_wantValue 210 1 := ⟨⟨ok_CB_wantValue, rfl, by decide +kernel, by decide, by decide⟩, aw_2_121, aw_2_123, as_0_7⟩
theorem cw_CB_stepPut_24 : am_cv m_CB_stepPut m_CB_wantStepPlace 345 1 := ⟨⟨ok_CB_wantStepPlace, rfl, by decide +kernel, by decide, by decide⟩, aw_5_38, aw_5_40, as_4_6⟩
theorem cw_CB_stepPut_38 : am_cv m_CB_stepPut m_AC_addStep 350 4 := ⟨⟨ok_AC_addStep, rfl, by decide +kernel, by decide, by decide⟩, aw_5_42, aw_5_43, aw_5_44⟩
def f_CB_stepPut  (s : am_M) (x1 : Int32) (x2 : Int32) (x3 : Int32) (x4 : Int32) : Nat × Int32 × am_M := (if (f_CB_wantAct s x1) = 0 then (if (f_CB_wantQuestionColumn s x2 x3).1 = 0 then (if (f_CB_wantPlain (f_CB_wantQuestionColumn s x2 x3).2 x2) = 0 then (if (f_CB_wantValue (f_CB_wantQuestionColumn s x2 x3).2 x4) = 0 then (if (f_CB_wantStepPlace (f_CB_wantQuestionColumn s x2 x3).2 x1) = 0 then (0, (f_AC_addStep (f_CB_wantQuestionColumn s x2 x3).2 (am_lk 125 (x1).toNatClampNeg) (0 : Int32) x2 x3 x4).1, (f_AC_addStep (f_CB_wantQuestionColumn s x2 x3).2 (am_lk 125 (x1).toNatClampNeg) (0 : Int32) x2 x3 x4).2) else ((f_CB_wantStepPlace (f_CB_wantQuestionColumn s x2 x3).2 x1), 0, (f_CB_wantQuestionColumn s x2 x3).2)) else ((f_CB_wantValue (f_CB_wantQuestionColumn s x2 x3).2 x4), 0, (f_CB_wantQuestionColumn s x2 x3).2)) else ((f_CB_wantPlain (f_CB_wantQuestionColumn s x2 x3).2 x2), 0, (f_CB_wantQuestionColumn s x2 x3).2)) else ((f_CB_wantQuestionColumn s x2 x3).1, 0, (f_CB_wantQuestionColumn s x2 x3).2)) else ((f_CB_wantAct s x1), 0, s))
def p_CB_stepPut  (s : am_M) (x1 : Int32) (x2 : Int32) (x3 : Int32) (x4 : Int32) : Prop := (((f_CB_wantAct s x1) = 0) → p_CB_wantQuestionColumn s x2 x3 ∧ ((((f_CB_wantQuestionColumn s x2 x3).1 = 0) → p_CB_wantPlain (f_CB_wantQuestionColumn s x2 x3).2 x2 ∧ ((((f_CB_wantPlain (f_CB_wantQuestionColumn s x2 x3).2 x2) = 0) → (((f_CB_wantValue (f_CB_wantQuestionColumn s x2 x3).2 x4) = 0) → p_CB_wantStepPlace (f_CB_wantQuestionColumn s x2 x3).2 x1 ∧ ((((f_CB_wantStepPlace (f_CB_wantQuestionColumn s x2 x3).2 x1) = 0) → vp_in x1 4 ∧ (((am_lk 125 (x1).toNatClampNeg) < 207 ∧ am_sh (am_lk 125 (x1).toNatClampNeg) = (0, 0, 2)) ∧ (p_AC_addStep (f_CB_wantQuestionColumn s x2 x3).2 (am_lk 125 (x1).toNatClampNeg) (0 : Int32) x2 x3 x4 ∧ (True)))))))))))
set_option maxRecDepth 8000 in
theorem w_CB_stepPut {l : Launch} {g : am_Gl} (hg : g.2.2.2.1 = true) {ad0 : Nat → Nat} {s : am_M} {x1 : Int32} {x2 : Int32} {x3 : Int32} {x4 : Int32} (h : p_CB_stepPut s x1 x2 x3 x4) : AW l g m_CB_stepPut 207 ad0 (am_oE (f_CB_stepPut s x1 x2 x3 x4)) 0 0 207 s 0 [(0, .ref 0), (1, .int x1), (2, .int x2), (3, .int x3), (4, .int x4)] [] := by
  refine am_aload_n (j := 0) d_CB_stepPut_0 rfl rfl ?_
  refine am_iload_n (j := 1) d_CB_stepPut_1 rfl rfl ?_
  refine ak_D (F := am_oE) (as := [.int x1]) (rest := []) d_CB_stepPut_2 cw_CB_stepPut_2 rfl rfl rfl (ct_CB_wantAct hg) rfl rfl (by decide) sh_0 rfl (Nat.le_of_ble_eq_true rfl) (by decide) (by decide) am_oE_x (fun c => ?_)
  have h := h c
  refine am_aload_n (j := 0) d_CB_stepPut_5 rfl rfl ?_
  refine am_iload_n (j := 2) d_CB_stepPut_6 rfl rfl ?_
  refine am_iload_n (j := 3) d_CB_stepPut_7 rfl rfl ?_
  obtain ⟨hc, h⟩ := h
  refine ak_V (F := am_oE) (as := [.int x2, .int x3]) (rest := []) d_CB_stepPut_8 cw_CB_stepPut_8 rfl rfl rfl (ct_CB_wantQuestionColumn hg hc) rfl rfl (by decide) sh_0 rfl (Nat.le_of_ble_eq_true rfl) (by decide) (by decide) am_oE_x (fun c => ?_)
  have h := h c
  refine am_aload_n (j := 0) d_CB_stepPut_11 rfl rfl ?_
  refine am_iload_n (j := 2) d_CB_stepPut_12 rfl rfl ?_
  obtain ⟨hc, h⟩ := h
  refine ak_D (F := am_oE) (as := [.int x2]) (rest := []) d_CB_stepPut_13 cw_CB_stepPut_13 rfl rfl rfl (ct_CB_wantPlain hg hc) rfl rfl (by decide) sh_0 rfl (Nat.le_of_ble_eq_true rfl) (by decide) (by decide) am_oE_x (fun c => ?_)
  have h := h c
  refine am_aload_n (j := 0) d_CB_stepPut_16 rfl rfl ?_
  refine am_iload (j := 4) d_CB_stepPut_17 rfl ?_
  refine ak_D (F := am_oE) (as := [.int x4]) (rest := []) d_CB_stepPut_19 cw_CB_stepPut_19 rfl rfl rfl (ct_CB_wantValue hg) rfl rfl (by decide) sh_0 rfl (Nat.le_of_ble_eq_true rfl) (by decide) (by decide) am_oE_x (fun c => ?_)
  have h := h c
  refine am_aload_n (j := 0) d_CB_stepPut_22 rfl rfl ?_
  refine am_iload_n (j := 1) d_CB_stepPut_23 rfl rfl ?_
  obtain ⟨hc, h⟩ := h
  refine ak_D (F := am_oE) (as := [.int x1]) (rest := []) d_CB_stepPut_24 cw_CB_stepPut_24 rfl rfl rfl (ct_CB_wantStepPlace hg hc) rfl rfl (by decide) sh_0 rfl (Nat.le_of_ble_eq_true rfl) (by decide) (by decide) am_oE_x (fun c => ?_)
  have h := h c
  refine am_aload_n (j := 0) d_CB_stepPut_27 rfl rfl ?_
  refine am_getR (t := 125) d_CB_stepPut_28 fl_CB_45 hg (by decide) sh_0 (by decide) rfl (by decide) lk_0_4 (by decide) ?_
  refine am_iload_n (j := 1) d_CB_stepPut_31 rfl rfl ?_
  obtain ⟨hv, h⟩ := h
  obtain ⟨⟨b1, t1⟩, h⟩ := h
  refine am_aalL d_CB_stepPut_32 hg (by decide) sh_125 (by decide) (by decide) hv rfl b1 ?_
  refine am_iconst (v := (0 : Int32)) d_CB_stepPut_33 (by decide) ?_
  refine am_iload_n (j := 2) d_CB_stepPut_34 rfl rfl ?_
  refine am_iload_n (j := 3) d_CB_stepPut_35 rfl rfl ?_
  refine am_iload (j := 4) d_CB_stepPut_36 rfl ?_
  obtain ⟨hc, h⟩ := h
  refine ak_VC (as := [.int (0 : Int32), .int x2, .int x3, .int x4]) (rest := []) d_CB_stepPut_38 cw_CB_stepPut_38 rfl rfl rfl (ct_AC_addStep hg hc) rfl rfl b1 t1 rfl (Nat.le_of_ble_eq_true rfl) (by decide) (by decide) ?_
  exact am_iret d_CB_stepPut_41 rfl rfl (by decide) (by decide) am_oE_ok
theorem ct_CB_stepPut {l : Launch} {g : am_Gl} (hg : g.2.2.2.1 = true) {s : am_M} {x1 : Int32} {x2 : Int32} {x3 : Int32} {x4 : Int32} (h : p_CB_stepPut s x1 x2 x3 x4) : AC l g m_CB_stepPut 207 s [.ref 0, .int x1, .int x2, .int x3, .int x4] (am_oE (f_CB_stepPut s x1 x2 x3 x4)) := am_enter ok_CB_stepPut rfl (Nat.le_of_ble_eq_true rfl) rfl (fun ad0 => w_CB_stepPut hg h)
theorem cw_CB_stepRemove_2 : am_cv m_CB_stepRemove m_CB_wantAct 342 1 := ⟨⟨ok_CB_wantAct, rfl, by decide +kernel, by decide, by decide⟩, aw_3_90, aw_3_92, as_1_11⟩
theorem cw_CB_stepRemove_8 : am_cv m_CB_stepRemove m_CB_wantQuestionColumn 290 2 := ⟨⟨ok_CB_wantQuestionColumn, rfl, by decide +kernel, by decide, by decide⟩, aw_4_230, aw_4_232, as_4_3⟩
theorem cw_CB_stepRemove_13 : am_cv m_CB_stepRemove m_CB_wantPlain 293 1 := ⟨⟨ok_CB_wantPlain, rfl, by decide +kernel, by decide, by decide⟩, aw_4_234, aw_4_236, as_4_4⟩
theorem cw_CB_stepRemove_18 : am_cv m_CB_stepRemove m_CB_wantStepPlace 345 1 := ⟨⟨ok_CB_wantStepPlace, rfl, by decide +kernel, by decide, by decide⟩, aw_5_38, aw_5_40, as_4_6⟩
theorem cw_CB_stepRemove_31 : am_cv m_CB_stepRemove m_AC_addStep 350 4 := ⟨⟨ok_AC_addStep, rfl, by decide +kernel, by decide, by decide⟩, aw_5_42, aw_5_43, aw_5_44⟩
def f_CB_stepRemove  (s : am_M) (x1 : Int32) (x2 : Int32) (x3 : Int32) : Nat × Int32 × am_M := (if (f_CB_wantAct s x1) = 0 then (if (f_CB_wantQuestionColumn s x2 x3).1 = 0 then (if (f_CB_wantPlain (f_CB_wantQuestionColumn s x2 x3).2 x2) = 0 then (if (f_CB_wantStepPlace (f_CB_wantQuestionColumn s x2 x3).2 x1) = 0 then (0, (f_AC_addStep (f_CB_wantQuestionColumn s x2 x3).2 (am_lk 125 (x1).toNatClampNeg) (2 : Int32) x2 x3 (0 : Int32)).1, (f_AC_addStep (f_CB_wantQuestionColumn s x2 x3).2 (am_lk 125 (x1).toNatClampNeg) (2 : Int32) x2 x3 (0 : Int32)).2) else ((f_CB_wantStepPlace (f_CB_wantQuestionColumn s x2 x3).2 x1), 0, (f_CB_wantQuestionColumn s x2 x3).2)) else ((f_CB_wantPlain (f_CB_wantQuestionColumn s x2 x3).2 x2), 0, (f_CB_wantQuestionColumn s x2 x3).2)) else ((f_CB_wantQuestionColumn s x2 x3).1, 0, (f_CB_wantQuestionColumn s x2 x3).2)) else ((f_CB_wantAct s x1), 0, s))
def p_CB_stepRemove  (s : am_M) (x1 : Int32) (x2 : Int32) (x3 : Int32) : Prop := (((f_CB_wantAct s x1) = 0) → p_CB_wantQuestionColumn s x2 x3 ∧ ((((f_CB_wantQuestionColumn s x2 x3).1 = 0) → p_CB_wantPlain (f_CB_wantQuestionColumn s x2 x3).2 x2 ∧ ((((f_CB_wantPlain (f_CB_wantQuestionColumn s x2 x3).2 x2) = 0) → p_CB_wantStepPlace (f_CB_wantQuestionColumn s x2 x3).2 x1 ∧ ((((f_CB_wantStepPlace (f_CB_wantQuestionColumn s x2 x3).2 x1) = 0) → vp_in x1 4 ∧ (((am_lk 125 (x1).toNatClampNeg) < 207 ∧ am_sh (am_lk 125 (x1).toNatClampNeg) = (0, 0, 2)) ∧ (p_AC_addStep (f_CB_wantQuestionColumn s x2 x3).2 (am_lk 125 (x1).toNatClampNeg) (2 : Int32) x2 x3 (0 : Int32) ∧ (True))))))))))
set_option maxRecDepth 8000 in
theorem w_CB_stepRemove {l : Launch} {g : am_Gl} (hg : g.2.2.2.1 = true) {ad0 : Nat → Nat} {s : am_M} {x1 : Int32} {x2 : Int32} {x3 : Int32} (h : p_CB_stepRemove s x1 x2 x3) : AW l g m_CB_stepRemove 207 ad0 (am_oE (f_CB_stepRemove s x1 x2 x3)) 0 0 207 s 0 [(0, .ref 0), (1, .int x1), (2, .int x2), (3, .int x3)] [] := by
  refine am_aload_n (j := 0) d_CB_stepRemove_0 rfl rfl ?_
  refine am_iload_n (j := 1) d_CB_stepRemove_1 rfl rfl ?_
  refine ak_D (F := am_oE) (as := [.int x1]) (rest := []) d_CB_stepRemove_2 cw_CB_stepRemove_2 rfl rfl rfl (ct_CB_wantAct hg) rfl rfl (by decide) sh_0 rfl (Nat.le_of_ble_eq_true rfl) (by decide) (by decide) am_oE_x (fun c => ?_)
  have h := h c
  refine am_aload_n (j := 0) d_CB_stepRemove_5 rfl rfl ?_
  refine am_iload_n (j := 2) d_CB_stepRemove_6 rfl rfl ?_
  refine am_iload_n (j := 3) d_CB_stepRemove_7 rfl rfl ?_
  obtain ⟨hc, h⟩ := h
  refine ak_V (F := am_oE) (as := [.int x2, .int x3]) (rest := []) d_CB_stepRemove_8 cw_CB_stepRemove_8 rfl rfl rfl (ct_CB_wantQuestionColumn hg hc) rfl rfl (by decide) sh_0 rfl (Nat.le_of_ble_eq_true rfl) (by decide) (by decide) am_oE_x (fun c => ?_)
  have h := h c
  refine am_aload_n (j := 0) d_CB_stepRemove_11 rfl rfl ?_
  refine am_iload_n (j := 2) d_CB_stepRemove_12 rfl rfl ?_
  obtain ⟨hc, h⟩ := h
  refine ak_D (F := am_oE) (as := [.int x2]) (rest := []) d_CB_stepRemove_13 cw_CB_stepRemove_13 rfl rfl rfl (ct_CB_wantPlain hg hc) rfl rfl (by decide) sh_0 rfl (Nat.le_of_ble_eq_true rfl) (by decide) (by decide) am_oE_x (fun c => ?_)
  have h := h c
  refine am_aload_n (j := 0) d_CB_stepRemove_16 rfl rfl ?_
  refine am_iload_n (j := 1) d_CB_stepRemove_17 rfl rfl ?_
  obtain ⟨hc, h⟩ := h
  refine ak_D (F := am_oE) (as := [.int x1]) (rest := []) d_CB_stepRemove_18 cw_CB_stepRemove_18 rfl rfl rfl (ct_CB_wantStepPlace hg hc) rfl rfl (by decide) sh_0 rfl (Nat.le_of_ble_eq_true rfl) (by decide) (by decide) am_oE_x (fun c => ?_)
  have h := h c
  refine am_aload_n (j := 0) d_CB_stepRemove_21 rfl rfl ?_
  refine am_getR (t := 125) d_CB_stepRemove_22 fl_CB_45 hg (by decide) sh_0 (by decide) rfl (by decide) lk_0_4 (by decide) ?_
  refine am_iload_n (j := 1) d_CB_stepRemove_25 rfl rfl ?_
  obtain ⟨hv, h⟩ := h
  obtain ⟨⟨b1, t1⟩, h⟩ := h
  refine am_aalL d_CB_stepRemove_26 hg (by decide) sh_125 (by decide) (by decide) hv rfl b1 ?_
  refine am_iconst (v := (2 : Int32)) d_CB_stepRemove_27 (by decide) ?_
  refine am_iload_n (j := 2) d_CB_stepRemove_28 rfl rfl ?_
  refine am_iload_n (j := 3) d_CB_stepRemove_29 rfl rfl ?_
  refine am_iconst (v := (0 : Int32)) d_CB_stepRemove_30 (by decide) ?_
  obtain ⟨hc, h⟩ := h
  refine ak_VC (as := [.int (2 : Int32), .int x2, .int x3, .int (0 : Int32)]) (rest := []) d_CB_stepRemove_31 cw_CB_stepRemove_31 rfl rfl rfl (ct_AC_addStep hg hc) rfl rfl b1 t1 rfl (Nat.le_of_ble_eq_true rfl) (by decide) (by decide) ?_
  exact am_iret d_CB_stepRemove_34 rfl rfl (by decide) (by decide) am_oE_ok
theorem ct_CB_stepRemove {l : Launch} {g : am_Gl} (hg : g.2.2.2.1 = true) {s : am_M} {x1 : Int32} {x2 : Int32} {x3 : Int32} (h : p_CB_stepRemove s x1 x2 x3) : AC l g m_CB_stepRemove 207 s [.ref 0, .int x1, .int x2, .int x3] (am_oE (f_CB_stepRemove s x1 x2 x3)) := am_enter ok_CB_stepRemove rfl (Nat.le_of_ble_eq_true rfl) rfl (fun ad0 => w_CB_stepRemove hg h)
theorem cw_CB_target_4 : am_cv m_CB_target m_CB_wantAnswer 322 3 := ⟨⟨ok_CB_wantAnswer, rfl, by decide +kernel, by decide, by decide⟩, aw_5_20, aw_5_22, as_4_5⟩
theorem cw_CB_target_12 : am_cv m_CB_target m_AS_question 298 1 := ⟨⟨ok_AS_question, rfl, by decide +kernel, by decide, by decide⟩, aw_3_182, aw_3_107, aw_3_108⟩
theorem cw_CB_target_16 : am_cv m_CB_target m_QU_originOf 331 1 := ⟨⟨ok_QU_originOf, rfl, by decide +kernel, by decide, by decide⟩, aw_3_183, aw_3_184, aw_3_185⟩
theorem cw_CB_target_27 : am_cv m_CB_target m_BA_isStored 333 1 := ⟨⟨ok_BA_isStored, rfl, by decide +kernel, by decide, by decide⟩, aw_5_29, aw_3_196, aw_3_197⟩
theorem cw_CB_target_53 : am_cv m_CB_target m_AS_rowOf 336 3 := ⟨⟨ok_AS_rowOf, rfl, by decide +kernel, by decide, by decide⟩, aw_3_187, aw_3_188, aw_3_189⟩
def f_CB_target  (s : am_M) (x1 : Int32) (x2 : Int32) (x3 : Int32) : Nat × Int32 × am_M := (if (f_CB_wantAnswer s x1 x2 x3).1 = 0 then (if (f_BA_isStored (f_CB_wantAnswer s x1 x2 x3).2 (f_QU_originOf (f_CB_wantAnswer s x1 x2 x3).2 (f_AS_question (f_CB_wantAnswer s x1 x2 x3).2 x1) x3)) = 0 then (0, (-1 : Int32), (f_CB_wantAnswer s x1 x2 x3).2) else (0, ((((1000 : Int32) * ((f_QU_originOf (f_CB_wantAnswer s x1 x2 x3).2 (f_AS_question (f_CB_wantAnswer s x1 x2 x3).2 x1) x3) / (10 : Int32))) + ((10 : Int32) * (f_AS_rowOf (f_CB_wantAnswer s x1 x2 x3).2 x1 x2 x3))) + ((f_QU_originOf (f_CB_wantAnswer s x1 x2 x3).2 (f_AS_question (f_CB_wantAnswer s x1 x2 x3).2 x1) x3) - (f_QU_originOf (f_CB_wantAnswer s x1 x2 x3).2 (f_AS_question (f_CB_wantAnswer s x1 x2 x3).2 x1) x3) / (10 : Int32) * (10 : Int32))), (f_CB_wantAnswer s x1 x2 x3).2)) else ((f_CB_wantAnswer s x1 x2 x3).1, 0, (f_CB_wantAnswer s x1 x2 x3).2))
def p_CB_target  (s : am_M) (x1 : Int32) (x2 : Int32) (x3 : Int32) : Prop := p_CB_wantAnswer s x1 x2 x3 ∧ ((((f_CB_wantAnswer s x1 x2 x3).1 = 0) → p_AS_question (f_CB_wantAnswer s x1 x2 x3).2 x1 ∧ (p_QU_originOf (f_CB_wantAnswer s x1 x2 x3).2 (f_AS_question (f_CB_wantAnswer s x1 x2 x3).2 x1) x3 ∧ (((f_AS_question (f_CB_wantAnswer s x1 x2 x3).2 x1) < 207 ∧ am_sh (f_AS_question (f_CB_wantAnswer s x1 x2 x3).2 x1) = (0, 4, 17)) ∧ (p_BA_isStored (f_CB_wantAnswer s x1 x2 x3).2 (f_QU_originOf (f_CB_wantAnswer s x1 x2 x3).2 (f_AS_question (f_CB_wantAnswer s x1 x2 x3).2 x1) x3) ∧ ((((f_BA_isStored (f_CB_wantAnswer s x1 x2 x3).2 (f_QU_originOf (f_CB_wantAnswer s x1 x2 x3).2 (f_AS_question (f_CB_wantAnswer s x1 x2 x3).2 x1) x3)) = 0) → True) ∧ (¬ ((f_BA_isStored (f_CB_wantAnswer s x1 x2 x3).2 (f_QU_originOf (f_CB_wantAnswer s x1 x2 x3).2 (f_AS_question (f_CB_wantAnswer s x1 x2 x3).2 x1) x3)) = 0) → p_AS_rowOf (f_CB_wantAnswer s x1 x2 x3).2 x1 x2 x3 ∧ (True))))))))
set_option maxRecDepth 8000 in
theorem w_CB_target {l : Launch} {g : am_Gl} (hg : g.2.2.2.1 = true) {ad0 : Nat → Nat} {s : am_M} {x1 : Int32} {x2 : Int32} {x3 : Int32} (h : p_CB_target s x1 x2 x3) : AW l g m_CB_target 207 ad0 (am_oE (f_CB_target s x1 x2 x3)) 0 0 207 s 0 [(0, .ref 0), (1, .int x1), (2, .int x2), (3, .int x3)] [] := by
  refine am_aload_n (j := 0) d_CB_target_0 rfl rfl ?_
  refine am_iload_n (j := 1) d_CB_target_1 rfl rfl ?_
  refine am_iload_n (j := 2) d_CB_target_2 rfl rfl ?_
  refine am_iload_n (j := 3) d_CB_target_3 rfl rfl ?_
  obtain ⟨hc, h⟩ := h
  refine ak_V (F := am_oE) (as := [.int x1, .int x2, .int x3]) (rest := []) d_CB_target_4 cw_CB_target_4 rfl rfl rfl (ct_CB_wantAnswer hg hc) rfl rfl (by decide) sh_0 rfl (Nat.le_of_ble_eq_true rfl) (by decide) (by decide) am_oE_x (fun c => ?_)
  have h := h c
  refine am_aload_n (j := 0) d_CB_target_7 rfl rfl ?_
  refine am_getR (t := 52) d_CB_target_8 fl_CB_21 hg (by decide) sh_0 (by decide) rfl (by decide) lk_0_1 (by decide) ?_
  refine am_iload_n (j := 1) d_CB_target_11 rfl rfl ?_
  obtain ⟨hc, h⟩ := h
  refine ak_VR (as := [.int x1]) (rest := []) d_CB_target_12 cw_CB_target_12 rfl rfl rfl (ct_AS_question hg hc) rfl rfl (by decide) sh_52 rfl (Nat.le_of_ble_eq_true rfl) (by decide) (by decide) ?_
  refine am_iload_n (j := 3) d_CB_target_15 rfl rfl ?_
  obtain ⟨hc, h⟩ := h
  obtain ⟨⟨b1, t1⟩, h⟩ := h
  refine ak_VI (as := [.int x3]) (rest := []) d_CB_target_16 cw_CB_target_16 rfl rfl rfl (ct_QU_originOf hg hc) rfl rfl b1 t1 rfl (Nat.le_of_ble_eq_true rfl) (by decide) (by decide) ?_
  refine am_istore (lv2 := [(4, .int (f_QU_originOf (f_CB_wantAnswer s x1 x2 x3).2 (f_AS_question (f_CB_wantAnswer s x1 x2 x3).2 x1) x3)), (0, .ref 0), (1, .int x1), (2, .int x2), (3, .int x3)]) d_CB_target_19 (by decide) rfl ?_
  refine am_aload_n (j := 1) d_CB_target_21 rfl rfl ?_
  refine am_getR (t := 1) d_CB_target_22 fl_CB_12 hg (by decide) sh_0 (by decide) rfl (by decide) lk_0_0 (by decide) ?_
  refine am_iload (j := 0) d_CB_target_25 rfl ?_
  obtain ⟨hc, h⟩ := h
  refine ak_VI (as := [.int (f_QU_originOf (f_CB_wantAnswer s x1 x2 x3).2 (f_AS_question (f_CB_wantAnswer s x1 x2 x3).2 x1) x3)]) (rest := []) d_CB_target_27 cw_CB_target_27 rfl rfl rfl (ct_BA_isStored hg hc) rfl rfl (by decide) sh_1 rfl (Nat.le_of_ble_eq_true rfl) (by decide) (by decide) ?_
  refine ai_ne (F := am_oE) (tgt := 35) d_CB_target_30 (by decide) (fun c => ?_) (fun c => ?_)
  · have h := h.2 c
    refine am_sipush (v := (1000 : Int32)) d_CB_target_35 (by decide) ?_
    refine am_iload (j := 0) d_CB_target_38 rfl ?_
    refine am_bipush (v := (10 : Int32)) d_CB_target_40 (by decide) ?_
    refine am_idiv d_CB_target_42 (by decide) ?_
    refine am_imul d_CB_target_43 ?_
    refine am_bipush (v := (10 : Int32)) d_CB_target_44 (by decide) ?_
    refine am_aload_n (j := 1) d_CB_target_46 rfl rfl ?_
    refine am_getR (t := 52) d_CB_target_47 fl_CB_21 hg (by decide) sh_0 (by decide) rfl (by decide) lk_0_1 (by decide) ?_
    refine am_iload_n (j := 2) d_CB_target_50 rfl rfl ?_
    refine am_iload_n (j := 3) d_CB_target_51 rfl rfl ?_
    refine am_iload_n (j := 4) d_CB_target_52 rfl rfl ?_
    obtain ⟨hc, h⟩ := h
    refine ak_VI (as := [.int x1, .int x2, .int x3]) (rest := [.int (10 : Int32), .int ((1000 : Int32) * ((f_QU_originOf (f_CB_wantAnswer s x1 x2 x3).2 (f_AS_question (f_CB_wantAnswer s x1 x2 x3).2 x1) x3) / (10 : Int32)))]) d_CB_target_53 cw_CB_target_53 rfl rfl rfl (ct_AS_rowOf hg hc) rfl rfl (by decide) sh_52 rfl (Nat.le_of_ble_eq_true rfl) (by decide) (by decide) ?_
    refine am_imul d_CB_target_56 ?_
    refine am_iadd d_CB_target_57 ?_
    refine am_iload (j := 0) d_CB_target_58 rfl ?_
    refine am_bipush (v := (10 : Int32)) d_CB_target_60 (by decide) ?_
    refine am_irem d_CB_target_62 (by decide) ?_
    refine am_iadd d_CB_target_63 ?_
    exact am_iret d_CB_target_64 rfl rfl (by decide) (by decide) am_oE_ok
  · have h := h.1 c
    refine am_iconst (v := (-1 : Int32)) d_CB_target_33 (by decide) ?_
    exact am_iret d_CB_target_34 rfl rfl (by decide) (by decide) am_oE_ok
theorem ct_CB_target {l : Launch} {g : am_Gl} (hg : g.2.2.2.1 = true) {s : am_M} {x1 : Int32} {x2 : Int32} {x3 : Int32} (h : p_CB_target s x1 x2 x3) : AC l g m_CB_target 207 s [.ref 0, .int x1, .int x2, .int x3] (am_oE (f_CB_target s x1 x2 x3)) := am_enter ok_CB_target rfl (Nat.le_of_ble_eq_true rfl) rfl (fun ad0 => w_CB_target hg h)
theorem cw_CB_type_23 : am_cv m_CB_type m_CB_wantValue 210 1 := ⟨⟨ok_CB_wantValue, rfl, by decide +kernel, by decide, by decide⟩, aw_2_121, aw_2_123, as_0_7⟩
def f_CB_type  (s : am_M) (x1 : Int32) (x2 : Int32) : Nat × Int32 × am_M := (if x1 < 0 then (2, 0, s) else (if x1 < (6 : Int32) then (if (f_CB_wantValue s x2) = 0 then (0, (s 124 (x1).toNatClampNeg), (am_set s 124 (x1).toNatClampNeg x2)) else ((f_CB_wantValue s x2), 0, s)) else (2, 0, s)))
def p_CB_type  (s : am_M) (x1 : Int32) (x2 : Int32) : Prop := ((x1 < 0) → True) ∧ (¬ (x1 < 0) → ((x1 < (6 : Int32)) → (((f_CB_wantValue s x2) = 0) → vp_in x1 6 ∧ (vp_in x1 6 ∧ (True)))) ∧ (¬ (x1 < (6 : Int32)) → True))
set_option maxRecDepth 8000 in
theorem w_CB_type {l : Launch} {g : am_Gl} (hg : g.2.2.2.1 = true) {ad0 : Nat → Nat} {s : am_M} {x1 : Int32} {x2 : Int32} (h : p_CB_type s x1 x2) : AW l g m_CB_type 207 ad0 (am_oE (f_CB_type s x1 x2)) 0 0 207 s 0 [(0, .ref 0), (1, .int x1), (2, .int x2)] [] := by
  refine am_iload_n (j := 1) d_CB_type_0 rfl rfl ?_
  refine ai_lt (F := am_oE) (tgt := 13) d_CB_type_1 (by decide) (fun c => ?_) (fun c => ?_)
  · have h := h.1 c
    exact am_throw d_CB_type_13 d_CB_type_16 d_CB_type_17 d_CB_type_20 tw_IAE rfl rfl (by decide) (by decide) (by decide) am_oE_2
  · have h := h.2 c
    refine am_iload_n (j := 1) d_CB_type_4 rfl rfl ?_
    refine am_aload_n (j := 0) d_CB_type_5 rfl rfl ?_
    refine am_getR (t := 124) d_CB_type_6 fl_CB_32 hg (by decide) sh_0 (by decide) rfl (by decide) lk_0_3 (by decide) ?_
    refine am_alen (v := (6 : Int32)) d_CB_type_9 (by decide) sh_124 (by decide) (by decide) ?_
    refine aj_lt (F := am_oE) (tgt := 21) d_CB_type_10 (by decide) (fun c => ?_) (fun c => ?_)
    · have h := h.1 c
      refine am_aload_n (j := 0) d_CB_type_21 rfl rfl ?_
      refine am_iload_n (j := 2) d_CB_type_22 rfl rfl ?_
      refine ak_D (F := am_oE) (as := [.int x2]) (rest := []) d_CB_type_23 cw_CB_type_23 rfl rfl rfl (ct_CB_wantValue hg) rfl rfl (by decide) sh_0 rfl (Nat.le_of_ble_eq_true rfl) (by decide) (by decide) am_oE_x (fun c => ?_)
      have h := h c
      refine am_aload_n (j := 0) d_CB_type_26 rfl rfl ?_
      refine am_getR (t := 124) d_CB_type_27 fl_CB_32 hg (by decide) sh_0 (by decide) rfl (by decide) lk_0_3 (by decide) ?_
      refine am_iload_n (j := 1) d_CB_type_30 rfl rfl ?_
      obtain ⟨hv, h⟩ := h
      refine am_iald d_CB_type_31 (by decide) sh_124 hv ?_
      refine am_istore_n (lv2 := [(3, .int (s 124 (x1).toNatClampNeg)), (0, .ref 0), (1, .int x1), (2, .int x2)]) d_CB_type_32 rfl (by decide) rfl ?_
      refine am_aload_n (j := 1) d_CB_type_33 rfl rfl ?_
      refine am_getR (t := 124) d_CB_type_34 fl_CB_32 hg (by decide) sh_0 (by decide) rfl (by decide) lk_0_3 (by decide) ?_
      refine am_iload_n (j := 2) d_CB_type_37 rfl rfl ?_
      refine am_iload_n (j := 3) d_CB_type_38 rfl rfl ?_
      obtain ⟨hv, h⟩ := h
      refine am_iast d_CB_type_39 (by decide) sh_124 hv ?_
      refine am_iload_n (j := 0) d_CB_type_40 rfl rfl ?_
      exact am_iret d_CB_type_41 rfl rfl (by decide) (by decide) am_oE_ok
    · have h := h.2 c
      exact am_throw d_CB_type_13 d_CB_type_16 d_CB_type_17 d_CB_type_20 tw_IAE rfl rfl (by decide) (by decide) (by decide) am_oE_2
theorem ct_CB_type {l : Launch} {g : am_Gl} (hg : g.2.2.2.1 = true) {s : am_M} {x1 : Int32} {x2 : Int32} (h : p_CB_type s x1 x2) : AC l g m_CB_type 207 s [.ref 0, .int x1, .int x2] (am_oE (f_CB_type s x1 x2)) := am_enter ok_CB_type rfl (Nat.le_of_ble_eq_true rfl) rfl (fun ad0 => w_CB_type hg h)
theorem cw_CB_undo_50 : am_cv m_CB_undo m_RO_copyFrom 389 1 := ⟨⟨ok_RO_copyFrom, rfl, by decide +kernel, by decide, by decide⟩, aw_3_85, aw_2_147, aw_2_148⟩
def f_CB_undo  (s : am_M)  : Nat × Int32 × am_M := (if (s 0 7) < (1 : Int32) then (3, 0, s) else (if (s 0 7) ≤ (5 : Int32) then (0, ((f_RO_copyFrom (am_set s 0 7 ((s 0 7) - (1 : Int32))) 8 (((am_set s 0 7 ((s 0 7) - (1 : Int32))) 182 (((am_set s 0 7 ((s 0 7) - (1 : Int32))) 0 7)).toNatClampNeg)).toNatClampNeg) 0 7), (f_RO_copyFrom (am_set s 0 7 ((s 0 7) - (1 : Int32))) 8 (((am_set s 0 7 ((s 0 7) - (1 : Int32))) 182 (((am_set s 0 7 ((s 0 7) - (1 : Int32))) 0 7)).toNatClampNeg)).toNatClampNeg)) else (3, 0, s)))
def p_CB_undo  (s : am_M)  : Prop := (((s 0 7) < (1 : Int32)) → True) ∧ (¬ ((s 0 7) < (1 : Int32)) → (((s 0 7) ≤ (5 : Int32)) → vp_in ((am_set s 0 7 ((s 0 7) - (1 : Int32))) 0 7) 6 ∧ (¬ (((am_set s 0 7 ((s 0 7) - (1 : Int32))) 182 (((am_set s 0 7 ((s 0 7) - (1 : Int32))) 0 7)).toNatClampNeg) < 0) ∧ (((((am_set s 0 7 ((s 0 7) - (1 : Int32))) 182 (((am_set s 0 7 ((s 0 7) - (1 : Int32))) 0 7)).toNatClampNeg)).toNatClampNeg < 207 ∧ am_sh (((am_set s 0 7 ((s 0 7) - (1 : Int32))) 182 (((am_set s 0 7 ((s 0 7) - (1 : Int32))) 0 7)).toNatClampNeg)).toNatClampNeg = (0, 6, 3)) ∧ (p_RO_copyFrom (am_set s 0 7 ((s 0 7) - (1 : Int32))) 8 (((am_set s 0 7 ((s 0 7) - (1 : Int32))) 182 (((am_set s 0 7 ((s 0 7) - (1 : Int32))) 0 7)).toNatClampNeg)).toNatClampNeg ∧ (True))))) ∧ (¬ ((s 0 7) ≤ (5 : Int32)) → True))
set_option maxRecDepth 8000 in
theorem w_CB_undo {l : Launch} {g : am_Gl} (hg : g.2.2.2.1 = true) {ad0 : Nat → Nat} {s : am_M}  (h : p_CB_undo s ) : AW l g m_CB_undo 207 ad0 (am_oE (f_CB_undo s )) 0 0 207 s 0 [(0, .ref 0)] [] := by
  refine am_aload_n (j := 0) d_CB_undo_0 rfl rfl ?_
  refine am_getI d_CB_undo_1 fl_CB_386 (by decide) sh_0 (by decide) rfl ?_
  refine am_iconst (v := (1 : Int32)) d_CB_undo_4 (by decide) ?_
  refine aj_lt (F := am_oE) (tgt := 16) d_CB_undo_5 (by decide) (fun c => ?_) (fun c => ?_)
  · have h := h.1 c
    exact am_throw d_CB_undo_16 d_CB_undo_19 d_CB_undo_20 d_CB_undo_23 tw_ISE rfl rfl (by decide) (by decide) (by decide) am_oE_3
  · have h := h.2 c
    refine am_aload_n (j := 0) d_CB_undo_8 rfl rfl ?_
    refine am_getI d_CB_undo_9 fl_CB_386 (by decide) sh_0 (by decide) rfl ?_
    refine am_iconst (v := (5 : Int32)) d_CB_undo_12 (by decide) ?_
    refine aj_le (F := am_oE) (tgt := 24) d_CB_undo_13 (by decide) (fun c => ?_) (fun c => ?_)
    · have h := h.1 c
      refine am_aload_n (j := 0) d_CB_undo_24 rfl rfl ?_
      refine am_dup d_CB_undo_25 rfl ?_
      refine am_getI d_CB_undo_26 fl_CB_386 (by decide) sh_0 (by decide) rfl ?_
      refine am_iconst (v := (1 : Int32)) d_CB_undo_29 (by decide) ?_
      refine am_isub d_CB_undo_30 ?_
      refine am_putI (ty := .int) d_CB_undo_31 fl_CB_386 ft_9_7 (by decide) sh_0 (by decide) rfl rfl rfl ?_
      refine am_aload_n (j := 0) d_CB_undo_34 rfl rfl ?_
      refine am_getR (t := 1) d_CB_undo_35 fl_CB_12 hg (by decide) sh_0 (by decide) rfl (by decide) lk_0_0 (by decide) ?_
      refine am_getR (t := 8) d_CB_undo_38 fl_CB_213 hg (by decide) sh_1 (by decide) rfl (by decide) lk_1_9 (by decide) ?_
      refine am_aload_n (j := 0) d_CB_undo_41 rfl rfl ?_
      refine am_getR (t := 182) d_CB_undo_42 fl_CB_52 hg (by decide) sh_0 (by decide) rfl (by decide) lk_0_6 (by decide) ?_
      refine am_aload_n (j := 0) d_CB_undo_45 rfl rfl ?_
      refine am_getI d_CB_undo_46 fl_CB_386 (by decide) sh_0 (by decide) rfl ?_
      obtain ⟨hv, h⟩ := h
      obtain ⟨h0, h⟩ := h
      obtain ⟨⟨b1, t1⟩, h⟩ := h
      refine am_aald d_CB_undo_49 (by decide) sh_182 (by decide) hv (am_rv9 h0 b1) b1 ?_
      obtain ⟨hc, h⟩ := h
      refine ak_VM (as := [.ref (((am_set s 0 7 ((s 0 7) - (1 : Int32))) 182 (((am_set s 0 7 ((s 0 7) - (1 : Int32))) 0 7)).toNatClampNeg)).toNatClampNeg]) (rest := []) d_CB_undo_50 cw_CB_undo_50 rfl rfl rfl (ct_RO_copyFrom hg hc) rfl rfl (by decide) sh_8 rfl (Nat.le_of_ble_eq_true rfl) (by decide) (by decide) ?_
      refine am_aload_n (j := 0) d_CB_undo_53 rfl rfl ?_
      refine am_getI d_CB_undo_54 fl_CB_386 (by decide) sh_0 (by decide) rfl ?_
      exact am_iret d_CB_undo_57 rfl rfl (by decide) (by decide) am_oE_ok
    · have h := h.2 c
      exact am_throw d_CB_undo_16 d_CB_undo_19 d_CB_undo_20 d_CB_undo_23 tw_ISE rfl rfl (by decide) (by decide) (by decide) am_oE_3
theorem ct_CB_undo {l : Launch} {g : am_Gl} (hg : g.2.2.2.1 = true) {s : am_M}  (h : p_CB_undo s ) : AC l g m_CB_undo 207 s [.ref 0] (am_oE (f_CB_undo s )) := am_enter ok_CB_undo rfl (Nat.le_of_ble_eq_true rfl) rfl (fun ad0 => w_CB_undo hg h)
def f_CB_undoable  (s : am_M)  : Int32 := (s 0 7)
def p_CB_undoable  (s : am_M)  : Prop := True
set_option maxRecDepth 8000 in
theorem w_CB_undoable {l : Launch} {g : am_Gl} (hg : g.2.2.2.1 = true) {ad0 : Nat → Nat} {s : am_M}  : AW l g m_CB_undoable 207 ad0 ((am_oI s) (f_CB_undoable s )) 0 0 207 s 0 [(0, .ref 0)] [] := by
  have h : p_CB_undoable s  := by
    unfold p_CB_undoable
    first | exact trivial | simp
  refine am_aload_n (j := 0) d_CB_undoable_0 rfl rfl ?_
  refine am_getI d_CB_undoable_1 fl_CB_386 (by decide) sh_0 (by decide) rfl ?_
  exact am_iret d_CB_undoable_4 rfl rfl (by decide) (by decide) am_oI_ok
theorem ct_CB_undoable {l : Launch} {g : am_Gl} (hg : g.2.2.2.1 = true) {s : am_M}  : AC l g m_CB_undoable 207 s [.ref 0] ((am_oI s) (f_CB_undoable s )) := am_enter ok_CB_undoable rfl (Nat.le_of_ble_eq_true rfl) rfl (fun ad0 => w_CB_undoable hg)
def f_CB_whereColumn  (s : am_M)  : Int32 := (s 123 3)
def p_CB_whereColumn  (s : am_M)  : Prop := True
set_option maxRecDepth 8000 in
theorem w_CB_whereColumn {l : Launch} {g : am_Gl} (hg : g.2.2.2.1 = true) {ad0 : Nat → Nat} {s : am_M}  : AW l g m_CB_whereColumn 207 ad0 ((am_oI s) (f_CB_whereColumn s )) 0 0 207 s 0 [(0, .ref 0)] [] := by
  have h : p_CB_whereColumn s  := by
    unfold p_CB_whereColumn
    first | exact trivial | simp
  refine am_aload_n (j := 0) d_CB_whereColumn_0 rfl rfl ?_
  refine am_getR (t := 123) d_CB_whereColumn_1 fl_CB_28 hg (by decide) sh_0 (by decide) rfl (by decide) lk_0_2 (by decide) ?_
  refine am_getI d_CB_whereColumn_4 fl_CB_204 (by decide) sh_123 (by decide) rfl ?_
  exact am_iret d_CB_whereColumn_7 rfl rfl (by decide) (by decide) am_oI_ok
theorem ct_CB_whereColumn {l : Launch} {g : am_Gl} (hg : g.2.2.2.1 = true) {s : am_M}  : AC l g m_CB_whereColumn 207 s [.ref 0] ((am_oI s) (f_CB_whereColumn s )) := am_enter ok_CB_whereColumn rfl (Nat.le_of_ble_eq_true rfl) rfl (fun ad0 => w_CB_whereColumn hg)
def f_CB_whereRow  (s : am_M)  : Int32 := (s 123 2)
def p_CB_whereRow  (s : am_M)  : Prop := True
set_option maxRecDepth 8000 in
theorem w_CB_whereRow {l : Launch} {g : am_Gl} (hg : g.2.2.2.1 = true) {ad0 : Nat → Nat} {s : am_M}  : AW l g m_CB_whereRow 207 ad0 ((am_oI s) (f_CB_whereRow s )) 0 0 207 s 0 [(0, .ref 0)] [] := by
  have h : p_CB_whereRow s  := by
    unfold p_CB_whereRow
    first | exact trivial | simp
  refine am_aload_n (j := 0) d_CB_whereRow_0 rfl rfl ?_
  refine am_getR (t := 123) d_CB_whereRow_1 fl_CB_28 hg (by decide) sh_0 (by decide) rfl (by decide) lk_0_2 (by decide) ?_
  refine am_getI d_CB_whereRow_4 fl_CB_201 (by decide) sh_123 (by decide) rfl ?_
  exact am_iret d_CB_whereRow_7 rfl rfl (by decide) (by decide) am_oI_ok
theorem ct_CB_whereRow {l : Launch} {g : am_Gl} (hg : g.2.2.2.1 = true) {s : am_M}  : AC l g m_CB_whereRow 207 s [.ref 0] ((am_oI s) (f_CB_whereRow s )) := am_enter ok_CB_whereRow rfl (Nat.le_of_ble_eq_true rfl) rfl (fun ad0 => w_CB_whereRow hg)
def f_CB_whereTable  (s : am_M)  : Int32 := (s 123 1)
def p_CB_whereTable  (s : am_M)  : Prop := True
set_option maxRecDepth 8000 in
theorem w_CB_whereTable {l : Launch} {g : am_Gl} (hg : g.2.2.2.1 = true) {ad0 : Nat → Nat} {s : am_M}  : AW l g m_CB_whereTable 207 ad0 ((am_oI s) (f_CB_whereTable s )) 0 0 207 s 0 [(0, .ref 0)] [] := by
  have h : p_CB_whereTable s  := by
    unfold p_CB_whereTable
    first | exact trivial | simp
  refine am_aload_n (j := 0) d_CB_whereTable_0 rfl rfl ?_
  refine am_getR (t := 123) d_CB_whereTable_1 fl_CB_28 hg (by decide) sh_0 (by decide) rfl (by decide) lk_0_2 (by decide) ?_
  refine am_getI d_CB_whereTable_4 fl_CB_198 (by decide) sh_123 (by decide) rfl ?_
  exact am_iret d_CB_whereTable_7 rfl rfl (by decide) (by decide) am_oI_ok
theorem ct_CB_whereTable {l : Launch} {g : am_Gl} (hg : g.2.2.2.1 = true) {s : am_M}  : AC l g m_CB_whereTable 207 s [.ref 0] ((am_oI s) (f_CB_whereTable s )) := am_enter ok_CB_whereTable rfl (Nat.le_of_ble_eq_true rfl) rfl (fun ad0 => w_CB_whereTable hg)
theorem cw_CB_wouldLose_3 : am_cv m_CB_wouldLose m_CB_wantColumn 99 2 := ⟨⟨ok_CB_wantColumn, rfl, by decide +kernel, by decide, by decide⟩, aw_3_14, aw_3_16, as_1_2⟩
theorem cw_CB_wouldLose_9 : am_cv m_CB_wouldLose m_CB_wantNumberColumn 132 2 := ⟨⟨ok_CB_wantNumberColumn, rfl, by decide +kernel, by decide, by decide⟩, aw_4_73, aw_4_75, as_3_11⟩
theorem cw_CB_wouldLose_16 : am_cv m_CB_wouldLose m_CB_wantRange 74 2 := ⟨⟨ok_CB_wantRange, rfl, by decide +kernel, by decide, by decide⟩, aw_2_57, aw_2_59, as_0_3⟩
theorem cw_CB_wouldLose_28 : am_cv m_CB_wouldLose m_BA_countOutside 135 4 := ⟨⟨ok_BA_countOutside, rfl, by decide +kernel, by decide, by decide⟩, aw_4_153, aw_4_154, aw_4_155⟩
def f_CB_wouldLose  (s : am_M) (x1 : Int32) (x2 : Int32) (x3 : Int32) (x4 : Int32) : Nat × Int32 × am_M := (if (f_CB_wantColumn s x1 x2) = 0 then (if (f_CB_wantNumberColumn s x1 x2) = 0 then (if (f_CB_wantRange s x3 x4) = 0 then (0, (f_BA_countOutside s x1 x2 x3 x4), s) else ((f_CB_wantRange s x3 x4), 0, s)) else ((f_CB_wantNumberColumn s x1 x2), 0, s)) else ((f_CB_wantColumn s x1 x2), 0, s))
def p_CB_wouldLose  (s : am_M) (x1 : Int32) (x2 : Int32) (x3 : Int32) (x4 : Int32) : Prop := p_CB_wantColumn s x1 x2 ∧ ((((f_CB_wantColumn s x1 x2) = 0) → p_CB_wantNumberColumn s x1 x2 ∧ ((((f_CB_wantNumberColumn s x1 x2) = 0) → (((f_CB_wantRange s x3 x4) = 0) → p_BA_countOutside s x1 x2 x3 x4 ∧ (True))))))
set_option maxRecDepth 8000 in
theorem w_CB_wouldLose {l : Launch} {g : am_Gl} (hg : g.2.2.2.1 = true) {ad0 : Nat → Nat} {s : am_M} {x1 : Int32} {x2 : Int32} {x3 : Int32} {x4 : Int32} (h : p_CB_wouldLose s x1 x2 x3 x4) : AW l g m_CB_wouldLose 207 ad0 (am_oE (f_CB_wouldLose s x1 x2 x3 x4)) 0 0 207 s 0 [(0, .ref 0), (1, .int x1), (2, .int x2), (3, .int x3), (4, .int x4)] [] := by
  refine am_aload_n (j := 0) d_CB_wouldLose_0 rfl rfl ?_
  refine am_iload_n (j := 1) d_CB_wouldLose_1 rfl rfl ?_
  refine am_iload_n (j := 2) d_CB_wouldLose_2 rfl rfl ?_
  obtain ⟨hc, h⟩ := h
  refine ak_D (F := am_oE) (as := [.int x1, .int x2]) (rest := []) d_CB_wouldLose_3 cw_CB_wouldLose_3 rfl rfl rfl (ct_CB_wantColumn hg hc) rfl rfl (by decide) sh_0 rfl (Nat.le_of_ble_eq_true rfl) (by decide) (by decide) am_oE_x (fun c => ?_)
  have h := h c
  refine am_aload_n (j := 0) d_CB_wouldLose_6 rfl rfl ?_
  refine am_iload_n (j := 1) d_CB_wouldLose_7 rfl rfl ?_
  refine am_iload_n (j := 2) d_CB_wouldLose_8 rfl rfl ?_
  obtain ⟨hc, h⟩ := h
  refine ak_D (F := am_oE) (as := [.int x1, .int x2]) (rest := []) d_CB_wouldLose_9 cw_CB_wouldLose_9 rfl rfl rfl (ct_CB_wantNumberColumn hg hc) rfl rfl (by decide) sh_0 rfl (Nat.le_of_ble_eq_true rfl) (by decide) (by decide) am_oE_x (fun c => ?_)
  have h := h c
  refine am_aload_n (j := 0) d_CB_wouldLose_12 rfl rfl ?_
  refine am_iload_n (j := 3) d_CB_wouldLose_13 rfl rfl ?_
  refine am_iload (j := 4) d_CB_wouldLose_14 rfl ?_
  refine ak_D (F := am_oE) (as := [.int x3, .int x4]) (rest := []) d_CB_wouldLose_16 cw_CB_wouldLose_16 rfl rfl rfl (ct_CB_wantRange hg) rfl rfl (by decide) sh_0 rfl (Nat.le_of_ble_eq_true rfl) (by decide) (by decide) am_oE_x (fun c => ?_)
  have h := h c
  refine am_aload_n (j := 0) d_CB_wouldLose_19 rfl rfl ?_
  refine am_getR (t := 1) d_CB_wouldLose_20 fl_CB_12 hg (by decide) sh_0 (by decide) rfl (by decide) lk_0_0 (by decide) ?_
  refine am_iload_n (j := 1) d_CB_wouldLose_23 rfl rfl ?_
  refine am_iload_n (j := 2) d_CB_wouldLose_24 rfl rfl ?_
  refine am_iload_n (j := 3) d_CB_wouldLose_25 rfl rfl ?_
  refine am_iload (j := 4) d_CB_wouldLose_26 rfl ?_
  obtain ⟨hc, h⟩ := h
  refine ak_VI (as := [.int x1, .int x2, .int x3, .int x4]) (rest := []) d_CB_wouldLose_28 cw_CB_wouldLose_28 rfl rfl rfl (ct_BA_countOutside hg hc) rfl rfl (by decide) sh_1 rfl (Nat.le_of_ble_eq_true rfl) (by decide) (by decide) ?_
  exact am_iret d_CB_wouldLose_31 rfl rfl (by decide) (by decide) am_oE_ok
theorem ct_CB_wouldLose {l : Launch} {g : am_Gl} (hg : g.2.2.2.1 = true) {s : am_M} {x1 : Int32} {x2 : Int32} {x3 : Int32} {x4 : Int32} (h : p_CB_wouldLose s x1 x2 x3 x4) : AC l g m_CB_wouldLose 207 s [.ref 0, .int x1, .int x2, .int x3, .int x4] (am_oE (f_CB_wouldLose s x1 x2 x3 x4)) := am_enter ok_CB_wouldLose rfl (Nat.le_of_ble_eq_true rfl) rfl (fun ad0 => w_CB_wouldLose hg h)
theorem cw_CB_wouldLoseAll_3 : am_cv m_CB_wouldLoseAll m_CB_wantColumn 99 2 := ⟨⟨ok_CB_wantColumn, rfl, by decide +kernel, by decide, by decide⟩, aw_3_14, aw_3_16, as_1_2⟩
theorem cw_CB_wouldLoseAll_12 : am_cv m_CB_wouldLoseAll m_BA_countFilled 143 2 := ⟨⟨ok_BA_countFilled, rfl, by decide +kernel, by decide, by decide⟩, aw_4_161, aw_4_162, aw_4_163⟩
def f_CB_wouldLoseAll  (s : am_M) (x1 : Int32) (x2 : Int32) : Nat × Int32 × am_M := (if (f_CB_wantColumn s x1 x2) = 0 then (0, (f_BA_countFilled s x1 x2), s) else ((f_CB_wantColumn s x1 x2), 0, s))
def p_CB_wouldLoseAll  (s : am_M) (x1 : Int32) (x2 : Int32) : Prop := p_CB_wantColumn s x1 x2 ∧ ((((f_CB_wantColumn s x1 x2) = 0) → p_BA_countFilled s x1 x2 ∧ (True)))
set_option maxRecDepth 8000 in
theorem w_CB_wouldLoseAll {l : Launch} {g : am_Gl} (hg : g.2.2.2.1 = true) {ad0 : Nat → Nat} {s : am_M} {x1 : Int32} {x2 : Int32} (h : p_CB_wouldLoseAll s x1 x2) : AW l g m_CB_wouldLoseAll 207 ad0 (am_oE (f_CB_wouldLoseAll s x1 x2)) 0 0 207 s 0 [(0, .ref 0), (1, .int x1), (2, .int x2)] [] := by
  refine am_aload_n (j := 0) d_CB_wouldLoseAll_0 rfl rfl ?_
  refine am_iload_n (j := 1) d_CB_wouldLoseAll_1 rfl rfl ?_
  refine am_iload_n (j := 2) d_CB_wouldLoseAll_2 rfl rfl ?_
  obtain ⟨hc, h⟩ := h
  refine ak_D (F := am_oE) (as := [.int x1, .int x2]) (rest := []) d_CB_wouldLoseAll_3 cw_CB_wouldLoseAll_3 rfl rfl rfl (ct_CB_wantColumn hg hc) rfl rfl (by decide) sh_0 rfl (Nat.le_of_ble_eq_true rfl) (by decide) (by decide) am_oE_x (fun c => ?_)
  have h := h c
  refine am_aload_n (j := 0) d_CB_wouldLoseAll_6 rfl rfl ?_
  refine am_getR (t := 1) d_CB_wouldLoseAll_7 fl_CB_12 hg (by decide) sh_0 (by decide) rfl (by decide) lk_0_0 (by decide) ?_
  refine am_iload_n (j := 1) d_CB_wouldLoseAll_10 rfl rfl ?_
  refine am_iload_n (j := 2) d_CB_wouldLoseAll_11 rfl rfl ?_
  obtain ⟨hc, h⟩ := h
  refine ak_VI (as := [.int x1, .int x2]) (rest := []) d_CB_wouldLoseAll_12 cw_CB_wouldLoseAll_12 rfl rfl rfl (ct_BA_countFilled hg hc) rfl rfl (by decide) sh_1 rfl (Nat.le_of_ble_eq_true rfl) (by decide) (by decide) ?_
  exact am_iret d_CB_wouldLoseAll_15 rfl rfl (by decide) (by decide) am_oE_ok
theorem ct_CB_wouldLoseAll {l : Launch} {g : am_Gl} (hg : g.2.2.2.1 = true) {s : am_M} {x1 : Int32} {x2 : Int32} (h : p_CB_wouldLoseAll s x1 x2) : AC l g m_CB_wouldLoseAll 207 s [.ref 0, .int x1, .int x2] (am_oE (f_CB_wouldLoseAll s x1 x2)) := am_enter ok_CB_wouldLoseAll rfl (Nat.le_of_ble_eq_true rfl) rfl (fun ad0 => w_CB_wouldLoseAll hg h)
theorem cw_CB_write_4 : am_cv m_CB_write m_CB_wantAnswer 322 3 := ⟨⟨ok_CB_wantAnswer, rfl, by decide +kernel, by decide, by decide⟩, aw_5_20, aw_5_22, as_4_5⟩
theorem cw_CB_write_10 : am_cv m_CB_write m_CB_wantValue 210 1 := ⟨⟨ok_CB_wantValue, rfl, by decide +kernel, by decide, by decide⟩, aw_2_121, aw_2_123, as_0_7⟩
theorem cw_CB_write_18 : am_cv m_CB_write m_AS_question 298 1 := ⟨⟨ok_AS_question, rfl, by decide +kernel, by decide, by decide⟩, aw_3_182, aw_3_107, aw_3_108⟩
theorem cw_CB_write_22 : am_cv m_CB_write m_QU_originOf 331 1 := ⟨⟨ok_QU_originOf, rfl, by decide +kernel, by decide, by decide⟩, aw_3_183, aw_3_184, aw_3_185⟩
theorem cw_CB_write_41 : am_cv m_CB_write m_AS_rowOf 336 3 := ⟨⟨ok_AS_rowOf, rfl, by decide +kernel, by decide, by decide⟩, aw_3_187, aw_3_188, aw_3_189⟩
theorem cw_CB_write_46 : am_cv m_CB_write m_BA_putThrough 231 3 := ⟨⟨ok_BA_putThrough, rfl, by decide +kernel, by decide, by decide⟩, aw_3_191, aw_3_192, aw_3_193⟩
theorem cw_CB_write_49 : am_cv m_CB_write m_CB_tell 118 1 := ⟨⟨ok_CB_tell, rfl, by decide +kernel, by decide, by decide⟩, aw_3_1, aw_3_3, as_1_1⟩
def f_CB_write  (s : am_M) (x1 : Int32) (x2 : Int32) (x3 : Int32) (x4 : Int32) : Nat × Int32 × am_M := (if (f_CB_wantAnswer s x1 x2 x3).1 = 0 then (if (f_CB_wantValue (f_CB_wantAnswer s x1 x2 x3).2 x4) = 0 then (0, (f_CB_tell (f_BA_putThrough (f_CB_wantAnswer s x1 x2 x3).2 (f_QU_originOf (f_CB_wantAnswer s x1 x2 x3).2 (f_AS_question (f_CB_wantAnswer s x1 x2 x3).2 x1) x3) (f_AS_rowOf (f_CB_wantAnswer s x1 x2 x3).2 x1 x2 x3) x4).2 (f_BA_putThrough (f_CB_wantAnswer s x1 x2 x3).2 (f_QU_originOf (f_CB_wantAnswer s x1 x2 x3).2 (f_AS_question (f_CB_wantAnswer s x1 x2 x3).2 x1) x3) (f_AS_rowOf (f_CB_wantAnswer s x1 x2 x3).2 x1 x2 x3) x4).1).1, (f_CB_tell (f_BA_putThrough (f_CB_wantAnswer s x1 x2 x3).2 (f_QU_originOf (f_CB_wantAnswer s x1 x2 x3).2 (f_AS_question (f_CB_wantAnswer s x1 x2 x3).2 x1) x3) (f_AS_rowOf (f_CB_wantAnswer s x1 x2 x3).2 x1 x2 x3) x4).2 (f_BA_putThrough (f_CB_wantAnswer s x1 x2 x3).2 (f_QU_originOf (f_CB_wantAnswer s x1 x2 x3).2 (f_AS_question (f_CB_wantAnswer s x1 x2 x3).2 x1) x3) (f_AS_rowOf (f_CB_wantAnswer s x1 x2 x3).2 x1 x2 x3) x4).1).2) else ((f_CB_wantValue (f_CB_wantAnswer s x1 x2 x3).2 x4), 0, (f_CB_wantAnswer s x1 x2 x3).2)) else ((f_CB_wantAnswer s x1 x2 x3).1, 0, (f_CB_wantAnswer s x1 x2 x3).2))
def p_CB_write  (s : am_M) (x1 : Int32) (x2 : Int32) (x3 : Int32) (x4 : Int32) : Prop := p_CB_wantAnswer s x1 x2 x3 ∧ ((((f_CB_wantAnswer s x1 x2 x3).1 = 0) → (((f_CB_wantValue (f_CB_wantAnswer s x1 x2 x3).2 x4) = 0) → p_AS_question (f_CB_wantAnswer s x1 x2 x3).2 x1 ∧ (p_QU_originOf (f_CB_wantAnswer s x1 x2 x3).2 (f_AS_question (f_CB_wantAnswer s x1 x2 x3).2 x1) x3 ∧ (((f_AS_question (f_CB_wantAnswer s x1 x2 x3).2 x1) < 207 ∧ am_sh (f_AS_question (f_CB_wantAnswer s x1 x2 x3).2 x1) = (0, 4, 17)) ∧ (p_AS_rowOf (f_CB_wantAnswer s x1 x2 x3).2 x1 x2 x3 ∧ (p_BA_putThrough (f_CB_wantAnswer s x1 x2 x3).2 (f_QU_originOf (f_CB_wantAnswer s x1 x2 x3).2 (f_AS_question (f_CB_wantAnswer s x1 x2 x3).2 x1) x3) (f_AS_rowOf (f_CB_wantAnswer s x1 x2 x3).2 x1 x2 x3) x4 ∧ (p_CB_tell (f_BA_putThrough (f_CB_wantAnswer s x1 x2 x3).2 (f_QU_originOf (f_CB_wantAnswer s x1 x2 x3).2 (f_AS_question (f_CB_wantAnswer s x1 x2 x3).2 x1) x3) (f_AS_rowOf (f_CB_wantAnswer s x1 x2 x3).2 x1 x2 x3) x4).2 (f_BA_putThrough (f_CB_wantAnswer s x1 x2 x3).2 (f_QU_originOf (f_CB_wantAnswer s x1 x2 x3).2 (f_AS_question (f_CB_wantAnswer s x1 x2 x3).2 x1) x3) (f_AS_rowOf (f_CB_wantAnswer s x1 x2 x3).2 x1 x2 x3) x4).1 ∧ (((f_CB_tell (f_BA_putThrough (f_CB_wantAnswer s x1 x2 x3).2 (f_QU_originOf (f_CB_wantAnswer s x1 x2 x3).2 (f_AS_question (f_CB_wantAnswer s x1 x2 x3).2 x1) x3) (f_AS_rowOf (f_CB_wantAnswer s x1 x2 x3).2 x1 x2 x3) x4).2 (f_BA_putThrough (f_CB_wantAnswer s x1 x2 x3).2 (f_QU_originOf (f_CB_wantAnswer s x1 x2 x3).2 (f_AS_question (f_CB_wantAnswer s x1 x2 x3).2 x1) x3) (f_AS_rowOf (f_CB_wantAnswer s x1 x2 x3).2 x1 x2 x3) x4).1).1 = 0 ∨ (f_CB_tell (f_BA_putThrough (f_CB_wantAnswer s x1 x2 x3).2 (f_QU_originOf (f_CB_wantAnswer s x1 x2 x3).2 (f_AS_question (f_CB_wantAnswer s x1 x2 x3).2 x1) x3) (f_AS_rowOf (f_CB_wantAnswer s x1 x2 x3).2 x1 x2 x3) x4).2 (f_BA_putThrough (f_CB_wantAnswer s x1 x2 x3).2 (f_QU_originOf (f_CB_wantAnswer s x1 x2 x3).2 (f_AS_question (f_CB_wantAnswer s x1 x2 x3).2 x1) x3) (f_AS_rowOf (f_CB_wantAnswer s x1 x2 x3).2 x1 x2 x3) x4).1).1 = 1) ∧ (True))))))))))
set_option maxRecDepth 8000 in
theorem w_CB_write {l : Launch} {g : am_Gl} (hg : g.2.2.2.1 = true) {ad0 : Nat → Nat} {s : am_M} {x1 : Int32} {x2 : Int32} {x3 : Int32} {x4 : Int32} (h : p_CB_write s x1 x2 x3 x4) : AW l g m_CB_write 207 ad0 (am_oE (f_CB_write s x1 x2 x3 x4)) 0 0 207 s 0 [(0, .ref 0), (1, .int x1), (2, .int x2), (3, .int x3), (4, .int x4)] [] := by
  refine am_aload_n (j := 0) d_CB_write_0 rfl rfl ?_
  refine am_iload_n (j := 1) d_CB_write_1 rfl rfl ?_
  refine am_iload_n (j := 2) d_CB_write_2 rfl rfl ?_
  refine am_iload_n (j := 3) d_CB_write_3 rfl rfl ?_
  obtain ⟨hc, h⟩ := h
  refine ak_V (F := am_oE) (as := [.int x1, .int x2, .int x3]) (rest := []) d_CB_write_4 cw_CB_write_4 rfl rfl rfl (ct_CB_wantAnswer hg hc) rfl rfl (by decide) sh_0 rfl (Nat.le_of_ble_eq_true rfl) (by decide) (by decide) am_oE_x (fun c => ?_)
  have h := h c
  refine am_aload_n (j := 0) d_CB_write_7 rfl rfl ?_
  refine am_iload (j := 4) d_CB_write_8 rfl ?_
  refine ak_D (F := am_oE) (as := [.int x4]) (rest := []) d_CB_write_10 cw_CB_write_10 rfl rfl rfl (ct_CB_wantValue hg) rfl rfl (by decide) sh_0 rfl (Nat.le_of_ble_eq_true rfl) (by decide) (by decide) am_oE_x (fun c => ?_)
  have h := h c
  refine am_aload_n (j := 0) d_CB_write_13 rfl rfl ?_
  refine am_getR (t := 52) d_CB_write_14 fl_CB_21 hg (by decide) sh_0 (by decide) rfl (by decide) lk_0_1 (by decide) ?_
  refine am_iload_n (j := 1) d_CB_write_17 rfl rfl ?_
  obtain ⟨hc, h⟩ := h
  refine ak_VR (as := [.int x1]) (rest := []) d_CB_write_18 cw_CB_write_18 rfl rfl rfl (ct_AS_question hg hc) rfl rfl (by decide) sh_52 rfl (Nat.le_of_ble_eq_true rfl) (by decide) (by decide) ?_
  refine am_iload_n (j := 3) d_CB_write_21 rfl rfl ?_
  obtain ⟨hc, h⟩ := h
  obtain ⟨⟨b1, t1⟩, h⟩ := h
  refine ak_VI (as := [.int x3]) (rest := []) d_CB_write_22 cw_CB_write_22 rfl rfl rfl (ct_QU_originOf hg hc) rfl rfl b1 t1 rfl (Nat.le_of_ble_eq_true rfl) (by decide) (by decide) ?_
  refine am_istore (lv2 := [(5, .int (f_QU_originOf (f_CB_wantAnswer s x1 x2 x3).2 (f_AS_question (f_CB_wantAnswer s x1 x2 x3).2 x1) x3)), (0, .ref 0), (1, .int x1), (2, .int x2), (3, .int x3), (4, .int x4)]) d_CB_write_25 (by decide) rfl ?_
  refine am_aload_n (j := 1) d_CB_write_27 rfl rfl ?_
  refine am_aload_n (j := 1) d_CB_write_28 rfl rfl ?_
  refine am_getR (t := 1) d_CB_write_29 fl_CB_12 hg (by decide) sh_0 (by decide) rfl (by decide) lk_0_0 (by decide) ?_
  refine am_iload (j := 0) d_CB_write_32 rfl ?_
  refine am_aload_n (j := 1) d_CB_write_34 rfl rfl ?_
  refine am_getR (t := 52) d_CB_write_35 fl_CB_21 hg (by decide) sh_0 (by decide) rfl (by decide) lk_0_1 (by decide) ?_
  refine am_iload_n (j := 2) d_CB_write_38 rfl rfl ?_
  refine am_iload_n (j := 3) d_CB_write_39 rfl rfl ?_
  refine am_iload_n (j := 4) d_CB_write_40 rfl rfl ?_
  obtain ⟨hc, h⟩ := h
  refine ak_VI (as := [.int x1, .int x2, .int x3]) (rest := [.int (f_QU_originOf (f_CB_wantAnswer s x1 x2 x3).2 (f_AS_question (f_CB_wantAnswer s x1 x2 x3).2 x1) x3), .ref 1, .ref 0]) d_CB_write_41 cw_CB_write_41 rfl rfl rfl (ct_AS_rowOf hg hc) rfl rfl (by decide) sh_52 rfl (Nat.le_of_ble_eq_true rfl) (by decide) (by decide) ?_
  refine am_iload (j := 5) d_CB_write_44 rfl ?_
  obtain ⟨hc, h⟩ := h
  refine ak_VC (as := [.int (f_QU_originOf (f_CB_wantAnswer s x1 x2 x3).2 (f_AS_question (f_CB_wantAnswer s x1 x2 x3).2 x1) x3), .int (f_AS_rowOf (f_CB_wantAnswer s x1 x2 x3).2 x1 x2 x3), .int x4]) (rest := [.ref 0]) d_CB_write_46 cw_CB_write_46 rfl rfl rfl (ct_BA_putThrough hg hc) rfl rfl (by decide) sh_1 rfl (Nat.le_of_ble_eq_true rfl) (by decide) (by decide) ?_
  obtain ⟨hc, h⟩ := h
  refine ak_VC (as := [.int (f_BA_putThrough (f_CB_wantAnswer s x1 x2 x3).2 (f_QU_originOf (f_CB_wantAnswer s x1 x2 x3).2 (f_AS_question (f_CB_wantAnswer s x1 x2 x3).2 x1) x3) (f_AS_rowOf (f_CB_wantAnswer s x1 x2 x3).2 x1 x2 x3) x4).1]) (rest := []) d_CB_write_49 cw_CB_write_49 rfl rfl rfl (ct_CB_tell hg hc) rfl rfl (by decide) sh_0 rfl (Nat.le_of_ble_eq_true rfl) (by decide) (by decide) ?_
  obtain ⟨hz, h⟩ := h
  exact am_iret d_CB_write_52 rfl (am_bool hz).1 (by decide) (by decide) am_oE_ok
theorem ct_CB_write {l : Launch} {g : am_Gl} (hg : g.2.2.2.1 = true) {s : am_M} {x1 : Int32} {x2 : Int32} {x3 : Int32} {x4 : Int32} (h : p_CB_write s x1 x2 x3 x4) : AC l g m_CB_write 207 s [.ref 0, .int x1, .int x2, .int x3, .int x4] (am_oE (f_CB_write s x1 x2 x3 x4)) := am_enter ok_CB_write rfl (Nat.le_of_ble_eq_true rfl) rfl (fun ad0 => w_CB_write hg h)
end

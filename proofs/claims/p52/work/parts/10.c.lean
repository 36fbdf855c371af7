noncomputable section
def f_AS_has  (s : am_M) (x1 : Int32) : Int32 := (if x1 < 0 then (0 : Int32) else (if (s 52 3) ≤ x1 then (0 : Int32) else (1 : Int32)))
def p_AS_has  (s : am_M) (x1 : Int32) : Prop := ((x1 < 0) → True) ∧ (¬ (x1 < 0) → (((s 52 3) ≤ x1) → True) ∧ (¬ ((s 52 3) ≤ x1) → True))
set_option maxRecDepth 8000 in
theorem w_AS_has {l : Launch} {g : am_Gl} (hg : g.2.2.2.1 = true) {ad0 : Nat → Nat} {s : am_M} {x1 : Int32} : AW l g m_AS_has 207 ad0 ((am_oI s) (f_AS_has s x1)) 0 0 207 s 0 [(0, .ref 52), (1, .int x1)] [] := by
  have h : p_AS_has s x1 := by
    unfold p_AS_has
    first | exact trivial | simp
  refine am_iload_n (j := 1) d_AS_has_0 rfl rfl ?_
  refine ai_lt (F := (am_oI s)) (tgt := 16) d_AS_has_1 (by decide) (fun c => ?_) (fun c => ?_)
  · have h := h.1 c
    refine am_iconst (v := (0 : Int32)) d_AS_has_16 (by decide) ?_
    exact am_iret d_AS_has_17 rfl (am_bool (Or.inl rfl)).1 (by decide) (by decide) am_oI_ok
  · have h := h.2 c
    refine am_iload_n (j := 1) d_AS_has_4 rfl rfl ?_
    refine am_aload_n (j := 0) d_AS_has_5 rfl rfl ?_
    refine am_getI d_AS_has_6 fl_AS_45 (by decide) sh_52 (by decide) rfl ?_
    refine aj_ge (F := (am_oI s)) (tgt := 16) d_AS_has_9 (by decide) (fun c => ?_) (fun c => ?_)
    · have h := h.1 c
      refine am_iconst (v := (0 : Int32)) d_AS_has_16 (by decide) ?_
      exact am_iret d_AS_has_17 rfl (am_bool (Or.inl rfl)).1 (by decide) (by decide) am_oI_ok
    · have h := h.2 c
      refine am_iconst (v := (1 : Int32)) d_AS_has_12 (by decide) ?_
      refine am_goto (tgt := 17) d_AS_has_13 (by decide) ?_
      exact am_iret d_AS_has_17 rfl (am_bool (Or.inr rfl)).1 (by decide) (by decide) am_oI_ok
theorem ct_AS_has {l : Launch} {g : am_Gl} (hg : g.2.2.2.1 = true) {s : am_M} {x1 : Int32} : AC l g m_AS_has 207 s [.ref 52, .int x1] ((am_oI s) (f_AS_has s x1)) := am_enter ok_AS_has rfl (Nat.le_of_ble_eq_true rfl) rfl (fun ad0 => w_AS_has hg)
def f_AS_question  (s : am_M) (x1 : Int32) : Nat := (if x1 < 0 then 54 else (if x1 < (8 : Int32) then (am_lk 53 (x1).toNatClampNeg) else 54))
def p_AS_question  (s : am_M) (x1 : Int32) : Prop := ((x1 < 0) → True) ∧ (¬ (x1 < 0) → ((x1 < (8 : Int32)) → vp_in x1 8 ∧ (((am_lk 53 (x1).toNatClampNeg) < 207 ∧ am_sh (am_lk 53 (x1).toNatClampNeg) = (0, 4, 17)) ∧ (True))) ∧ (¬ (x1 < (8 : Int32)) → True))
set_option maxRecDepth 8000 in
theorem w_AS_question {l : Launch} {g : am_Gl} (hg : g.2.2.2.1 = true) {ad0 : Nat → Nat} {s : am_M} {x1 : Int32} (h : p_AS_question s x1) : AW l g m_AS_question 207 ad0 ((am_oR s) (f_AS_question s x1)) 0 0 207 s 0 [(0, .ref 52), (1, .int x1)] [] := by
  refine am_iload_n (j := 1) d_AS_question_0 rfl rfl ?_
  refine ai_lt (F := (am_oR s)) (tgt := 10) d_AS_question_1 (by decide) (fun c => ?_) (fun c => ?_)
  · have h := h.1 c
    refine am_aload_n (j := 0) d_AS_question_10 rfl rfl ?_
    refine am_getR (t := 54) d_AS_question_11 fl_AS_18 hg (by decide) sh_52 (by decide) rfl (by decide) lk_52_2 (by decide) ?_
    refine am_goto (tgt := 23) d_AS_question_14 (by decide) ?_
    exact am_aret d_AS_question_23 rfl (by decide) (by decide) am_oR_ok
  · have h := h.2 c
    refine am_iload_n (j := 1) d_AS_question_4 rfl rfl ?_
    refine am_bipush (v := (8 : Int32)) d_AS_question_5 (by decide) ?_
    refine aj_lt (F := (am_oR s)) (tgt := 17) d_AS_question_7 (by decide) (fun c => ?_) (fun c => ?_)
    · have h := h.1 c
      refine am_aload_n (j := 0) d_AS_question_17 rfl rfl ?_
      refine am_getR (t := 53) d_AS_question_18 fl_AS_11 hg (by decide) sh_52 (by decide) rfl (by decide) lk_52_1 (by decide) ?_
      refine am_iload_n (j := 1) d_AS_question_21 rfl rfl ?_
      obtain ⟨hv, h⟩ := h
      obtain ⟨⟨b1, t1⟩, h⟩ := h
      refine am_aalL d_AS_question_22 hg (by decide) sh_53 (by decide) (by decide) hv rfl b1 ?_
      exact am_aret d_AS_question_23 rfl (by decide) (by decide) am_oR_ok
    · have h := h.2 c
      refine am_aload_n (j := 0) d_AS_question_10 rfl rfl ?_
      refine am_getR (t := 54) d_AS_question_11 fl_AS_18 hg (by decide) sh_52 (by decide) rfl (by decide) lk_52_2 (by decide) ?_
      refine am_goto (tgt := 23) d_AS_question_14 (by decide) ?_
      exact am_aret d_AS_question_23 rfl (by decide) (by decide) am_oR_ok
theorem ct_AS_question {l : Launch} {g : am_Gl} (hg : g.2.2.2.1 = true) {s : am_M} {x1 : Int32} (h : p_AS_question s x1) : AC l g m_AS_question 207 s [.ref 52, .int x1] ((am_oR s) (f_AS_question s x1)) := am_enter ok_AS_question rfl (Nat.le_of_ble_eq_true rfl) rfl (fun ad0 => w_AS_question hg h)
def f_AS_set  (s : am_M) (x1 : Int32) (x2 : Int32) (x3 : Int32) : am_M := (if x1 < 0 then s else (if (30 : Int32) ≤ x1 then s else (if x2 < 0 then s else (if (54 : Int32) ≤ x2 then s else (am_set s 61 (((x1 * (54 : Int32)) + x2)).toNatClampNeg x3)))))
def p_AS_set  (s : am_M) (x1 : Int32) (x2 : Int32) (x3 : Int32) : Prop := ((x1 < 0) → True) ∧ (¬ (x1 < 0) → (((30 : Int32) ≤ x1) → True) ∧ (¬ ((30 : Int32) ≤ x1) → ((x2 < 0) → True) ∧ (¬ (x2 < 0) → (((54 : Int32) ≤ x2) → True) ∧ (¬ ((54 : Int32) ≤ x2) → vp_in ((x1 * (54 : Int32)) + x2) 1620 ∧ (True)))))
set_option maxRecDepth 8000 in
theorem w_AS_set {l : Launch} {g : am_Gl} (hg : g.2.2.2.1 = true) {ad0 : Nat → Nat} {s : am_M} {x1 : Int32} {x2 : Int32} {x3 : Int32} (h : p_AS_set s x1 x2 x3) : AW l g m_AS_set 207 ad0 (am_oM (f_AS_set s x1 x2 x3)) 0 0 207 s 0 [(0, .ref 52), (1, .int x1), (2, .int x2), (3, .int x3)] [] := by
  refine am_iload_n (j := 1) d_AS_set_0 rfl rfl ?_
  refine ai_lt (F := am_oM) (tgt := 32) d_AS_set_1 (by decide) (fun c => ?_) (fun c => ?_)
  · have h := h.1 c
    exact am_vret d_AS_set_32 rfl (by decide) (by decide) am_oM_ok
  · have h := h.2 c
    refine am_iload_n (j := 1) d_AS_set_4 rfl rfl ?_
    refine am_bipush (v := (30 : Int32)) d_AS_set_5 (by decide) ?_
    refine aj_ge (F := am_oM) (tgt := 32) d_AS_set_7 (by decide) (fun c => ?_) (fun c => ?_)
    · have h := h.1 c
      exact am_vret d_AS_set_32 rfl (by decide) (by decide) am_oM_ok
    · have h := h.2 c
      refine am_iload_n (j := 2) d_AS_set_10 rfl rfl ?_
      refine ai_lt (F := am_oM) (tgt := 32) d_AS_set_11 (by decide) (fun c => ?_) (fun c => ?_)
      · have h := h.1 c
        exact am_vret d_AS_set_32 rfl (by decide) (by decide) am_oM_ok
      · have h := h.2 c
        refine am_iload_n (j := 2) d_AS_set_14 rfl rfl ?_
        refine am_bipush (v := (54 : Int32)) d_AS_set_15 (by decide) ?_
        refine aj_ge (F := am_oM) (tgt := 32) d_AS_set_17 (by decide) (fun c => ?_) (fun c => ?_)
        · have h := h.1 c
          exact am_vret d_AS_set_32 rfl (by decide) (by decide) am_oM_ok
        · have h := h.2 c
          refine am_aload_n (j := 0) d_AS_set_20 rfl rfl ?_
          refine am_getR (t := 61) d_AS_set_21 fl_AS_22 hg (by decide) sh_52 (by decide) rfl (by decide) lk_52_6 (by decide) ?_
          refine am_iload_n (j := 1) d_AS_set_24 rfl rfl ?_
          refine am_bipush (v := (54 : Int32)) d_AS_set_25 (by decide) ?_
          refine am_imul d_AS_set_27 ?_
          refine am_iload_n (j := 2) d_AS_set_28 rfl rfl ?_
          refine am_iadd d_AS_set_29 ?_
          refine am_iload_n (j := 3) d_AS_set_30 rfl rfl ?_
          obtain ⟨hv, h⟩ := h
          refine am_iast d_AS_set_31 (by decide) sh_61 hv ?_
          exact am_vret d_AS_set_32 rfl (by decide) (by decide) am_oM_ok
theorem ct_AS_set {l : Launch} {g : am_Gl} (hg : g.2.2.2.1 = true) {s : am_M} {x1 : Int32} {x2 : Int32} {x3 : Int32} (h : p_AS_set s x1 x2 x3) : AC l g m_AS_set 207 s [.ref 52, .int x1, .int x2, .int x3] (am_oM (f_AS_set s x1 x2 x3)) := am_enter ok_AS_set rfl (Nat.le_of_ble_eq_true rfl) rfl (fun ad0 => w_AS_set hg h)
def f_AS_setRow  (s : am_M) (x1 : Int32) (x2 : Int32) (x3 : Int32) : am_M := (if x1 < 0 then s else (if (30 : Int32) ≤ x1 then s else (if x2 < 0 then s else (if (9 : Int32) ≤ x2 then s else (am_set s 62 (((x1 * (9 : Int32)) + x2)).toNatClampNeg x3)))))
def p_AS_setRow  (s : am_M) (x1 : Int32) (x2 : Int32) (x3 : Int32) : Prop := ((x1 < 0) → True) ∧ (¬ (x1 < 0) → (((30 : Int32) ≤ x1) → True) ∧ (¬ ((30 : Int32) ≤ x1) → ((x2 < 0) → True) ∧ (¬ (x2 < 0) → (((9 : Int32) ≤ x2) → True) ∧ (¬ ((9 : Int32) ≤ x2) → vp_in ((x1 * (9 : Int32)) + x2) 270 ∧ (True)))))
set_option maxRecDepth 8000 in
theorem w_AS_setRow {l : Launch} {g : am_Gl} (hg : g.2.2.2.1 = true) {ad0 : Nat → Nat} {s : am_M} {x1 : Int32} {x2 : Int32} {x3 : Int32} (h : p_AS_setRow s x1 x2 x3) : AW l g m_AS_setRow 207 ad0 (am_oM (f_AS_setRow s x1 x2 x3)) 0 0 207 s 0 [(0, .ref 52), (1, .int x1), (2, .int x2), (3, .int x3)] [] := by
  refine am_iload_n (j := 1) d_AS_setRow_0 rfl rfl ?_
  refine ai_lt (F := am_oM) (tgt := 32) d_AS_setRow_1 (by decide) (fun c => ?_) (fun c => ?_)
  · have h := h.1 c
    exact am_vret d_AS_setRow_32 rfl (by decide) (by decide) am_oM_ok
  · have h := h.2 c
    refine am_iload_n (j := 1) d_AS_setRow_4 rfl rfl ?_
    refine am_bipush (v := (30 : Int32)) d_AS_setRow_5 (by decide) ?_
    refine aj_ge (F := am_oM) (tgt := 32) d_AS_setRow_7 (by decide) (fun c => ?_) (fun c => ?_)
    · have h := h.1 c
      exact am_vret d_AS_setRow_32 rfl (by decide) (by decide) am_oM_ok
    · have h := h.2 c
      refine am_iload_n (j := 2) d_AS_setRow_10 rfl rfl ?_
      refine ai_lt (F := am_oM) (tgt := 32) d_AS_setRow_11 (by decide) (fun c => ?_) (fun c => ?_)
      · have h := h.1 c
        exact am_vret d_AS_setRow_32 rfl (by decide) (by decide) am_oM_ok
      · have h := h.2 c
        refine am_iload_n (j := 2) d_AS_setRow_14 rfl rfl ?_
        refine am_bipush (v := (9 : Int32)) d_AS_setRow_15 (by decide) ?_
        refine aj_ge (F := am_oM) (tgt := 32) d_AS_setRow_17 (by decide) (fun c => ?_) (fun c => ?_)
        · have h := h.1 c
          exact am_vret d_AS_setRow_32 rfl (by decide) (by decide) am_oM_ok
        · have h := h.2 c
          refine am_aload_n (j := 0) d_AS_setRow_20 rfl rfl ?_
          refine am_getR (t := 62) d_AS_setRow_21 fl_AS_26 hg (by decide) sh_52 (by decide) rfl (by decide) lk_52_7 (by decide) ?_
          refine am_iload_n (j := 1) d_AS_setRow_24 rfl rfl ?_
          refine am_bipush (v := (9 : Int32)) d_AS_setRow_25 (by decide) ?_
          refine am_imul d_AS_setRow_27 ?_
          refine am_iload_n (j := 2) d_AS_setRow_28 rfl rfl ?_
          refine am_iadd d_AS_setRow_29 ?_
          refine am_iload_n (j := 3) d_AS_setRow_30 rfl rfl ?_
          obtain ⟨hv, h⟩ := h
          refine am_iast d_AS_setRow_31 (by decide) sh_62 hv ?_
          exact am_vret d_AS_setRow_32 rfl (by decide) (by decide) am_oM_ok
theorem ct_AS_setRow {l : Launch} {g : am_Gl} (hg : g.2.2.2.1 = true) {s : am_M} {x1 : Int32} {x2 : Int32} {x3 : Int32} (h : p_AS_setRow s x1 x2 x3) : AC l g m_AS_setRow 207 s [.ref 52, .int x1, .int x2, .int x3] (am_oM (f_AS_setRow s x1 x2 x3)) := am_enter ok_AS_setRow rfl (Nat.le_of_ble_eq_true rfl) rfl (fun ad0 => w_AS_setRow hg h)
theorem cw_AS_findRows_11 : am_cv m_AS_findRows m_BA_widthOf 89 1 := ⟨⟨ok_BA_widthOf, rfl, by decide +kernel, by decide, by decide⟩, aw_3_114, aw_2_81, aw_2_82⟩
theorem cw_AS_findRows_34 : am_cv m_AS_findRows m_RO_has 141 2 := ⟨⟨ok_RO_has, rfl, by decide +kernel, by decide, by decide⟩, aw_3_115, aw_2_184, aw_2_185⟩
theorem cw_AS_findRows_66 : am_cv m_AS_findRows m_RO_get 147 3 := ⟨⟨ok_RO_get, rfl, by decide +kernel, by decide, by decide⟩, aw_3_116, aw_2_180, aw_2_181⟩
theorem cw_AS_findRows_69 : am_cv m_AS_findRows m_AS_set 151 3 := ⟨⟨ok_AS_set, rfl, by decide +kernel, by decide, by decide⟩, aw_3_117, aw_3_119, as_1_15⟩
theorem cw_AS_findRows_85 : am_cv m_AS_findRows m_AS_setRow 155 3 := ⟨⟨ok_AS_setRow, rfl, by decide +kernel, by decide, by decide⟩, aw_3_121, aw_3_123, as_2_0⟩
def f_AS_findRows_98 (K19 : am_M → Int32 → Int32 → am_M) (s : am_M) (x1 : Int32) (x2 : Int32) : am_M := (K19 s x1 (x2 + (1 : Int32)))
def p_AS_findRows_98 (KP19 : am_M → Int32 → Int32 → Prop) (s : am_M) (x1 : Int32) (x2 : Int32) : Prop := (KP19 s x1 (x2 + (1 : Int32)))
set_option maxRecDepth 8000 in
theorem w_AS_findRows_98 {l : Launch} {g : am_Gl} (hg : g.2.2.2.1 = true) {ad0 : Nat → Nat} {K19 : am_M → Int32 → Int32 → am_M} {KP19 : am_M → Int32 → Int32 → Prop} (hK19 : ∀ (s : am_M) (x1 : Int32) (x2 : Int32), KP19 s x1 x2 → AW l g m_AS_findRows 207 ad0 (am_oM (K19 s x1 x2)) 0 0 207 s 19 [(0, .ref 52), (1, .int x1), (2, .int x2)] []) {s : am_M} {x1 : Int32} {x2 : Int32} (h : p_AS_findRows_98 KP19 s x1 x2) : AW l g m_AS_findRows 207 ad0 (am_oM (f_AS_findRows_98 K19 s x1 x2)) 0 0 207 s 98 [(0, .ref 52), (1, .int x1), (2, .int x2)] [] := by
  refine am_iinc (j := 2) (v := (x2 + (1 : Int32))) (lv2 := [(2, .int (x2 + (1 : Int32))), (0, .ref 52), (1, .int x1)]) d_AS_findRows_98 rfl rfl (by decide) rfl ?_
  refine am_goto (tgt := 19) d_AS_findRows_101 (by decide) ?_
  refine am_sub [1, 2, 0] (lv2 := [(0, .ref 52), (1, .int x1), (2, .int (x2 + (1 : Int32)))]) rfl ?_
  exact hK19 _ _ _ h
def f_AS_findRows_78 (K19 : am_M → Int32 → Int32 → am_M) (s : am_M) (x1 : Int32) (x2 : Int32) (x3 : Int32) : am_M := (f_AS_findRows_98 K19 (am_set (f_AS_setRow s (s 52 4) (0 : Int32) x2) 52 4 (((f_AS_setRow s (s 52 4) (0 : Int32) x2) 52 4) + (1 : Int32))) x1 x2)
def p_AS_findRows_78 (KP19 : am_M → Int32 → Int32 → Prop) (s : am_M) (x1 : Int32) (x2 : Int32) (x3 : Int32) : Prop := p_AS_setRow s (s 52 4) (0 : Int32) x2 ∧ ((p_AS_findRows_98 KP19 (am_set (f_AS_setRow s (s 52 4) (0 : Int32) x2) 52 4 (((f_AS_setRow s (s 52 4) (0 : Int32) x2) 52 4) + (1 : Int32))) x1 x2))
set_option maxRecDepth 8000 in
theorem w_AS_findRows_78 {l : Launch} {g : am_Gl} (hg : g.2.2.2.1 = true) {ad0 : Nat → Nat} {K19 : am_M → Int32 → Int32 → am_M} {KP19 : am_M → Int32 → Int32 → Prop} (hK19 : ∀ (s : am_M) (x1 : Int32) (x2 : Int32), KP19 s x1 x2 → AW l g m_AS_findRows 207 ad0 (am_oM (K19 s x1 x2)) 0 0 207 s 19 [(0, .ref 52), (1, .int x1), (2, .int x2)] []) {s : am_M} {x1 : Int32} {x2 : Int32} {x3 : Int32} (h : p_AS_findRows_78 KP19 s x1 x2 x3) : AW l g m_AS_findRows 207 ad0 (am_oM (f_AS_findRows_78 K19 s x1 x2 x3)) 0 0 207 s 78 [(0, .ref 52), (1, .int x1), (2, .int x2), (3, .int x3)] [] := by
  refine am_aload_n (j := 0) d_AS_findRows_78 rfl rfl ?_
  refine am_aload_n (j := 0) d_AS_findRows_79 rfl rfl ?_
  refine am_getI d_AS_findRows_80 fl_AS_134 (by decide) sh_52 (by decide) rfl ?_
  refine am_iconst (v := (0 : Int32)) d_AS_findRows_83 (by decide) ?_
  refine am_iload_n (j := 2) d_AS_findRows_84 rfl rfl ?_
  obtain ⟨hc, h⟩ := h
  refine ak_VM (as := [.int (s 52 4), .int (0 : Int32), .int x2]) (rest := []) d_AS_findRows_85 cw_AS_findRows_85 rfl rfl rfl (ct_AS_setRow hg hc) rfl rfl (by decide) sh_52 rfl (Nat.le_of_ble_eq_true rfl) (by decide) (by decide) ?_
  refine am_aload_n (j := 0) d_AS_findRows_88 rfl rfl ?_
  refine am_dup d_AS_findRows_89 rfl ?_
  refine am_getI d_AS_findRows_90 fl_AS_134 (by decide) sh_52 (by decide) rfl ?_
  refine am_iconst (v := (1 : Int32)) d_AS_findRows_93 (by decide) ?_
  refine am_iadd d_AS_findRows_94 ?_
  refine am_putI (ty := .int) d_AS_findRows_95 fl_AS_134 ft_1_4 (by decide) sh_52 (by decide) rfl rfl rfl ?_
  refine am_sub [0, 1, 2] (lv2 := [(0, .ref 52), (1, .int x1), (2, .int x2)]) rfl ?_
  exact w_AS_findRows_98 hg hK19 h
def f_AS_findRows_42 (K19 : am_M → Int32 → Int32 → am_M) : Nat → am_M → Int32 → Int32 → Int32 → am_M
  | 0, s, x1, x2, x3 => s
  | n + 1, s, x1, x2, x3 => (if (s 52 5) ≤ x3 then (f_AS_findRows_78 K19 s x1 x2 x3) else ((f_AS_findRows_42 K19 n) (f_AS_set s (s 52 4) x3 (f_RO_get s 8 x1 x2 x3)) x1 x2 (x3 + (1 : Int32))))
def p_AS_findRows_42 (KP19 : am_M → Int32 → Int32 → Prop) : Nat → am_M → Int32 → Int32 → Int32 → Prop
  | 0, s, x1, x2, x3 => False
  | n + 1, s, x1, x2, x3 => (((s 52 5) ≤ x3) → (p_AS_findRows_78 KP19 s x1 x2 x3)) ∧ (¬ ((s 52 5) ≤ x3) → p_RO_get s 8 x1 x2 x3 ∧ (p_AS_set s (s 52 4) x3 (f_RO_get s 8 x1 x2 x3) ∧ (((p_AS_findRows_42 KP19 n) (f_AS_set s (s 52 4) x3 (f_RO_get s 8 x1 x2 x3)) x1 x2 (x3 + (1 : Int32))))))
set_option maxRecDepth 8000 in
theorem w_AS_findRows_42 {l : Launch} {g : am_Gl} (hg : g.2.2.2.1 = true) {ad0 : Nat → Nat} {K19 : am_M → Int32 → Int32 → am_M} {KP19 : am_M → Int32 → Int32 → Prop}  (hK19 : ∀ (s : am_M) (x1 : Int32) (x2 : Int32), KP19 s x1 x2 → AW l g m_AS_findRows 207 ad0 (am_oM (K19 s x1 x2)) 0 0 207 s 19 [(0, .ref 52), (1, .int x1), (2, .int x2)] []) : ∀ (n : Nat) (s : am_M) (x1 : Int32) (x2 : Int32) (x3 : Int32), p_AS_findRows_42 KP19 n s x1 x2 x3 → AW l g m_AS_findRows 207 ad0 (am_oM (f_AS_findRows_42 K19 n s x1 x2 x3)) 0 0 207 s 42 [(0, .ref 52), (1, .int x1), (2, .int x2), (3, .int x3)] [] := by
  intro n
  induction n with
  | zero => intro s x1 x2 x3 h; exact h.elim
  | succ n hK42 =>
    intro s x1 x2 x3 h
    refine am_iload_n (j := 3) d_AS_findRows_42 rfl rfl ?_
    refine am_aload_n (j := 0) d_AS_findRows_43 rfl rfl ?_
    refine am_getI d_AS_findRows_44 fl_AS_63 (by decide) sh_52 (by decide) rfl ?_
    refine aj_ge (F := am_oM) (tgt := 78) d_AS_findRows_47 (by decide) (fun c => ?_) (fun c => ?_)
    · have h := h.1 c
      exact w_AS_findRows_78 hg hK19 h
    · have h := h.2 c
      refine am_aload_n (j := 0) d_AS_findRows_50 rfl rfl ?_
      refine am_aload_n (j := 0) d_AS_findRows_51 rfl rfl ?_
      refine am_getI d_AS_findRows_52 fl_AS_134 (by decide) sh_52 (by decide) rfl ?_
      refine am_iload_n (j := 3) d_AS_findRows_55 rfl rfl ?_
      refine am_aload_n (j := 0) d_AS_findRows_56 rfl rfl ?_
      refine am_getR (t := 1) d_AS_findRows_57 fl_AS_41 hg (by decide) sh_52 (by decide) rfl (by decide) lk_52_0 (by decide) ?_
      refine am_getR (t := 8) d_AS_findRows_60 fl_AS_137 hg (by decide) sh_1 (by decide) rfl (by decide) lk_1_9 (by decide) ?_
      refine am_iload_n (j := 1) d_AS_findRows_63 rfl rfl ?_
      refine am_iload_n (j := 2) d_AS_findRows_64 rfl rfl ?_
      refine am_iload_n (j := 3) d_AS_findRows_65 rfl rfl ?_
      obtain ⟨hc, h⟩ := h
      refine ak_VI (as := [.int x1, .int x2, .int x3]) (rest := [.int x3, .int (s 52 4), .ref 52]) d_AS_findRows_66 cw_AS_findRows_66 rfl rfl rfl (ct_RO_get hg hc) rfl rfl (by decide) sh_8 rfl (Nat.le_of_ble_eq_true rfl) (by decide) (by decide) ?_
      obtain ⟨hc, h⟩ := h
      refine ak_VM (as := [.int (s 52 4), .int x3, .int (f_RO_get s 8 x1 x2 x3)]) (rest := []) d_AS_findRows_69 cw_AS_findRows_69 rfl rfl rfl (ct_AS_set hg hc) rfl rfl (by decide) sh_52 rfl (Nat.le_of_ble_eq_true rfl) (by decide) (by decide) ?_
      refine am_iinc (j := 3) (v := (x3 + (1 : Int32))) (lv2 := [(3, .int (x3 + (1 : Int32))), (0, .ref 52), (1, .int x1), (2, .int x2)]) d_AS_findRows_72 rfl rfl (by decide) rfl ?_
      refine am_goto (tgt := 42) d_AS_findRows_75 (by decide) ?_
      refine am_sub [1, 2, 3, 0] (lv2 := [(0, .ref 52), (1, .int x1), (2, .int x2), (3, .int (x3 + (1 : Int32)))]) rfl ?_
      exact hK42 _ _ _ _ h
def f_AS_findRows_19  : Nat → am_M → Int32 → Int32 → am_M
  | 0, s, x1, x2 => s
  | n + 1, s, x1, x2 => (if (30 : Int32) ≤ x2 then s else (if (f_RO_has s 8 x1 x2) = 0 then (f_AS_findRows_98 (f_AS_findRows_19  n) s x1 x2) else (f_AS_findRows_42 (f_AS_findRows_19  n) am_F s x1 x2 (0 : Int32))))
def p_AS_findRows_19  : Nat → am_M → Int32 → Int32 → Prop
  | 0, s, x1, x2 => False
  | n + 1, s, x1, x2 => (((30 : Int32) ≤ x2) → True) ∧ (¬ ((30 : Int32) ≤ x2) → p_RO_has s 8 x1 x2 ∧ ((((f_RO_has s 8 x1 x2) = 0) → (p_AS_findRows_98 (p_AS_findRows_19  n) s x1 x2)) ∧ (¬ ((f_RO_has s 8 x1 x2) = 0) → (p_AS_findRows_42 (p_AS_findRows_19  n) am_F s x1 x2 (0 : Int32)))))
set_option maxRecDepth 8000 in
theorem w_AS_findRows_19 {l : Launch} {g : am_Gl} (hg : g.2.2.2.1 = true) {ad0 : Nat → Nat}   : ∀ (n : Nat) (s : am_M) (x1 : Int32) (x2 : Int32), p_AS_findRows_19  n s x1 x2 → AW l g m_AS_findRows 207 ad0 (am_oM (f_AS_findRows_19  n s x1 x2)) 0 0 207 s 19 [(0, .ref 52), (1, .int x1), (2, .int x2)] [] := by
  intro n
  induction n with
  | zero => intro s x1 x2 h; exact h.elim
  | succ n hK19 =>
    intro s x1 x2 h
    refine am_iload_n (j := 2) d_AS_findRows_19 rfl rfl ?_
    refine am_bipush (v := (30 : Int32)) d_AS_findRows_20 (by decide) ?_
    refine aj_ge (F := am_oM) (tgt := 104) d_AS_findRows_22 (by decide) (fun c => ?_) (fun c => ?_)
    · have h := h.1 c
      exact am_vret d_AS_findRows_104 rfl (by decide) (by decide) am_oM_ok
    · have h := h.2 c
      refine am_aload_n (j := 0) d_AS_findRows_25 rfl rfl ?_
      refine am_getR (t := 1) d_AS_findRows_26 fl_AS_41 hg (by decide) sh_52 (by decide) rfl (by decide) lk_52_0 (by decide) ?_
      refine am_getR (t := 8) d_AS_findRows_29 fl_AS_137 hg (by decide) sh_1 (by decide) rfl (by decide) lk_1_9 (by decide) ?_
      refine am_iload_n (j := 1) d_AS_findRows_32 rfl rfl ?_
      refine am_iload_n (j := 2) d_AS_findRows_33 rfl rfl ?_
      obtain ⟨hc, h⟩ := h
      refine ak_VI (as := [.int x1, .int x2]) (rest := []) d_AS_findRows_34 cw_AS_findRows_34 rfl rfl rfl (ct_RO_has hg hc) rfl rfl (by decide) sh_8 rfl (Nat.le_of_ble_eq_true rfl) (by decide) (by decide) ?_
      refine ai_eq (F := am_oM) (tgt := 98) d_AS_findRows_37 (by decide) (fun c => ?_) (fun c => ?_)
      · have h := h.1 c
        exact w_AS_findRows_98 hg hK19 h
      · have h := h.2 c
        refine am_iconst (v := (0 : Int32)) d_AS_findRows_40 (by decide) ?_
        refine am_istore_n (lv2 := [(3, .int (0 : Int32)), (0, .ref 52), (1, .int x1), (2, .int x2)]) d_AS_findRows_41 rfl (by decide) rfl ?_
        refine am_sub [1, 2, 3, 0] (lv2 := [(0, .ref 52), (1, .int x1), (2, .int x2), (3, .int (0 : Int32))]) rfl ?_
        exact w_AS_findRows_42 hg hK19 am_F _ _ _ _ h
def f_AS_findRows  (s : am_M) (x1 : Int32) : am_M := (f_AS_findRows_19 am_F (am_set (am_set s 52 4 (0 : Int32)) 52 5 (f_BA_widthOf (am_set s 52 4 (0 : Int32)) x1)) x1 (0 : Int32))
def p_AS_findRows  (s : am_M) (x1 : Int32) : Prop := p_BA_widthOf (am_set s 52 4 (0 : Int32)) x1 ∧ ((p_AS_findRows_19 am_F (am_set (am_set s 52 4 (0 : Int32)) 52 5 (f_BA_widthOf (am_set s 52 4 (0 : Int32)) x1)) x1 (0 : Int32)))
set_option maxRecDepth 8000 in
theorem w_AS_findRows {l : Launch} {g : am_Gl} (hg : g.2.2.2.1 = true) {ad0 : Nat → Nat} {s : am_M} {x1 : Int32} (h : p_AS_findRows s x1) : AW l g m_AS_findRows 207 ad0 (am_oM (f_AS_findRows s x1)) 0 0 207 s 0 [(0, .ref 52), (1, .int x1)] [] := by
  refine am_aload_n (j := 0) d_AS_findRows_0 rfl rfl ?_
  refine am_iconst (v := (0 : Int32)) d_AS_findRows_1 (by decide) ?_
  refine am_putI (ty := .int) d_AS_findRows_2 fl_AS_134 ft_1_4 (by decide) sh_52 (by decide) rfl rfl rfl ?_
  refine am_aload_n (j := 0) d_AS_findRows_5 rfl rfl ?_
  refine am_aload_n (j := 0) d_AS_findRows_6 rfl rfl ?_
  refine am_getR (t := 1) d_AS_findRows_7 fl_AS_41 hg (by decide) sh_52 (by decide) rfl (by decide) lk_52_0 (by decide) ?_
  refine am_iload_n (j := 1) d_AS_findRows_10 rfl rfl ?_
  obtain ⟨hc, h⟩ := h
  refine ak_VI (as := [.int x1]) (rest := [.ref 52]) d_AS_findRows_11 cw_AS_findRows_11 rfl rfl rfl (ct_BA_widthOf hg hc) rfl rfl (by decide) sh_1 rfl (Nat.le_of_ble_eq_true rfl) (by decide) (by decide) ?_
  refine am_putI (ty := .int) d_AS_findRows_14 fl_AS_63 ft_1_5 (by decide) sh_52 (by decide) rfl rfl rfl ?_
  refine am_iconst (v := (0 : Int32)) d_AS_findRows_17 (by decide) ?_
  refine am_istore_n (lv2 := [(2, .int (0 : Int32)), (0, .ref 52), (1, .int x1)]) d_AS_findRows_18 rfl (by decide) rfl ?_
  refine am_sub [1, 2, 0] (lv2 := [(0, .ref 52), (1, .int x1), (2, .int (0 : Int32))]) rfl ?_
  exact w_AS_findRows_19 hg am_F _ _ _ h
theorem ct_AS_findRows {l : Launch} {g : am_Gl} (hg : g.2.2.2.1 = true) {s : am_M} {x1 : Int32} (h : p_AS_findRows s x1) : AC l g m_AS_findRows 207 s [.ref 52, .int x1] (am_oM (f_AS_findRows s x1)) := am_enter ok_AS_findRows rfl (Nat.le_of_ble_eq_true rfl) rfl (fun ad0 => w_AS_findRows hg h)
def f_AS_get  (s : am_M) (x1 : Int32) (x2 : Int32) : Int32 := (if x1 < 0 then (-1000000 : Int32) else (if (30 : Int32) ≤ x1 then (-1000000 : Int32) else (if x2 < 0 then (-1000000 : Int32) else (if x2 < (54 : Int32) then (s 61 (((x1 * (54 : Int32)) + x2)).toNatClampNeg) else (-1000000 : Int32)))))
def p_AS_get  (s : am_M) (x1 : Int32) (x2 : Int32) : Prop := ((x1 < 0) → True) ∧ (¬ (x1 < 0) → (((30 : Int32) ≤ x1) → True) ∧ (¬ ((30 : Int32) ≤ x1) → ((x2 < 0) → True) ∧ (¬ (x2 < 0) → ((x2 < (54 : Int32)) → vp_in ((x1 * (54 : Int32)) + x2) 1620 ∧ (True)) ∧ (¬ (x2 < (54 : Int32)) → True))))
set_option maxRecDepth 8000 in
theorem w_AS_get {l : Launch} {g : am_Gl} (hg : g.2.2.2.1 = true) {ad0 : Nat → Nat} {s : am_M} {x1 : Int32} {x2 : Int32} (h : p_AS_get s x1 x2) : AW l g m_AS_get 207 ad0 ((am_oI s) (f_AS_get s x1 x2)) 0 0 207 s 0 [(0, .ref 52), (1, .int x1), (2, .int x2)] [] := by
  refine am_iload_n (j := 1) d_AS_get_0 rfl rfl ?_
  refine ai_lt (F := (am_oI s)) (tgt := 20) d_AS_get_1 (by decide) (fun c => ?_) (fun c => ?_)
  · have h := h.1 c
    refine am_ldc (v := (-1000000 : Int32)) d_AS_get_20 aw_3_138 ?_
    exact am_iret d_AS_get_22 rfl rfl (by decide) (by decide) am_oI_ok
  · have h := h.2 c
    refine am_iload_n (j := 1) d_AS_get_4 rfl rfl ?_
    refine am_bipush (v := (30 : Int32)) d_AS_get_5 (by decide) ?_
    refine aj_ge (F := (am_oI s)) (tgt := 20) d_AS_get_7 (by decide) (fun c => ?_) (fun c => ?_)
    · have h := h.1 c
      refine am_ldc (v := (-1000000 : Int32)) d_AS_get_20 aw_3_138 ?_
      exact am_iret d_AS_get_22 rfl rfl (by decide) (by decide) am_oI_ok
    · have h := h.2 c
      refine am_iload_n (j := 2) d_AS_get_10 rfl rfl ?_
      refine ai_lt (F := (am_oI s)) (tgt := 20) d_AS_get_11 (by decide) (fun c => ?_) (fun c => ?_)
      · have h := h.1 c
        refine am_ldc (v := (-1000000 : Int32)) d_AS_get_20 aw_3_138 ?_
        exact am_iret d_AS_get_22 rfl rfl (by decide) (by decide) am_oI_ok
      · have h := h.2 c
        refine am_iload_n (j := 2) d_AS_get_14 rfl rfl ?_
        refine am_bipush (v := (54 : Int32)) d_AS_get_15 (by decide) ?_
        refine aj_lt (F := (am_oI s)) (tgt := 23) d_AS_get_17 (by decide) (fun c => ?_) (fun c => ?_)
        · have h := h.1 c
          refine am_aload_n (j := 0) d_AS_get_23 rfl rfl ?_
          refine am_getR (t := 61) d_AS_get_24 fl_AS_22 hg (by decide) sh_52 (by decide) rfl (by decide) lk_52_6 (by decide) ?_
          refine am_iload_n (j := 1) d_AS_get_27 rfl rfl ?_
          refine am_bipush (v := (54 : Int32)) d_AS_get_28 (by decide) ?_
          refine am_imul d_AS_get_30 ?_
          refine am_iload_n (j := 2) d_AS_get_31 rfl rfl ?_
          refine am_iadd d_AS_get_32 ?_
          obtain ⟨hv, h⟩ := h
          refine am_iald d_AS_get_33 (by decide) sh_61 hv ?_
          exact am_iret d_AS_get_34 rfl rfl (by decide) (by decide) am_oI_ok
        · have h := h.2 c
          refine am_ldc (v := (-1000000 : Int32)) d_AS_get_20 aw_3_138 ?_
          exact am_iret d_AS_get_22 rfl rfl (by decide) (by decide) am_oI_ok
theorem ct_AS_get {l : Launch} {g : am_Gl} (hg : g.2.2.2.1 = true) {s : am_M} {x1 : Int32} {x2 : Int32} (h : p_AS_get s x1 x2) : AC l g m_AS_get 207 s [.ref 52, .int x1, .int x2] ((am_oI s) (f_AS_get s x1 x2)) := am_enter ok_AS_get rfl (Nat.le_of_ble_eq_true rfl) rfl (fun ad0 => w_AS_get hg h)
theorem cw_AS_joinTo_15 : am_cv m_AS_joinTo m_AS_get 171 2 := ⟨⟨ok_AS_get, rfl, by decide +kernel, by decide, by decide⟩, aw_3_134, aw_3_135, aw_3_136⟩
theorem cw_AS_joinTo_31 : am_cv m_AS_joinTo m_RO_has 141 2 := ⟨⟨ok_RO_has, rfl, by decide +kernel, by decide, by decide⟩, aw_3_115, aw_2_184, aw_2_185⟩
theorem cw_AS_joinTo_77 : am_cv m_AS_joinTo m_RO_get 147 3 := ⟨⟨ok_RO_get, rfl, by decide +kernel, by decide, by decide⟩, aw_3_116, aw_2_180, aw_2_181⟩
theorem cw_AS_joinTo_80 : am_cv m_AS_joinTo m_AS_set 151 3 := ⟨⟨ok_AS_set, rfl, by decide +kernel, by decide, by decide⟩, aw_3_117, aw_3_119, as_1_15⟩
theorem cw_AS_joinTo_98 : am_cv m_AS_joinTo m_AS_setRow 155 3 := ⟨⟨ok_AS_setRow, rfl, by decide +kernel, by decide, by decide⟩, aw_3_121, aw_3_123, as_2_0⟩
def f_AS_joinTo_89  (s : am_M) (x2 : Nat) (x1 : Int32) (x3 : Int32) (x4 : Int32) : Int32 × am_M := ((1 : Int32), (f_AS_setRow s x1 ((s x2 9) - (1 : Int32)) x3))
def p_AS_joinTo_89  (s : am_M) (x2 : Nat) (x1 : Int32) (x3 : Int32) (x4 : Int32) : Prop := (x2 < 207 ∧ am_sh x2 = (0, 4, 17)) ∧ (p_AS_setRow s x1 ((s x2 9) - (1 : Int32)) x3 ∧ (True))
set_option maxRecDepth 8000 in
theorem w_AS_joinTo_89 {l : Launch} {g : am_Gl} (hg : g.2.2.2.1 = true) {ad0 : Nat → Nat}  {s : am_M} {x2 : Nat} {x1 : Int32} {x3 : Int32} {x4 : Int32} (h : p_AS_joinTo_89  s x2 x1 x3 x4) : AW l g m_AS_joinTo 207 ad0 (am_oC (f_AS_joinTo_89  s x2 x1 x3 x4)) 0 0 207 s 89 [(0, .ref 52), (1, .int x1), (2, .ref x2), (3, .int x3), (4, .int x4)] [] := by
  refine am_aload_n (j := 0) d_AS_joinTo_89 rfl rfl ?_
  refine am_iload_n (j := 1) d_AS_joinTo_90 rfl rfl ?_
  refine am_aload_n (j := 2) d_AS_joinTo_91 rfl rfl ?_
  obtain ⟨⟨b1, t1⟩, h⟩ := h
  refine am_getI d_AS_joinTo_92 fl_AS_173 b1 t1 (by decide) rfl ?_
  refine am_iconst (v := (1 : Int32)) d_AS_joinTo_95 (by decide) ?_
  refine am_isub d_AS_joinTo_96 ?_
  refine am_iload_n (j := 3) d_AS_joinTo_97 rfl rfl ?_
  obtain ⟨hc, h⟩ := h
  refine ak_VM (as := [.int x1, .int ((s x2 9) - (1 : Int32)), .int x3]) (rest := []) d_AS_joinTo_98 cw_AS_joinTo_98 rfl rfl rfl (ct_AS_setRow hg hc) rfl rfl (by decide) sh_52 rfl (Nat.le_of_ble_eq_true rfl) (by decide) (by decide) ?_
  refine am_iconst (v := (1 : Int32)) d_AS_joinTo_101 (by decide) ?_
  exact am_iret d_AS_joinTo_102 rfl (am_bool (Or.inr rfl)).1 (by decide) (by decide) am_oC_ok
def f_AS_joinTo_45  : Nat → am_M → Nat → Int32 → Int32 → Int32 → Int32 × am_M
  | 0, s, x2, x1, x3, x4 => (0, s)
  | n + 1, s, x2, x1, x3, x4 => (if (s x2 7) ≤ x4 then (f_AS_joinTo_89 s x2 x1 x3 x4) else ((f_AS_joinTo_45  n) (f_AS_set s x1 x4 (f_RO_get s 8 (s x2 3) x3 (x4 - (s x2 8)))) x2 x1 x3 (x4 + (1 : Int32))))
def p_AS_joinTo_45  : Nat → am_M → Nat → Int32 → Int32 → Int32 → Prop
  | 0, s, x2, x1, x3, x4 => False
  | n + 1, s, x2, x1, x3, x4 => (x2 < 207 ∧ am_sh x2 = (0, 4, 17)) ∧ ((((s x2 7) ≤ x4) → (p_AS_joinTo_89 s x2 x1 x3 x4)) ∧ (¬ ((s x2 7) ≤ x4) → p_RO_get s 8 (s x2 3) x3 (x4 - (s x2 8)) ∧ (p_AS_set s x1 x4 (f_RO_get s 8 (s x2 3) x3 (x4 - (s x2 8))) ∧ (((p_AS_joinTo_45  n) (f_AS_set s x1 x4 (f_RO_get s 8 (s x2 3) x3 (x4 - (s x2 8)))) x2 x1 x3 (x4 + (1 : Int32)))))))
set_option maxRecDepth 8000 in
theorem w_AS_joinTo_45 {l : Launch} {g : am_Gl} (hg : g.2.2.2.1 = true) {ad0 : Nat → Nat}   : ∀ (n : Nat) (s : am_M) (x2 : Nat) (x1 : Int32) (x3 : Int32) (x4 : Int32), p_AS_joinTo_45  n s x2 x1 x3 x4 → AW l g m_AS_joinTo 207 ad0 (am_oC (f_AS_joinTo_45  n s x2 x1 x3 x4)) 0 0 207 s 45 [(0, .ref 52), (1, .int x1), (2, .ref x2), (3, .int x3), (4, .int x4)] [] := by
  intro n
  induction n with
  | zero => intro s x2 x1 x3 x4 h; exact h.elim
  | succ n hK45 =>
    intro s x2 x1 x3 x4 h
    refine am_iload (j := 4) d_AS_joinTo_45 rfl ?_
    refine am_aload_n (j := 2) d_AS_joinTo_47 rfl rfl ?_
    obtain ⟨⟨b1, t1⟩, h⟩ := h
    refine am_getI d_AS_joinTo_48 fl_AS_56 b1 t1 (by decide) rfl ?_
    refine aj_ge (F := am_oC) (tgt := 89) d_AS_joinTo_51 (by decide) (fun c => ?_) (fun c => ?_)
    · have h := h.1 c
      exact w_AS_joinTo_89 hg h
    · have h := h.2 c
      refine am_aload_n (j := 0) d_AS_joinTo_54 rfl rfl ?_
      refine am_iload_n (j := 1) d_AS_joinTo_55 rfl rfl ?_
      refine am_iload (j := 4) d_AS_joinTo_56 rfl ?_
      refine am_aload_n (j := 0) d_AS_joinTo_58 rfl rfl ?_
      refine am_getR (t := 1) d_AS_joinTo_59 fl_AS_41 hg (by decide) sh_52 (by decide) rfl (by decide) lk_52_0 (by decide) ?_
      refine am_getR (t := 8) d_AS_joinTo_62 fl_AS_137 hg (by decide) sh_1 (by decide) rfl (by decide) lk_1_9 (by decide) ?_
      refine am_aload_n (j := 2) d_AS_joinTo_65 rfl rfl ?_
      refine am_getI d_AS_joinTo_66 fl_AS_114 b1 t1 (by decide) rfl ?_
      refine am_iload_n (j := 3) d_AS_joinTo_69 rfl rfl ?_
      refine am_iload (j := 4) d_AS_joinTo_70 rfl ?_
      refine am_aload_n (j := 2) d_AS_joinTo_72 rfl rfl ?_
      refine am_getI d_AS_joinTo_73 fl_AS_102 b1 t1 (by decide) rfl ?_
      refine am_isub d_AS_joinTo_76 ?_
      obtain ⟨hc, h⟩ := h
      refine ak_VI (as := [.int (s x2 3), .int x3, .int (x4 - (s x2 8))]) (rest := [.int x4, .int x1, .ref 52]) d_AS_joinTo_77 cw_AS_joinTo_77 rfl rfl rfl (ct_RO_get hg hc) rfl rfl (by decide) sh_8 rfl (Nat.le_of_ble_eq_true rfl) (by decide) (by decide) ?_
      obtain ⟨hc, h⟩ := h
      refine ak_VM (as := [.int x1, .int x4, .int (f_RO_get s 8 (s x2 3) x3 (x4 - (s x2 8)))]) (rest := []) d_AS_joinTo_80 cw_AS_joinTo_80 rfl rfl rfl (ct_AS_set hg hc) rfl rfl (by decide) sh_52 rfl (Nat.le_of_ble_eq_true rfl) (by decide) (by decide) ?_
      refine am_iinc (j := 4) (v := (x4 + (1 : Int32))) (lv2 := [(4, .int (x4 + (1 : Int32))), (0, .ref 52), (1, .int x1), (2, .ref x2), (3, .int x3)]) d_AS_joinTo_83 rfl rfl (by decide) rfl ?_
      refine am_goto (tgt := 45) d_AS_joinTo_86 (by decide) ?_
      refine am_sub [1, 2, 3, 4, 0] (lv2 := [(0, .ref 52), (1, .int x1), (2, .ref x2), (3, .int x3), (4, .int (x4 + (1 : Int32)))]) rfl ?_
      exact hK45 _ _ _ _ _ h
def f_AS_joinTo  (s : am_M) (x1 : Int32) (x2 : Nat) : Int32 × am_M := (if 0 ≤ (s x2 2) then (if (f_RO_has s 8 (s x2 3) (f_AS_get s x1 (s x2 2))) = 0 then ((0 : Int32), s) else (f_AS_joinTo_45 am_F s x2 x1 (f_AS_get s x1 (s x2 2)) (s x2 8))) else ((1 : Int32), s))
def p_AS_joinTo  (s : am_M) (x1 : Int32) (x2 : Nat) : Prop := (x2 < 207 ∧ am_sh x2 = (0, 4, 17)) ∧ (((0 ≤ (s x2 2)) → p_AS_get s x1 (s x2 2) ∧ (p_RO_has s 8 (s x2 3) (f_AS_get s x1 (s x2 2)) ∧ ((((f_RO_has s 8 (s x2 3) (f_AS_get s x1 (s x2 2))) = 0) → True) ∧ (¬ ((f_RO_has s 8 (s x2 3) (f_AS_get s x1 (s x2 2))) = 0) → (p_AS_joinTo_45 am_F s x2 x1 (f_AS_get s x1 (s x2 2)) (s x2 8)))))) ∧ (¬ (0 ≤ (s x2 2)) → True))
set_option maxRecDepth 8000 in
theorem w_AS_joinTo {l : Launch} {g : am_Gl} (hg : g.2.2.2.1 = true) {ad0 : Nat → Nat} {s : am_M} {x1 : Int32} {x2 : Nat} (h : p_AS_joinTo s x1 x2) : AW l g m_AS_joinTo 207 ad0 (am_oC (f_AS_joinTo s x1 x2)) 0 0 207 s 0 [(0, .ref 52), (1, .int x1), (2, .ref x2)] [] := by
  refine am_aload_n (j := 2) d_AS_joinTo_0 rfl rfl ?_
  obtain ⟨⟨b1, t1⟩, h⟩ := h
  refine am_getI d_AS_joinTo_1 fl_AS_74 b1 t1 (by decide) rfl ?_
  refine ai_ge (F := am_oC) (tgt := 9) d_AS_joinTo_4 (by decide) (fun c => ?_) (fun c => ?_)
  · have h := h.1 c
    refine am_aload_n (j := 0) d_AS_joinTo_9 rfl rfl ?_
    refine am_iload_n (j := 1) d_AS_joinTo_10 rfl rfl ?_
    refine am_aload_n (j := 2) d_AS_joinTo_11 rfl rfl ?_
    refine am_getI d_AS_joinTo_12 fl_AS_74 b1 t1 (by decide) rfl ?_
    obtain ⟨hc, h⟩ := h
    refine ak_VI (as := [.int x1, .int (s x2 2)]) (rest := []) d_AS_joinTo_15 cw_AS_joinTo_15 rfl rfl rfl (ct_AS_get hg hc) rfl rfl (by decide) sh_52 rfl (Nat.le_of_ble_eq_true rfl) (by decide) (by decide) ?_
    refine am_istore_n (lv2 := [(3, .int (f_AS_get s x1 (s x2 2))), (0, .ref 52), (1, .int x1), (2, .ref x2)]) d_AS_joinTo_18 rfl (by decide) rfl ?_
    refine am_aload_n (j := 1) d_AS_joinTo_19 rfl rfl ?_
    refine am_getR (t := 1) d_AS_joinTo_20 fl_AS_41 hg (by decide) sh_52 (by decide) rfl (by decide) lk_52_0 (by decide) ?_
    refine am_getR (t := 8) d_AS_joinTo_23 fl_AS_137 hg (by decide) sh_1 (by decide) rfl (by decide) lk_1_9 (by decide) ?_
    refine am_aload_n (j := 3) d_AS_joinTo_26 rfl rfl ?_
    refine am_getI d_AS_joinTo_27 fl_AS_114 b1 t1 (by decide) rfl ?_
    refine am_iload_n (j := 0) d_AS_joinTo_30 rfl rfl ?_
    obtain ⟨hc, h⟩ := h
    refine ak_VI (as := [.int (s x2 3), .int (f_AS_get s x1 (s x2 2))]) (rest := []) d_AS_joinTo_31 cw_AS_joinTo_31 rfl rfl rfl (ct_RO_has hg hc) rfl rfl (by decide) sh_8 rfl (Nat.le_of_ble_eq_true rfl) (by decide) (by decide) ?_
    refine ai_ne (F := am_oC) (tgt := 39) d_AS_joinTo_34 (by decide) (fun c => ?_) (fun c => ?_)
    · have h := h.2 c
      refine am_aload_n (j := 3) d_AS_joinTo_39 rfl rfl ?_
      refine am_getI d_AS_joinTo_40 fl_AS_102 b1 t1 (by decide) rfl ?_
      refine am_istore (lv2 := [(4, .int (s x2 8)), (3, .int (f_AS_get s x1 (s x2 2))), (0, .ref 52), (1, .int x1), (2, .ref x2)]) d_AS_joinTo_43 (by decide) rfl ?_
      refine am_sub [2, 3, 4, 1, 0] (lv2 := [(0, .ref 52), (1, .int x1), (2, .ref x2), (3, .int (f_AS_get s x1 (s x2 2))), (4, .int (s x2 8))]) rfl ?_
      exact w_AS_joinTo_45 hg am_F _ _ _ _ _ h
    · have h := h.1 c
      refine am_iconst (v := (0 : Int32)) d_AS_joinTo_37 (by decide) ?_
      exact am_iret d_AS_joinTo_38 rfl (am_bool (Or.inl rfl)).1 (by decide) (by decide) am_oC_ok
  · have h := h.2 c
    refine am_iconst (v := (1 : Int32)) d_AS_joinTo_7 (by decide) ?_
    exact am_iret d_AS_joinTo_8 rfl (am_bool (Or.inr rfl)).1 (by decide) (by decide) am_oC_ok
theorem ct_AS_joinTo {l : Launch} {g : am_Gl} (hg : g.2.2.2.1 = true) {s : am_M} {x1 : Int32} {x2 : Nat} (h : p_AS_joinTo s x1 x2) : AC l g m_AS_joinTo 207 s [.ref 52, .int x1, .ref x2] (am_oC (f_AS_joinTo s x1 x2)) := am_enter ok_AS_joinTo rfl (Nat.le_of_ble_eq_true rfl) rfl (fun ad0 => w_AS_joinTo hg h)
theorem cw_AS_lineHolds_52 : am_cv m_AS_lineHolds m_AS_get 171 2 := ⟨⟨ok_AS_get, rfl, by decide +kernel, by decide, by decide⟩, aw_3_134, aw_3_135, aw_3_136⟩
theorem cw_AS_lineHolds_62 : am_cs m_AS_lineHolds m_QU_meets 195 3 := ⟨⟨ok_QU_meets, rfl, by decide +kernel, by decide, by decide⟩, aw_3_147, aw_3_148⟩
def f_AS_lineHolds_70 (K6 : Nat → Int32 → Int32 → Int32 → Int32 → Int32) (s : am_M) (x2 : Nat) (x1 : Int32) (x3 : Int32) (x4 : Int32) (x5 : Int32) : Int32 := (K6 x2 x1 x3 x4 (x5 + (1 : Int32)))
def p_AS_lineHolds_70 (KP6 : Nat → Int32 → Int32 → Int32 → Int32 → Prop) (s : am_M) (x2 : Nat) (x1 : Int32) (x3 : Int32) (x4 : Int32) (x5 : Int32) : Prop := (KP6 x2 x1 x3 x4 (x5 + (1 : Int32)))
set_option maxRecDepth 8000 in
theorem w_AS_lineHolds_70 {l : Launch} {g : am_Gl} (hg : g.2.2.2.1 = true) {ad0 : Nat → Nat} {s : am_M} {K6 : Nat → Int32 → Int32 → Int32 → Int32 → Int32} {KP6 : Nat → Int32 → Int32 → Int32 → Int32 → Prop} (hK6 : ∀ (x2 : Nat) (x1 : Int32) (x3 : Int32) (x4 : Int32) (x5 : Int32), KP6 x2 x1 x3 x4 x5 → AW l g m_AS_lineHolds 207 ad0 ((am_oI s) (K6 x2 x1 x3 x4 x5)) 0 0 207 s 6 [(0, .ref 52), (1, .int x1), (2, .ref x2), (3, .int x3), (4, .int x4), (5, .int x5)] []) {x2 : Nat} {x1 : Int32} {x3 : Int32} {x4 : Int32} {x5 : Int32} (h : p_AS_lineHolds_70 KP6 s x2 x1 x3 x4 x5) : AW l g m_AS_lineHolds 207 ad0 ((am_oI s) (f_AS_lineHolds_70 K6 s x2 x1 x3 x4 x5)) 0 0 207 s 70 [(0, .ref 52), (1, .int x1), (2, .ref x2), (3, .int x3), (4, .int x4), (5, .int x5)] [] := by
  refine am_iinc (j := 5) (v := (x5 + (1 : Int32))) (lv2 := [(5, .int (x5 + (1 : Int32))), (0, .ref 52), (1, .int x1), (2, .ref x2), (3, .int x3), (4, .int x4)]) d_AS_lineHolds_70 rfl rfl (by decide) rfl ?_
  refine am_goto (tgt := 6) d_AS_lineHolds_73 (by decide) ?_
  refine am_sub [1, 2, 3, 4, 5, 0] (lv2 := [(0, .ref 52), (1, .int x1), (2, .ref x2), (3, .int x3), (4, .int x4), (5, .int (x5 + (1 : Int32)))]) rfl ?_
  exact hK6 _ _ _ _ _ h
def f_AS_lineHolds_6  : Nat → am_M → Nat → Int32 → Int32 → Int32 → Int32 → Int32
  | 0, s, x2, x1, x3, x4, x5 => 0
  | n + 1, s, x2, x1, x3, x4, x5 => (if (s x2 12) ≤ x5 then x4 else (if (6 : Int32) ≤ x5 then x4 else (if (s (am_lk x2 13) (x5).toNatClampNeg) = x3 then (if (f_QU_meets s (s (am_lk x2 15) (x5).toNatClampNeg) (f_AS_get s x1 (s (am_lk x2 14) (x5).toNatClampNeg)) (s (am_lk x2 16) (x5).toNatClampNeg)) = 0 then (0 : Int32) else (f_AS_lineHolds_70 (f_AS_lineHolds_6  n s) s x2 x1 x3 (1 : Int32) x5)) else (f_AS_lineHolds_70 (f_AS_lineHolds_6  n s) s x2 x1 x3 x4 x5))))
def p_AS_lineHolds_6  : Nat → am_M → Nat → Int32 → Int32 → Int32 → Int32 → Prop
  | 0, s, x2, x1, x3, x4, x5 => False
  | n + 1, s, x2, x1, x3, x4, x5 => (x2 < 207 ∧ am_sh x2 = (0, 4, 17)) ∧ ((((s x2 12) ≤ x5) → (x4 = 0 ∨ x4 = 1) ∧ (True)) ∧ (¬ ((s x2 12) ≤ x5) → (((6 : Int32) ≤ x5) → (x4 = 0 ∨ x4 = 1) ∧ (True)) ∧ (¬ ((6 : Int32) ≤ x5) → ((am_lk x2 13) < 207 ∧ am_sh (am_lk x2 13) = (1, 0, 6)) ∧ (vp_in x5 6 ∧ ((((s (am_lk x2 13) (x5).toNatClampNeg) = x3) → ((am_lk x2 15) < 207 ∧ am_sh (am_lk x2 15) = (1, 0, 6)) ∧ (vp_in x5 6 ∧ (((am_lk x2 14) < 207 ∧ am_sh (am_lk x2 14) = (1, 0, 6)) ∧ (vp_in x5 6 ∧ (p_AS_get s x1 (s (am_lk x2 14) (x5).toNatClampNeg) ∧ (((am_lk x2 16) < 207 ∧ am_sh (am_lk x2 16) = (1, 0, 6)) ∧ (vp_in x5 6 ∧ ((((f_QU_meets s (s (am_lk x2 15) (x5).toNatClampNeg) (f_AS_get s x1 (s (am_lk x2 14) (x5).toNatClampNeg)) (s (am_lk x2 16) (x5).toNatClampNeg)) = 0) → True) ∧ (¬ ((f_QU_meets s (s (am_lk x2 15) (x5).toNatClampNeg) (f_AS_get s x1 (s (am_lk x2 14) (x5).toNatClampNeg)) (s (am_lk x2 16) (x5).toNatClampNeg)) = 0) → (p_AS_lineHolds_70 (p_AS_lineHolds_6  n s) s x2 x1 x3 (1 : Int32) x5)))))))))) ∧ (¬ ((s (am_lk x2 13) (x5).toNatClampNeg) = x3) → (p_AS_lineHolds_70 (p_AS_lineHolds_6  n s) s x2 x1 x3 x4 x5)))))))
set_option maxRecDepth 8000 in
theorem w_AS_lineHolds_6 {l : Launch} {g : am_Gl} (hg : g.2.2.2.1 = true) {ad0 : Nat → Nat} {s : am_M}   : ∀ (n : Nat) (x2 : Nat) (x1 : Int32) (x3 : Int32) (x4 : Int32) (x5 : Int32), p_AS_lineHolds_6  n s x2 x1 x3 x4 x5 → AW l g m_AS_lineHolds 207 ad0 ((am_oI s) (f_AS_lineHolds_6  n s x2 x1 x3 x4 x5)) 0 0 207 s 6 [(0, .ref 52), (1, .int x1), (2, .ref x2), (3, .int x3), (4, .int x4), (5, .int x5)] [] := by
  intro n
  induction n with
  | zero => intro x2 x1 x3 x4 x5 h; exact h.elim
  | succ n hK6 =>
    intro x2 x1 x3 x4 x5 h
    refine am_iload (j := 5) d_AS_lineHolds_6 rfl ?_
    refine am_aload_n (j := 2) d_AS_lineHolds_8 rfl rfl ?_
    obtain ⟨⟨b1, t1⟩, h⟩ := h
    refine am_getI d_AS_lineHolds_9 fl_AS_176 b1 t1 (by decide) rfl ?_
    refine aj_ge (F := (am_oI s)) (tgt := 76) d_AS_lineHolds_12 (by decide) (fun c => ?_) (fun c => ?_)
    · have h := h.1 c
      refine am_iload (j := 4) d_AS_lineHolds_76 rfl ?_
      obtain ⟨hz, h⟩ := h
      exact am_iret d_AS_lineHolds_78 rfl (am_bool hz).1 (by decide) (by decide) am_oI_ok
    · have h := h.2 c
      refine am_iload (j := 5) d_AS_lineHolds_15 rfl ?_
      refine am_bipush (v := (6 : Int32)) d_AS_lineHolds_17 (by decide) ?_
      refine aj_ge (F := (am_oI s)) (tgt := 76) d_AS_lineHolds_19 (by decide) (fun c => ?_) (fun c => ?_)
      · have h := h.1 c
        refine am_iload (j := 4) d_AS_lineHolds_76 rfl ?_
        obtain ⟨hz, h⟩ := h
        exact am_iret d_AS_lineHolds_78 rfl (am_bool hz).1 (by decide) (by decide) am_oI_ok
      · have h := h.2 c
        refine am_aload_n (j := 2) d_AS_lineHolds_22 rfl rfl ?_
        obtain ⟨⟨b2, t2⟩, h⟩ := h
        refine am_getR (t := (am_lk x2 13)) d_AS_lineHolds_23 fl_AS_183 hg b1 t1 (by decide) rfl (am_ne0 t1) rfl b2 ?_
        refine am_iload (j := 5) d_AS_lineHolds_26 rfl ?_
        obtain ⟨hv, h⟩ := h
        refine am_iald d_AS_lineHolds_28 b2 t2 hv ?_
        refine am_iload_n (j := 3) d_AS_lineHolds_29 rfl rfl ?_
        refine aj_ne (F := (am_oI s)) (tgt := 70) d_AS_lineHolds_30 (by decide) (fun c => ?_) (fun c => ?_)
        · have h := h.2 c
          exact w_AS_lineHolds_70 hg hK6 h
        · have h := h.1 c
          refine am_iconst (v := (1 : Int32)) d_AS_lineHolds_33 (by decide) ?_
          refine am_istore (lv2 := [(4, .int (1 : Int32)), (0, .ref 52), (1, .int x1), (2, .ref x2), (3, .int x3), (5, .int x5)]) d_AS_lineHolds_34 (by decide) rfl ?_
          refine am_aload_n (j := 3) d_AS_lineHolds_36 rfl rfl ?_
          obtain ⟨⟨b3, t3⟩, h⟩ := h
          refine am_getR (t := (am_lk x2 15)) d_AS_lineHolds_37 fl_AS_186 hg b1 t1 (by decide) rfl (am_ne0 t1) rfl b3 ?_
          refine am_iload (j := 5) d_AS_lineHolds_40 rfl ?_
          obtain ⟨hv, h⟩ := h
          refine am_iald d_AS_lineHolds_42 b3 t3 hv ?_
          refine am_aload_n (j := 1) d_AS_lineHolds_43 rfl rfl ?_
          refine am_iload_n (j := 2) d_AS_lineHolds_44 rfl rfl ?_
          refine am_aload_n (j := 3) d_AS_lineHolds_45 rfl rfl ?_
          obtain ⟨⟨b4, t4⟩, h⟩ := h
          refine am_getR (t := (am_lk x2 14)) d_AS_lineHolds_46 fl_AS_189 hg b1 t1 (by decide) rfl (am_ne0 t1) rfl b4 ?_
          refine am_iload (j := 5) d_AS_lineHolds_49 rfl ?_
          obtain ⟨hv, h⟩ := h
          refine am_iald d_AS_lineHolds_51 b4 t4 hv ?_
          obtain ⟨hc, h⟩ := h
          refine ak_VI (as := [.int x1, .int (s (am_lk x2 14) (x5).toNatClampNeg)]) (rest := [.int (s (am_lk x2 15) (x5).toNatClampNeg)]) d_AS_lineHolds_52 cw_AS_lineHolds_52 rfl rfl rfl (ct_AS_get hg hc) rfl rfl (by decide) sh_52 rfl (Nat.le_of_ble_eq_true rfl) (by decide) (by decide) ?_
          refine am_aload_n (j := 3) d_AS_lineHolds_55 rfl rfl ?_
          obtain ⟨⟨b5, t5⟩, h⟩ := h
          refine am_getR (t := (am_lk x2 16)) d_AS_lineHolds_56 fl_AS_192 hg b1 t1 (by decide) rfl (am_ne0 t1) rfl b5 ?_
          refine am_iload (j := 5) d_AS_lineHolds_59 rfl ?_
          obtain ⟨hv, h⟩ := h
          refine am_iald d_AS_lineHolds_61 b5 t5 hv ?_
          refine ak_SI (as := [.int (s (am_lk x2 15) (x5).toNatClampNeg), .int (f_AS_get s x1 (s (am_lk x2 14) (x5).toNatClampNeg)), .int (s (am_lk x2 16) (x5).toNatClampNeg)]) (rest := []) d_AS_lineHolds_62 cw_AS_lineHolds_62 rfl rfl rfl (ct_QU_meets hg) rfl rfl (Nat.le_of_ble_eq_true rfl) (by decide) (by decide) ?_
          refine ai_ne (F := (am_oI s)) (tgt := 70) d_AS_lineHolds_65 (by decide) (fun c => ?_) (fun c => ?_)
          · have h := h.2 c
            refine am_sub [1, 2, 3, 4, 0, 5] (lv2 := [(0, .ref 52), (1, .int x1), (2, .ref x2), (3, .int x3), (4, .int (1 : Int32)), (5, .int x5)]) rfl ?_
            exact w_AS_lineHolds_70 hg hK6 h
          · have h := h.1 c
            refine am_iconst (v := (0 : Int32)) d_AS_lineHolds_68 (by decide) ?_
            exact am_iret d_AS_lineHolds_69 rfl (am_bool (Or.inl rfl)).1 (by decide) (by decide) am_oI_ok
def f_AS_lineHolds  (s : am_M) (x1 : Int32) (x2 : Nat) (x3 : Int32) : Int32 := (f_AS_lineHolds_6 am_F s x2 x1 x3 (0 : Int32) (0 : Int32))
def p_AS_lineHolds  (s : am_M) (x1 : Int32) (x2 : Nat) (x3 : Int32) : Prop := (p_AS_lineHolds_6 am_F s x2 x1 x3 (0 : Int32) (0 : Int32))
set_option maxRecDepth 8000 in
theorem w_AS_lineHolds {l : Launch} {g : am_Gl} (hg : g.2.2.2.1 = true) {ad0 : Nat → Nat} {s : am_M} {x1 : Int32} {x2 : Nat} {x3 : Int32} (h : p_AS_lineHolds s x1 x2 x3) : AW l g m_AS_lineHolds 207 ad0 ((am_oI s) (f_AS_lineHolds s x1 x2 x3)) 0 0 207 s 0 [(0, .ref 52), (1, .int x1), (2, .ref x2), (3, .int x3)] [] := by
  refine am_iconst (v := (0 : Int32)) d_AS_lineHolds_0 (by decide) ?_
  refine am_istore (lv2 := [(4, .int (0 : Int32)), (0, .ref 52), (1, .int x1), (2, .ref x2), (3, .int x3)]) d_AS_lineHolds_1 (by decide) rfl ?_
  refine am_iconst (v := (0 : Int32)) d_AS_lineHolds_3 (by decide) ?_
  refine am_istore (lv2 := [(5, .int (0 : Int32)), (4, .int (0 : Int32)), (0, .ref 52), (1, .int x1), (2, .ref x2), (3, .int x3)]) d_AS_lineHolds_4 (by decide) rfl ?_
  refine am_sub [2, 3, 4, 5, 1, 0] (lv2 := [(0, .ref 52), (1, .int x1), (2, .ref x2), (3, .int x3), (4, .int (0 : Int32)), (5, .int (0 : Int32))]) rfl ?_
  exact w_AS_lineHolds_6 hg am_F _ _ _ _ _ h
theorem ct_AS_lineHolds {l : Launch} {g : am_Gl} (hg : g.2.2.2.1 = true) {s : am_M} {x1 : Int32} {x2 : Nat} {x3 : Int32} (h : p_AS_lineHolds s x1 x2 x3) : AC l g m_AS_lineHolds 207 s [.ref 52, .int x1, .ref x2, .int x3] ((am_oI s) (f_AS_lineHolds s x1 x2 x3)) := am_enter ok_AS_lineHolds rfl (Nat.le_of_ble_eq_true rfl) rfl (fun ad0 => w_AS_lineHolds hg h)
theorem cw_AS_counts_20 : am_cv m_AS_counts m_AS_lineHolds 179 3 := ⟨⟨ok_AS_lineHolds, rfl, by decide +kernel, by decide, by decide⟩, aw_3_143, aw_3_145, as_2_4⟩
def f_AS_counts_11  : Nat → am_M → Nat → Int32 → Int32 → Int32
  | 0, s, x2, x1, x3 => 0
  | n + 1, s, x2, x1, x3 => (if (3 : Int32) ≤ x3 then (0 : Int32) else (if (f_AS_lineHolds s x1 x2 x3) = 0 then ((f_AS_counts_11  n s) x2 x1 (x3 + (1 : Int32))) else (1 : Int32)))
def p_AS_counts_11  : Nat → am_M → Nat → Int32 → Int32 → Prop
  | 0, s, x2, x1, x3 => False
  | n + 1, s, x2, x1, x3 => (((3 : Int32) ≤ x3) → True) ∧ (¬ ((3 : Int32) ≤ x3) → p_AS_lineHolds s x1 x2 x3 ∧ ((((f_AS_lineHolds s x1 x2 x3) = 0) → ((p_AS_counts_11  n s) x2 x1 (x3 + (1 : Int32)))) ∧ (¬ ((f_AS_lineHolds s x1 x2 x3) = 0) → True)))
set_option maxRecDepth 8000 in
theorem w_AS_counts_11 {l : Launch} {g : am_Gl} (hg : g.2.2.2.1 = true) {ad0 : Nat → Nat} {s : am_M}   : ∀ (n : Nat) (x2 : Nat) (x1 : Int32) (x3 : Int32), p_AS_counts_11  n s x2 x1 x3 → AW l g m_AS_counts 207 ad0 ((am_oI s) (f_AS_counts_11  n s x2 x1 x3)) 0 0 207 s 11 [(0, .ref 52), (1, .int x1), (2, .ref x2), (3, .int x3)] [] := by
  intro n
  induction n with
  | zero => intro x2 x1 x3 h; exact h.elim
  | succ n hK11 =>
    intro x2 x1 x3 h
    refine am_iload_n (j := 3) d_AS_counts_11 rfl rfl ?_
    refine am_iconst (v := (3 : Int32)) d_AS_counts_12 (by decide) ?_
    refine aj_ge (F := (am_oI s)) (tgt := 34) d_AS_counts_13 (by decide) (fun c => ?_) (fun c => ?_)
    · have h := h.1 c
      refine am_iconst (v := (0 : Int32)) d_AS_counts_34 (by decide) ?_
      exact am_iret d_AS_counts_35 rfl (am_bool (Or.inl rfl)).1 (by decide) (by decide) am_oI_ok
    · have h := h.2 c
      refine am_aload_n (j := 0) d_AS_counts_16 rfl rfl ?_
      refine am_iload_n (j := 1) d_AS_counts_17 rfl rfl ?_
      refine am_aload_n (j := 2) d_AS_counts_18 rfl rfl ?_
      refine am_iload_n (j := 3) d_AS_counts_19 rfl rfl ?_
      obtain ⟨hc, h⟩ := h
      refine ak_VI (as := [.int x1, .ref x2, .int x3]) (rest := []) d_AS_counts_20 cw_AS_counts_20 rfl rfl rfl (ct_AS_lineHolds hg hc) rfl rfl (by decide) sh_52 rfl (Nat.le_of_ble_eq_true rfl) (by decide) (by decide) ?_
      refine ai_eq (F := (am_oI s)) (tgt := 28) d_AS_counts_23 (by decide) (fun c => ?_) (fun c => ?_)
      · have h := h.1 c
        refine am_iinc (j := 3) (v := (x3 + (1 : Int32))) (lv2 := [(3, .int (x3 + (1 : Int32))), (0, .ref 52), (1, .int x1), (2, .ref x2)]) d_AS_counts_28 rfl rfl (by decide) rfl ?_
        refine am_goto (tgt := 11) d_AS_counts_31 (by decide) ?_
        refine am_sub [1, 2, 3, 0] (lv2 := [(0, .ref 52), (1, .int x1), (2, .ref x2), (3, .int (x3 + (1 : Int32)))]) rfl ?_
        exact hK11 _ _ _ h
      · have h := h.2 c
        refine am_iconst (v := (1 : Int32)) d_AS_counts_26 (by decide) ?_
        exact am_iret d_AS_counts_27 rfl (am_bool (Or.inr rfl)).1 (by decide) (by decide) am_oI_ok
def f_AS_counts  (s : am_M) (x1 : Int32) (x2 : Nat) : Int32 := (if (s x2 12) = 0 then (1 : Int32) else (f_AS_counts_11 am_F s x2 x1 (0 : Int32)))
def p_AS_counts  (s : am_M) (x1 : Int32) (x2 : Nat) : Prop := (x2 < 207 ∧ am_sh x2 = (0, 4, 17)) ∧ ((((s x2 12) = 0) → True) ∧ (¬ ((s x2 12) = 0) → (p_AS_counts_11 am_F s x2 x1 (0 : Int32))))
set_option maxRecDepth 8000 in
theorem w_AS_counts {l : Launch} {g : am_Gl} (hg : g.2.2.2.1 = true) {ad0 : Nat → Nat} {s : am_M} {x1 : Int32} {x2 : Nat} (h : p_AS_counts s x1 x2) : AW l g m_AS_counts 207 ad0 ((am_oI s) (f_AS_counts s x1 x2)) 0 0 207 s 0 [(0, .ref 52), (1, .int x1), (2, .ref x2)] [] := by
  refine am_aload_n (j := 2) d_AS_counts_0 rfl rfl ?_
  obtain ⟨⟨b1, t1⟩, h⟩ := h
  refine am_getI d_AS_counts_1 fl_AS_176 b1 t1 (by decide) rfl ?_
  refine ai_ne (F := (am_oI s)) (tgt := 9) d_AS_counts_4 (by decide) (fun c => ?_) (fun c => ?_)
  · have h := h.2 c
    refine am_iconst (v := (0 : Int32)) d_AS_counts_9 (by decide) ?_
    refine am_istore_n (lv2 := [(3, .int (0 : Int32)), (0, .ref 52), (1, .int x1), (2, .ref x2)]) d_AS_counts_10 rfl (by decide) rfl ?_
    refine am_sub [1, 2, 3, 0] (lv2 := [(0, .ref 52), (1, .int x1), (2, .ref x2), (3, .int (0 : Int32))]) rfl ?_
    exact w_AS_counts_11 hg am_F _ _ _ h
  · have h := h.1 c
    refine am_iconst (v := (1 : Int32)) d_AS_counts_7 (by decide) ?_
    exact am_iret d_AS_counts_8 rfl (am_bool (Or.inr rfl)).1 (by decide) (by decide) am_oI_ok
theorem ct_AS_counts {l : Launch} {g : am_Gl} (hg : g.2.2.2.1 = true) {s : am_M} {x1 : Int32} {x2 : Nat} (h : p_AS_counts s x1 x2) : AC l g m_AS_counts 207 s [.ref 52, .int x1, .ref x2] ((am_oI s) (f_AS_counts s x1 x2)) := am_enter ok_AS_counts rfl (Nat.le_of_ble_eq_true rfl) rfl (fun ad0 => w_AS_counts hg h)
theorem cw_AS_findPlain_68 : am_cv m_AS_findPlain m_AS_joinTo 164 2 := ⟨⟨ok_AS_joinTo, rfl, by decide +kernel, by decide, by decide⟩, aw_3_130, aw_3_132, as_2_2⟩
theorem cw_AS_findPlain_77 : am_cv m_AS_findPlain m_AS_counts 168 2 := ⟨⟨ok_AS_counts, rfl, by decide +kernel, by decide, by decide⟩, aw_3_139, aw_3_141, as_2_3⟩
def f_AS_findPlain_86 (K4 : am_M → Nat → Int32 → Int32 → am_M) (s : am_M) (x1 : Nat) (x2 : Int32) (x3 : Int32) : am_M := (K4 s x1 x2 (x3 + (1 : Int32)))
def p_AS_findPlain_86 (KP4 : am_M → Nat → Int32 → Int32 → Prop) (s : am_M) (x1 : Nat) (x2 : Int32) (x3 : Int32) : Prop := (KP4 s x1 x2 (x3 + (1 : Int32)))
set_option maxRecDepth 8000 in
theorem w_AS_findPlain_86 {l : Launch} {g : am_Gl} (hg : g.2.2.2.1 = true) {ad0 : Nat → Nat} {K4 : am_M → Nat → Int32 → Int32 → am_M} {KP4 : am_M → Nat → Int32 → Int32 → Prop} (hK4 : ∀ (s : am_M) (x1 : Nat) (x2 : Int32) (x3 : Int32), KP4 s x1 x2 x3 → AW l g m_AS_findPlain 207 ad0 (am_oM (K4 s x1 x2 x3)) 0 0 207 s 4 [(0, .ref 52), (1, .ref x1), (2, .int x2), (3, .int x3)] []) {s : am_M} {x1 : Nat} {x2 : Int32} {x3 : Int32} (h : p_AS_findPlain_86 KP4 s x1 x2 x3) : AW l g m_AS_findPlain 207 ad0 (am_oM (f_AS_findPlain_86 K4 s x1 x2 x3)) 0 0 207 s 86 [(0, .ref 52), (1, .ref x1), (2, .int x2), (3, .int x3)] [] := by
  refine am_iinc (j := 3) (v := (x3 + (1 : Int32))) (lv2 := [(3, .int (x3 + (1 : Int32))), (0, .ref 52), (1, .ref x1), (2, .int x2)]) d_AS_findPlain_86 rfl rfl (by decide) rfl ?_
  refine am_goto (tgt := 4) d_AS_findPlain_89 (by decide) ?_
  refine am_sub [1, 2, 3, 0] (lv2 := [(0, .ref 52), (1, .ref x1), (2, .int x2), (3, .int (x3 + (1 : Int32)))]) rfl ?_
  exact hK4 _ _ _ _ h
def f_AS_findPlain_65 (K4 : am_M → Nat → Int32 → Int32 → am_M) (s : am_M) (x1 : Nat) (x2 : Int32) (x3 : Int32) : am_M := (if (f_AS_joinTo s x2 x1).1 = 0 then (f_AS_findPlain_86 K4 (f_AS_joinTo s x2 x1).2 x1 x2 x3) else (if (f_AS_counts (f_AS_joinTo s x2 x1).2 x2 x1) = 0 then (f_AS_findPlain_86 K4 (f_AS_joinTo s x2 x1).2 x1 x2 x3) else (f_AS_findPlain_86 K4 (f_AS_joinTo s x2 x1).2 x1 (x2 + (1 : Int32)) x3)))
def p_AS_findPlain_65 (KP4 : am_M → Nat → Int32 → Int32 → Prop) (s : am_M) (x1 : Nat) (x2 : Int32) (x3 : Int32) : Prop := p_AS_joinTo s x2 x1 ∧ ((((f_AS_joinTo s x2 x1).1 = 0) → (p_AS_findPlain_86 KP4 (f_AS_joinTo s x2 x1).2 x1 x2 x3)) ∧ (¬ ((f_AS_joinTo s x2 x1).1 = 0) → p_AS_counts (f_AS_joinTo s x2 x1).2 x2 x1 ∧ ((((f_AS_counts (f_AS_joinTo s x2 x1).2 x2 x1) = 0) → (p_AS_findPlain_86 KP4 (f_AS_joinTo s x2 x1).2 x1 x2 x3)) ∧ (¬ ((f_AS_counts (f_AS_joinTo s x2 x1).2 x2 x1) = 0) → (p_AS_findPlain_86 KP4 (f_AS_joinTo s x2 x1).2 x1 (x2 + (1 : Int32)) x3)))))
set_option maxRecDepth 8000 in
theorem w_AS_findPlain_65 {l : Launch} {g : am_Gl} (hg : g.2.2.2.1 = true) {ad0 : Nat → Nat} {K4 : am_M → Nat → Int32 → Int32 → am_M} {KP4 : am_M → Nat → Int32 → Int32 → Prop} (hK4 : ∀ (s : am_M) (x1 : Nat) (x2 : Int32) (x3 : Int32), KP4 s x1 x2 x3 → AW l g m_AS_findPlain 207 ad0 (am_oM (K4 s x1 x2 x3)) 0 0 207 s 4 [(0, .ref 52), (1, .ref x1), (2, .int x2), (3, .int x3)] []) {s : am_M} {x1 : Nat} {x2 : Int32} {x3 : Int32} (h : p_AS_findPlain_65 KP4 s x1 x2 x3) : AW l g m_AS_findPlain 207 ad0 (am_oM (f_AS_findPlain_65 K4 s x1 x2 x3)) 0 0 207 s 65 [(0, .ref 52), (1, .ref x1), (2, .int x2), (3, .int x3)] [] := by
  refine am_aload_n (j := 0) d_AS_findPlain_65 rfl rfl ?_
  refine am_iload_n (j := 2) d_AS_findPlain_66 rfl rfl ?_
  refine am_aload_n (j := 1) d_AS_findPlain_67 rfl rfl ?_
  obtain ⟨hc, h⟩ := h
  refine ak_VC (as := [.int x2, .ref x1]) (rest := []) d_AS_findPlain_68 cw_AS_findPlain_68 rfl rfl rfl (ct_AS_joinTo hg hc) rfl rfl (by decide) sh_52 rfl (Nat.le_of_ble_eq_true rfl) (by decide) (by decide) ?_
  refine ai_eq (F := am_oM) (tgt := 86) d_AS_findPlain_71 (by decide) (fun c => ?_) (fun c => ?_)
  · have h := h.1 c
    exact w_AS_findPlain_86 hg hK4 h
  · have h := h.2 c
    refine am_aload_n (j := 0) d_AS_findPlain_74 rfl rfl ?_
    refine am_iload_n (j := 2) d_AS_findPlain_75 rfl rfl ?_
    refine am_aload_n (j := 1) d_AS_findPlain_76 rfl rfl ?_
    obtain ⟨hc, h⟩ := h
    refine ak_VI (as := [.int x2, .ref x1]) (rest := []) d_AS_findPlain_77 cw_AS_findPlain_77 rfl rfl rfl (ct_AS_counts hg hc) rfl rfl (by decide) sh_52 rfl (Nat.le_of_ble_eq_true rfl) (by decide) (by decide) ?_
    refine ai_eq (F := am_oM) (tgt := 86) d_AS_findPlain_80 (by decide) (fun c => ?_) (fun c => ?_)
    · have h := h.1 c
      exact w_AS_findPlain_86 hg hK4 h
    · have h := h.2 c
      refine am_iinc (j := 2) (v := (x2 + (1 : Int32))) (lv2 := [(2, .int (x2 + (1 : Int32))), (0, .ref 52), (1, .ref x1), (3, .int x3)]) d_AS_findPlain_83 rfl rfl (by decide) rfl ?_
      refine am_sub [1, 2, 0, 3] (lv2 := [(0, .ref 52), (1, .ref x1), (2, .int (x2 + (1 : Int32))), (3, .int x3)]) rfl ?_
      exact w_AS_findPlain_86 hg hK4 h
def f_AS_findPlain_4  : Nat → am_M → Nat → Int32 → Int32 → am_M
  | 0, s, x1, x2, x3 => s
  | n + 1, s, x1, x2, x3 => (if (s 52 4) ≤ x3 then (am_set (am_set s 52 4 x2) 52 5 ((am_set s 52 4 x2) x1 7)) else (if (30 : Int32) ≤ x3 then (am_set (am_set s 52 4 x2) 52 5 ((am_set s 52 4 x2) x1 7)) else (if x3 ≤ x2 then (f_AS_findPlain_65 (f_AS_findPlain_4  n) s x1 x2 x3) else (f_AS_findPlain_65 (f_AS_findPlain_4  n) (am_put (am_put s 61 (va_cpy (s 61) (s 61) ((x3 * (54 : Int32))).toNatClampNeg ((x2 * (54 : Int32))).toNatClampNeg ((54 : Int32)).toNatClampNeg)) 62 (va_cpy ((am_put s 61 (va_cpy (s 61) (s 61) ((x3 * (54 : Int32))).toNatClampNeg ((x2 * (54 : Int32))).toNatClampNeg ((54 : Int32)).toNatClampNeg)) 62) ((am_put s 61 (va_cpy (s 61) (s 61) ((x3 * (54 : Int32))).toNatClampNeg ((x2 * (54 : Int32))).toNatClampNeg ((54 : Int32)).toNatClampNeg)) 62) ((x3 * (9 : Int32))).toNatClampNeg ((x2 * (9 : Int32))).toNatClampNeg ((9 : Int32)).toNatClampNeg)) x1 x2 x3))))
def p_AS_findPlain_4  : Nat → am_M → Nat → Int32 → Int32 → Prop
  | 0, s, x1, x2, x3 => False
  | n + 1, s, x1, x2, x3 => (((s 52 4) ≤ x3) → (x1 < 207 ∧ am_sh x1 = (0, 4, 17)) ∧ (True)) ∧ (¬ ((s 52 4) ≤ x3) → (((30 : Int32) ≤ x3) → (x1 < 207 ∧ am_sh x1 = (0, 4, 17)) ∧ (True)) ∧ (¬ ((30 : Int32) ≤ x3) → ((x3 ≤ x2) → (p_AS_findPlain_65 (p_AS_findPlain_4  n) s x1 x2 x3)) ∧ (¬ (x3 ≤ x2) → (¬ (x3 * (54 : Int32)) < 0 ∧ ¬ (x2 * (54 : Int32)) < 0 ∧ ¬ (54 : Int32) < 0 ∧ ((x3 * (54 : Int32))).toNatClampNeg + ((54 : Int32)).toNatClampNeg ≤ 1620 ∧ ((x2 * (54 : Int32))).toNatClampNeg + ((54 : Int32)).toNatClampNeg ≤ 1620) ∧ ((¬ (x3 * (9 : Int32)) < 0 ∧ ¬ (x2 * (9 : Int32)) < 0 ∧ ¬ (9 : Int32) < 0 ∧ ((x3 * (9 : Int32))).toNatClampNeg + ((9 : Int32)).toNatClampNeg ≤ 270 ∧ ((x2 * (9 : Int32))).toNatClampNeg + ((9 : Int32)).toNatClampNeg ≤ 270) ∧ ((p_AS_findPlain_65 (p_AS_findPlain_4  n) (am_put (am_put s 61 (va_cpy (s 61) (s 61) ((x3 * (54 : Int32))).toNatClampNeg ((x2 * (54 : Int32))).toNatClampNeg ((54 : Int32)).toNatClampNeg)) 62 (va_cpy ((am_put s 61 (va_cpy (s 61) (s 61) ((x3 * (54 : Int32))).toNatClampNeg ((x2 * (54 : Int32))).toNatClampNeg ((54 : Int32)).toNatClampNeg)) 62) ((am_put s 61 (va_cpy (s 61) (s 61) ((x3 * (54 : Int32))).toNatClampNeg ((x2 * (54 : Int32))).toNatClampNeg ((54 : Int32)).toNatClampNeg)) 62) ((x3 * (9 : Int32))).toNatClampNeg ((x2 * (9 : Int32))).toNatClampNeg ((9 : Int32)).toNatClampNeg)) x1 x2 x3))))))
set_option maxRecDepth 8000 in
theorem w_AS_findPlain_4 {l : Launch} {g : am_Gl} (hg : g.2.2.2.1 = true) {ad0 : Nat → Nat}   : ∀ (n : Nat) (s : am_M) (x1 : Nat) (x2 : Int32) (x3 : Int32), p_AS_findPlain_4  n s x1 x2 x3 → AW l g m_AS_findPlain 207 ad0 (am_oM (f_AS_findPlain_4  n s x1 x2 x3)) 0 0 207 s 4 [(0, .ref 52), (1, .ref x1), (2, .int x2), (3, .int x3)] [] := by
  intro n
  induction n with
  | zero => intro s x1 x2 x3 h; exact h.elim
  | succ n hK4 =>
    intro s x1 x2 x3 h
    refine am_iload_n (j := 3) d_AS_findPlain_4 rfl rfl ?_
    refine am_aload_n (j := 0) d_AS_findPlain_5 rfl rfl ?_
    refine am_getI d_AS_findPlain_6 fl_AS_134 (by decide) sh_52 (by decide) rfl ?_
    refine aj_ge (F := am_oM) (tgt := 92) d_AS_findPlain_9 (by decide) (fun c => ?_) (fun c => ?_)
    · have h := h.1 c
      refine am_aload_n (j := 0) d_AS_findPlain_92 rfl rfl ?_
      refine am_iload_n (j := 2) d_AS_findPlain_93 rfl rfl ?_
      refine am_putI (ty := .int) d_AS_findPlain_94 fl_AS_134 ft_1_4 (by decide) sh_52 (by decide) rfl rfl rfl ?_
      refine am_aload_n (j := 0) d_AS_findPlain_97 rfl rfl ?_
      refine am_aload_n (j := 1) d_AS_findPlain_98 rfl rfl ?_
      obtain ⟨⟨b1, t1⟩, h⟩ := h
      refine am_getI d_AS_findPlain_99 fl_AS_56 b1 t1 (by decide) rfl ?_
      refine am_putI (ty := .int) d_AS_findPlain_102 fl_AS_63 ft_1_5 (by decide) sh_52 (by decide) rfl rfl rfl ?_
      exact am_vret d_AS_findPlain_105 rfl (by decide) (by decide) am_oM_ok
    · have h := h.2 c
      refine am_iload_n (j := 3) d_AS_findPlain_12 rfl rfl ?_
      refine am_bipush (v := (30 : Int32)) d_AS_findPlain_13 (by decide) ?_
      refine aj_ge (F := am_oM) (tgt := 92) d_AS_findPlain_15 (by decide) (fun c => ?_) (fun c => ?_)
      · have h := h.1 c
        refine am_aload_n (j := 0) d_AS_findPlain_92 rfl rfl ?_
        refine am_iload_n (j := 2) d_AS_findPlain_93 rfl rfl ?_
        refine am_putI (ty := .int) d_AS_findPlain_94 fl_AS_134 ft_1_4 (by decide) sh_52 (by decide) rfl rfl rfl ?_
        refine am_aload_n (j := 0) d_AS_findPlain_97 rfl rfl ?_
        refine am_aload_n (j := 1) d_AS_findPlain_98 rfl rfl ?_
        obtain ⟨⟨b2, t2⟩, h⟩ := h
        refine am_getI d_AS_findPlain_99 fl_AS_56 b2 t2 (by decide) rfl ?_
        refine am_putI (ty := .int) d_AS_findPlain_102 fl_AS_63 ft_1_5 (by decide) sh_52 (by decide) rfl rfl rfl ?_
        exact am_vret d_AS_findPlain_105 rfl (by decide) (by decide) am_oM_ok
      · have h := h.2 c
        refine am_iload_n (j := 2) d_AS_findPlain_18 rfl rfl ?_
        refine am_iload_n (j := 3) d_AS_findPlain_19 rfl rfl ?_
        refine aj_ge (F := am_oM) (tgt := 65) d_AS_findPlain_20 (by decide) (fun c => ?_) (fun c => ?_)
        · have h := h.1 c
          exact w_AS_findPlain_65 hg hK4 h
        · have h := h.2 c
          refine am_aload_n (j := 0) d_AS_findPlain_23 rfl rfl ?_
          refine am_getR (t := 61) d_AS_findPlain_24 fl_AS_22 hg (by decide) sh_52 (by decide) rfl (by decide) lk_52_6 (by decide) ?_
          refine am_iload_n (j := 3) d_AS_findPlain_27 rfl rfl ?_
          refine am_bipush (v := (54 : Int32)) d_AS_findPlain_28 (by decide) ?_
          refine am_imul d_AS_findPlain_30 ?_
          refine am_aload_n (j := 0) d_AS_findPlain_31 rfl rfl ?_
          refine am_getR (t := 61) d_AS_findPlain_32 fl_AS_22 hg (by decide) sh_52 (by decide) rfl (by decide) lk_52_6 (by decide) ?_
          refine am_iload_n (j := 2) d_AS_findPlain_35 rfl rfl ?_
          refine am_bipush (v := (54 : Int32)) d_AS_findPlain_36 (by decide) ?_
          refine am_imul d_AS_findPlain_38 ?_
          refine am_bipush (v := (54 : Int32)) d_AS_findPlain_39 (by decide) ?_
          obtain ⟨⟨q1, q2, q3, q4, q5⟩, h⟩ := h
          refine am_copy d_AS_findPlain_41 aw_3_129 (by decide) (by decide) sh_61 sh_61 q1 q2 q3 q4 q5 (Nat.le_of_ble_eq_true rfl) (by decide) ?_
          refine am_aload_n (j := 0) d_AS_findPlain_44 rfl rfl ?_
          refine am_getR (t := 62) d_AS_findPlain_45 fl_AS_26 hg (by decide) sh_52 (by decide) rfl (by decide) lk_52_7 (by decide) ?_
          refine am_iload_n (j := 3) d_AS_findPlain_48 rfl rfl ?_
          refine am_bipush (v := (9 : Int32)) d_AS_findPlain_49 (by decide) ?_
          refine am_imul d_AS_findPlain_51 ?_
          refine am_aload_n (j := 0) d_AS_findPlain_52 rfl rfl ?_
          refine am_getR (t := 62) d_AS_findPlain_53 fl_AS_26 hg (by decide) sh_52 (by decide) rfl (by decide) lk_52_7 (by decide) ?_
          refine am_iload_n (j := 2) d_AS_findPlain_56 rfl rfl ?_
          refine am_bipush (v := (9 : Int32)) d_AS_findPlain_57 (by decide) ?_
          refine am_imul d_AS_findPlain_59 ?_
          refine am_bipush (v := (9 : Int32)) d_AS_findPlain_60 (by decide) ?_
          obtain ⟨⟨q1, q2, q3, q4, q5⟩, h⟩ := h
          refine am_copy d_AS_findPlain_62 aw_3_129 (by decide) (by decide) sh_62 sh_62 q1 q2 q3 q4 q5 (Nat.le_of_ble_eq_true rfl) (by decide) ?_
          exact w_AS_findPlain_65 hg hK4 h
def f_AS_findPlain  (s : am_M) (x1 : Nat) : am_M := (f_AS_findPlain_4 am_F s x1 (0 : Int32) (0 : Int32))
def p_AS_findPlain  (s : am_M) (x1 : Nat) : Prop := (p_AS_findPlain_4 am_F s x1 (0 : Int32) (0 : Int32))
set_option maxRecDepth 8000 in
theorem w_AS_findPlain {l : Launch} {g : am_Gl} (hg : g.2.2.2.1 = true) {ad0 : Nat → Nat} {s : am_M} {x1 : Nat} (h : p_AS_findPlain s x1) : AW l g m_AS_findPlain 207 ad0 (am_oM (f_AS_findPlain s x1)) 0 0 207 s 0 [(0, .ref 52), (1, .ref x1)] [] := by
  refine am_iconst (v := (0 : Int32)) d_AS_findPlain_0 (by decide) ?_
  refine am_istore_n (lv2 := [(2, .int (0 : Int32)), (0, .ref 52), (1, .ref x1)]) d_AS_findPlain_1 rfl (by decide) rfl ?_
  refine am_iconst (v := (0 : Int32)) d_AS_findPlain_2 (by decide) ?_
  refine am_istore_n (lv2 := [(3, .int (0 : Int32)), (2, .int (0 : Int32)), (0, .ref 52), (1, .ref x1)]) d_AS_findPlain_3 rfl (by decide) rfl ?_
  refine am_sub [2, 3, 1, 0] (lv2 := [(0, .ref 52), (1, .ref x1), (2, .int (0 : Int32)), (3, .int (0 : Int32))]) rfl ?_
  exact w_AS_findPlain_4 hg am_F _ _ _ _ h
theorem ct_AS_findPlain {l : Launch} {g : am_Gl} (hg : g.2.2.2.1 = true) {s : am_M} {x1 : Nat} (h : p_AS_findPlain s x1) : AC l g m_AS_findPlain 207 s [.ref 52, .ref x1] (am_oM (f_AS_findPlain s x1)) := am_enter ok_AS_findPlain rfl (Nat.le_of_ble_eq_true rfl) rfl (fun ad0 => w_AS_findPlain hg h)
def f_AS_placeIn_3  : Nat → am_M → Nat → Int32 → Int32 → Int32 → Int32
  | 0, s, x1, x2, x3, x4 => 0
  | n + 1, s, x1, x2, x3, x4 => (if x2 ≤ x4 then x4 else (if (Int32.ofNat (am_sh x1).2.2) ≤ x4 then x4 else (if x3 ≤ (s x1 (x4).toNatClampNeg) then x4 else ((f_AS_placeIn_3  n s) x1 x2 x3 (x4 + (1 : Int32))))))
def p_AS_placeIn_3  : Nat → am_M → Nat → Int32 → Int32 → Int32 → Prop
  | 0, s, x1, x2, x3, x4 => False
  | n + 1, s, x1, x2, x3, x4 => ((x2 ≤ x4) → True) ∧ (¬ (x2 ≤ x4) → (x1 < 207 ∧ am_sh x1 = (1, 0, (am_sh x1).2.2)) ∧ ((((Int32.ofNat (am_sh x1).2.2) ≤ x4) → True) ∧ (¬ ((Int32.ofNat (am_sh x1).2.2) ≤ x4) → vp_in x4 (am_sh x1).2.2 ∧ (((x3 ≤ (s x1 (x4).toNatClampNeg)) → True) ∧ (¬ (x3 ≤ (s x1 (x4).toNatClampNeg)) → ((p_AS_placeIn_3  n s) x1 x2 x3 (x4 + (1 : Int32))))))))
set_option maxRecDepth 8000 in
theorem w_AS_placeIn_3 {l : Launch} {g : am_Gl} (hg : g.2.2.2.1 = true) {ad0 : Nat → Nat} {s : am_M}   : ∀ (n : Nat) (x1 : Nat) (x2 : Int32) (x3 : Int32) (x4 : Int32), p_AS_placeIn_3  n s x1 x2 x3 x4 → AW l g m_AS_placeIn 207 ad0 ((am_oI s) (f_AS_placeIn_3  n s x1 x2 x3 x4)) 0 0 207 s 3 [(0, .ref 52), (1, .ref x1), (2, .int x2), (3, .int x3), (4, .int x4)] [] := by
  intro n
  induction n with
  | zero => intro x1 x2 x3 x4 h; exact h.elim
  | succ n hK3 =>
    intro x1 x2 x3 x4 h
    refine am_iload (j := 4) d_AS_placeIn_3 rfl ?_
    refine am_iload_n (j := 2) d_AS_placeIn_5 rfl rfl ?_
    refine aj_ge (F := (am_oI s)) (tgt := 30) d_AS_placeIn_6 (by decide) (fun c => ?_) (fun c => ?_)
    · have h := h.1 c
      refine am_iload (j := 4) d_AS_placeIn_30 rfl ?_
      exact am_iret d_AS_placeIn_32 rfl rfl (by decide) (by decide) am_oI_ok
    · have h := h.2 c
      refine am_iload (j := 4) d_AS_placeIn_9 rfl ?_
      refine am_aload_n (j := 1) d_AS_placeIn_11 rfl rfl ?_
      obtain ⟨⟨b1, t1⟩, h⟩ := h
      refine am_alen (v := (Int32.ofNat (am_sh x1).2.2)) d_AS_placeIn_12 b1 t1 (by decide) (rfl) ?_
      refine aj_ge (F := (am_oI s)) (tgt := 30) d_AS_placeIn_13 (by decide) (fun c => ?_) (fun c => ?_)
      · have h := h.1 c
        refine am_iload (j := 4) d_AS_placeIn_30 rfl ?_
        exact am_iret d_AS_placeIn_32 rfl rfl (by decide) (by decide) am_oI_ok
      · have h := h.2 c
        refine am_aload_n (j := 1) d_AS_placeIn_16 rfl rfl ?_
        refine am_iload (j := 4) d_AS_placeIn_17 rfl ?_
        obtain ⟨hv, h⟩ := h
        refine am_iald d_AS_placeIn_19 b1 t1 hv ?_
        refine am_iload_n (j := 3) d_AS_placeIn_20 rfl rfl ?_
        refine aj_ge (F := (am_oI s)) (tgt := 30) d_AS_placeIn_21 (by decide) (fun c => ?_) (fun c => ?_)
        · have h := h.1 c
          refine am_iload (j := 4) d_AS_placeIn_30 rfl ?_
          exact am_iret d_AS_placeIn_32 rfl rfl (by decide) (by decide) am_oI_ok
        · have h := h.2 c
          refine am_iinc (j := 4) (v := (x4 + (1 : Int32))) (lv2 := [(4, .int (x4 + (1 : Int32))), (0, .ref 52), (1, .ref x1), (2, .int x2), (3, .int x3)]) d_AS_placeIn_24 rfl rfl (by decide) rfl ?_
          refine am_goto (tgt := 3) d_AS_placeIn_27 (by decide) ?_
          refine am_sub [1, 2, 3, 4, 0] (lv2 := [(0, .ref 52), (1, .ref x1), (2, .int x2), (3, .int x3), (4, .int (x4 + (1 : Int32)))]) rfl ?_
          exact hK3 _ _ _ _ h
def f_AS_placeIn  (s : am_M) (x1 : Nat) (x2 : Int32) (x3 : Int32) : Int32 := (f_AS_placeIn_3 am_F s x1 x2 x3 (0 : Int32))
def p_AS_placeIn  (s : am_M) (x1 : Nat) (x2 : Int32) (x3 : Int32) : Prop := (p_AS_placeIn_3 am_F s x1 x2 x3 (0 : Int32))
set_option maxRecDepth 8000 in
theorem w_AS_placeIn {l : Launch} {g : am_Gl} (hg : g.2.2.2.1 = true) {ad0 : Nat → Nat} {s : am_M} {x1 : Nat} {x2 : Int32} {x3 : Int32} (h : p_AS_placeIn s x1 x2 x3) : AW l g m_AS_placeIn 207 ad0 ((am_oI s) (f_AS_placeIn s x1 x2 x3)) 0 0 207 s 0 [(0, .ref 52), (1, .ref x1), (2, .int x2), (3, .int x3)] [] := by
  refine am_iconst (v := (0 : Int32)) d_AS_placeIn_0 (by decide) ?_
  refine am_istore (lv2 := [(4, .int (0 : Int32)), (0, .ref 52), (1, .ref x1), (2, .int x2), (3, .int x3)]) d_AS_placeIn_1 (by decide) rfl ?_
  refine am_sub [1, 2, 3, 4, 0] (lv2 := [(0, .ref 52), (1, .ref x1), (2, .int x2), (3, .int x3), (4, .int (0 : Int32))]) rfl ?_
  exact w_AS_placeIn_3 hg am_F _ _ _ _ h
theorem ct_AS_placeIn {l : Launch} {g : am_Gl} (hg : g.2.2.2.1 = true) {s : am_M} {x1 : Nat} {x2 : Int32} {x3 : Int32} (h : p_AS_placeIn s x1 x2 x3) : AC l g m_AS_placeIn 207 s [.ref 52, .ref x1, .int x2, .int x3] ((am_oI s) (f_AS_placeIn s x1 x2 x3)) := am_enter ok_AS_placeIn rfl (Nat.le_of_ble_eq_true rfl) rfl (fun ad0 => w_AS_placeIn hg h)
theorem cw_AS_gather_24 : am_cv m_AS_gather m_AS_get 171 2 := ⟨⟨ok_AS_get, rfl, by decide +kernel, by decide, by decide⟩, aw_3_134, aw_3_135, aw_3_136⟩
theorem cw_AS_gather_34 : am_cv m_AS_gather m_AS_placeIn 199 3 := ⟨⟨ok_AS_placeIn, rfl, by decide +kernel, by decide, by decide⟩, aw_3_159, aw_3_161, as_2_7⟩
def f_AS_gather_89 (K5 : am_M → Nat → Int32 → Int32 → Int32 → Int32 × am_M) (s : am_M) (x2 : Nat) (x1 : Int32) (x3 : Int32) (x4 : Int32) (x5 : Int32) (x6 : Int32) : Int32 × am_M := (K5 s x2 x1 x3 (x4 + (1 : Int32)))
def p_AS_gather_89 (KP5 : am_M → Nat → Int32 → Int32 → Int32 → Prop) (s : am_M) (x2 : Nat) (x1 : Int32) (x3 : Int32) (x4 : Int32) (x5 : Int32) (x6 : Int32) : Prop := (KP5 s x2 x1 x3 (x4 + (1 : Int32)))
set_option maxRecDepth 8000 in
theorem w_AS_gather_89 {l : Launch} {g : am_Gl} (hg : g.2.2.2.1 = true) {ad0 : Nat → Nat} {K5 : am_M → Nat → Int32 → Int32 → Int32 → Int32 × am_M} {KP5 : am_M → Nat → Int32 → Int32 → Int32 → Prop} (hK5 : ∀ (s : am_M) (x2 : Nat) (x1 : Int32) (x3 : Int32) (x4 : Int32), KP5 s x2 x1 x3 x4 → AW l g m_AS_gather 207 ad0 (am_oC (K5 s x2 x1 x3 x4)) 0 0 207 s 5 [(0, .ref 52), (1, .int x1), (2, .ref x2), (3, .int x3), (4, .int x4)] []) {s : am_M} {x2 : Nat} {x1 : Int32} {x3 : Int32} {x4 : Int32} {x5 : Int32} {x6 : Int32} (h : p_AS_gather_89 KP5 s x2 x1 x3 x4 x5 x6) : AW l g m_AS_gather 207 ad0 (am_oC (f_AS_gather_89 K5 s x2 x1 x3 x4 x5 x6)) 0 0 207 s 89 [(0, .ref 52), (1, .int x1), (2, .ref x2), (3, .int x3), (4, .int x4), (5, .int x5), (6, .int x6)] [] := by
  refine am_iinc (j := 4) (v := (x4 + (1 : Int32))) (lv2 := [(4, .int (x4 + (1 : Int32))), (0, .ref 52), (1, .int x1), (2, .ref x2), (3, .int x3), (5, .int x5), (6, .int x6)]) d_AS_gather_89 rfl rfl (by decide) rfl ?_
  refine am_goto (tgt := 5) d_AS_gather_92 (by decide) ?_
  refine am_sub [1, 2, 3, 4, 0] (lv2 := [(0, .ref 52), (1, .int x1), (2, .ref x2), (3, .int x3), (4, .int (x4 + (1 : Int32)))]) rfl ?_
  exact hK5 _ _ _ _ _ h
def f_AS_gather_5  : Nat → am_M → Nat → Int32 → Int32 → Int32 → Int32 × am_M
  | 0, s, x2, x1, x3, x4 => (0, s)
  | n + 1, s, x2, x1, x3, x4 => (if (s 52 4) ≤ x4 then (x3, s) else (if (Int32.ofNat (am_sh x2).2.2) ≤ x3 then (x3, s) else (if (f_AS_placeIn s x2 x3 (f_AS_get s x4 x1)) = x3 then (f_AS_gather_89 (f_AS_gather_5  n) (am_set s x2 (x3).toNatClampNeg (f_AS_get s x4 x1)) x2 x1 (x3 + (1 : Int32)) x4 (f_AS_get s x4 x1) (f_AS_placeIn s x2 x3 (f_AS_get s x4 x1))) else (if (s x2 ((f_AS_placeIn s x2 x3 (f_AS_get s x4 x1))).toNatClampNeg) = (f_AS_get s x4 x1) then (f_AS_gather_89 (f_AS_gather_5  n) s x2 x1 x3 x4 (f_AS_get s x4 x1) (f_AS_placeIn s x2 x3 (f_AS_get s x4 x1))) else (f_AS_gather_89 (f_AS_gather_5  n) (am_set (am_put s x2 (va_cpy (s x2) (s x2) ((f_AS_placeIn s x2 x3 (f_AS_get s x4 x1))).toNatClampNeg (((f_AS_placeIn s x2 x3 (f_AS_get s x4 x1)) + (1 : Int32))).toNatClampNeg ((x3 - (f_AS_placeIn s x2 x3 (f_AS_get s x4 x1)))).toNatClampNeg)) x2 ((f_AS_placeIn s x2 x3 (f_AS_get s x4 x1))).toNatClampNeg (f_AS_get s x4 x1)) x2 x1 (x3 + (1 : Int32)) x4 (f_AS_get s x4 x1) (f_AS_placeIn s x2 x3 (f_AS_get s x4 x1)))))))
def p_AS_gather_5  : Nat → am_M → Nat → Int32 → Int32 → Int32 → Prop
  | 0, s, x2, x1, x3, x4 => False
  | n + 1, s, x2, x1, x3, x4 => (((s 52 4) ≤ x4) → True) ∧ (¬ ((s 52 4) ≤ x4) → (x2 < 207 ∧ am_sh x2 = (1, 0, (am_sh x2).2.2)) ∧ ((((Int32.ofNat (am_sh x2).2.2) ≤ x3) → True) ∧ (¬ ((Int32.ofNat (am_sh x2).2.2) ≤ x3) → p_AS_get s x4 x1 ∧ (p_AS_placeIn s x2 x3 (f_AS_get s x4 x1) ∧ ((((f_AS_placeIn s x2 x3 (f_AS_get s x4 x1)) = x3) → vp_in x3 (am_sh x2).2.2 ∧ ((p_AS_gather_89 (p_AS_gather_5  n) (am_set s x2 (x3).toNatClampNeg (f_AS_get s x4 x1)) x2 x1 (x3 + (1 : Int32)) x4 (f_AS_get s x4 x1) (f_AS_placeIn s x2 x3 (f_AS_get s x4 x1))))) ∧ (¬ ((f_AS_placeIn s x2 x3 (f_AS_get s x4 x1)) = x3) → vp_in (f_AS_placeIn s x2 x3 (f_AS_get s x4 x1)) (am_sh x2).2.2 ∧ ((((s x2 ((f_AS_placeIn s x2 x3 (f_AS_get s x4 x1))).toNatClampNeg) = (f_AS_get s x4 x1)) → (p_AS_gather_89 (p_AS_gather_5  n) s x2 x1 x3 x4 (f_AS_get s x4 x1) (f_AS_placeIn s x2 x3 (f_AS_get s x4 x1)))) ∧ (¬ ((s x2 ((f_AS_placeIn s x2 x3 (f_AS_get s x4 x1))).toNatClampNeg) = (f_AS_get s x4 x1)) → (¬ (f_AS_placeIn s x2 x3 (f_AS_get s x4 x1)) < 0 ∧ ¬ ((f_AS_placeIn s x2 x3 (f_AS_get s x4 x1)) + (1 : Int32)) < 0 ∧ ¬ (x3 - (f_AS_placeIn s x2 x3 (f_AS_get s x4 x1))) < 0 ∧ ((f_AS_placeIn s x2 x3 (f_AS_get s x4 x1))).toNatClampNeg + ((x3 - (f_AS_placeIn s x2 x3 (f_AS_get s x4 x1)))).toNatClampNeg ≤ (am_sh x2).2.2 ∧ (((f_AS_placeIn s x2 x3 (f_AS_get s x4 x1)) + (1 : Int32))).toNatClampNeg + ((x3 - (f_AS_placeIn s x2 x3 (f_AS_get s x4 x1)))).toNatClampNeg ≤ (am_sh x2).2.2) ∧ (vp_in (f_AS_placeIn s x2 x3 (f_AS_get s x4 x1)) (am_sh x2).2.2 ∧ ((p_AS_gather_89 (p_AS_gather_5  n) (am_set (am_put s x2 (va_cpy (s x2) (s x2) ((f_AS_placeIn s x2 x3 (f_AS_get s x4 x1))).toNatClampNeg (((f_AS_placeIn s x2 x3 (f_AS_get s x4 x1)) + (1 : Int32))).toNatClampNeg ((x3 - (f_AS_placeIn s x2 x3 (f_AS_get s x4 x1)))).toNatClampNeg)) x2 ((f_AS_placeIn s x2 x3 (f_AS_get s x4 x1))).toNatClampNeg (f_AS_get s x4 x1)) x2 x1 (x3 + (1 : Int32)) x4 (f_AS_get s x4 x1) (f_AS_placeIn s x2 x3 (f_AS_get s x4 x1)))))))))))))
set_option maxRecDepth 8000 in
theorem w_AS_gather_5 {l : Launch} {g : am_Gl} (hg : g.2.2.2.1 = true) {ad0 : Nat → Nat}   : ∀ (n : Nat) (s : am_M) (x2 : Nat) (x1 : Int32) (x3 : Int32) (x4 : Int32), p_AS_gather_5  n s x2 x1 x3 x4 → AW l g m_AS_gather 207 ad0 (am_oC (f_AS_gather_5  n s x2 x1 x3 x4)) 0 0 207 s 5 [(0, .ref 52), (1, .int x1), (2, .ref x2), (3, .int x3), (4, .int x4)] [] := by
  intro n
  induction n with
  | zero => intro s x2 x1 x3 x4 h; exact h.elim
  | succ n hK5 =>
    intro s x2 x1 x3 x4 h
    refine am_iload (j := 4) d_AS_gather_5 rfl ?_
    refine am_aload_n (j := 0) d_AS_gather_7 rfl rfl ?_
    refine am_getI d_AS_gather_8 fl_AS_134 (by decide) sh_52 (by decide) rfl ?_
    refine aj_ge (F := am_oC) (tgt := 95) d_AS_gather_11 (by decide) (fun c => ?_) (fun c => ?_)
    · have h := h.1 c
      refine am_iload_n (j := 3) d_AS_gather_95 rfl rfl ?_
      exact am_iret d_AS_gather_96 rfl rfl (by decide) (by decide) am_oC_ok
    · have h := h.2 c
      refine am_iload_n (j := 3) d_AS_gather_14 rfl rfl ?_
      refine am_aload_n (j := 2) d_AS_gather_15 rfl rfl ?_
      obtain ⟨⟨b1, t1⟩, h⟩ := h
      refine am_alen (v := (Int32.ofNat (am_sh x2).2.2)) d_AS_gather_16 b1 t1 (by decide) (rfl) ?_
      refine aj_ge (F := am_oC) (tgt := 95) d_AS_gather_17 (by decide) (fun c => ?_) (fun c => ?_)
      · have h := h.1 c
        refine am_iload_n (j := 3) d_AS_gather_95 rfl rfl ?_
        exact am_iret d_AS_gather_96 rfl rfl (by decide) (by decide) am_oC_ok
      · have h := h.2 c
        refine am_aload_n (j := 0) d_AS_gather_20 rfl rfl ?_
        refine am_iload (j := 4) d_AS_gather_21 rfl ?_
        refine am_iload_n (j := 1) d_AS_gather_23 rfl rfl ?_
        obtain ⟨hc, h⟩ := h
        refine ak_VI (as := [.int x4, .int x1]) (rest := []) d_AS_gather_24 cw_AS_gather_24 rfl rfl rfl (ct_AS_get hg hc) rfl rfl (by decide) sh_52 rfl (Nat.le_of_ble_eq_true rfl) (by decide) (by decide) ?_
        refine am_istore (lv2 := [(5, .int (f_AS_get s x4 x1)), (0, .ref 52), (1, .int x1), (2, .ref x2), (3, .int x3), (4, .int x4)]) d_AS_gather_27 (by decide) rfl ?_
        refine am_aload_n (j := 1) d_AS_gather_29 rfl rfl ?_
        refine am_aload_n (j := 3) d_AS_gather_30 rfl rfl ?_
        refine am_iload_n (j := 4) d_AS_gather_31 rfl rfl ?_
        refine am_iload (j := 0) d_AS_gather_32 rfl ?_
        obtain ⟨hc, h⟩ := h
        refine ak_VI (as := [.ref x2, .int x3, .int (f_AS_get s x4 x1)]) (rest := []) d_AS_gather_34 cw_AS_gather_34 rfl rfl rfl (ct_AS_placeIn hg hc) rfl rfl (by decide) sh_52 rfl (Nat.le_of_ble_eq_true rfl) (by decide) (by decide) ?_
        refine am_istore (lv2 := [(6, .int (f_AS_placeIn s x2 x3 (f_AS_get s x4 x1))), (5, .int (f_AS_get s x4 x1)), (0, .ref 52), (1, .int x1), (2, .ref x2), (3, .int x3), (4, .int x4)]) d_AS_gather_37 (by decide) rfl ?_
        refine am_iload (j := 0) d_AS_gather_39 rfl ?_
        refine am_iload_n (j := 5) d_AS_gather_41 rfl rfl ?_
        refine aj_ne (F := am_oC) (tgt := 56) d_AS_gather_42 (by decide) (fun c => ?_) (fun c => ?_)
        · have h := h.2 c
          refine am_aload_n (j := 4) d_AS_gather_56 rfl rfl ?_
          refine am_iload (j := 0) d_AS_gather_57 rfl ?_
          obtain ⟨hv, h⟩ := h
          refine am_iald d_AS_gather_59 b1 t1 hv ?_
          refine am_iload (j := 1) d_AS_gather_60 rfl ?_
          refine aj_eq (F := am_oC) (tgt := 89) d_AS_gather_62 (by decide) (fun c => ?_) (fun c => ?_)
          · have h := h.1 c
            refine am_sub [2, 3, 4, 5, 6, 1, 0] (lv2 := [(0, .ref 52), (1, .int x1), (2, .ref x2), (3, .int x3), (4, .int x4), (5, .int (f_AS_get s x4 x1)), (6, .int (f_AS_placeIn s x2 x3 (f_AS_get s x4 x1)))]) rfl ?_
            exact w_AS_gather_89 hg hK5 h
          · have h := h.2 c
            refine am_aload_n (j := 4) d_AS_gather_65 rfl rfl ?_
            refine am_iload (j := 0) d_AS_gather_66 rfl ?_
            refine am_aload_n (j := 4) d_AS_gather_68 rfl rfl ?_
            refine am_iload (j := 0) d_AS_gather_69 rfl ?_
            refine am_iconst (v := (1 : Int32)) d_AS_gather_71 (by decide) ?_
            refine am_iadd d_AS_gather_72 ?_
            refine am_iload_n (j := 5) d_AS_gather_73 rfl rfl ?_
            refine am_iload (j := 0) d_AS_gather_74 rfl ?_
            refine am_isub d_AS_gather_76 ?_
            obtain ⟨⟨q1, q2, q3, q4, q5⟩, h⟩ := h
            refine am_copy d_AS_gather_77 aw_3_129 b1 b1 t1 t1 q1 q2 q3 q4 q5 (Nat.le_of_ble_eq_true rfl) (by decide) ?_
            refine am_aload_n (j := 4) d_AS_gather_80 rfl rfl ?_
            refine am_iload (j := 0) d_AS_gather_81 rfl ?_
            refine am_iload (j := 1) d_AS_gather_83 rfl ?_
            obtain ⟨hv, h⟩ := h
            refine am_iast d_AS_gather_85 b1 t1 hv ?_
            refine am_iinc (j := 5) (v := (x3 + (1 : Int32))) (lv2 := [(3, .int (x3 + (1 : Int32))), (6, .int (f_AS_placeIn s x2 x3 (f_AS_get s x4 x1))), (5, .int (f_AS_get s x4 x1)), (0, .ref 52), (1, .int x1), (2, .ref x2), (4, .int x4)]) d_AS_gather_86 rfl rfl (by decide) rfl ?_
            refine am_sub [3, 4, 5, 0, 6, 2, 1] (lv2 := [(0, .ref 52), (1, .int x1), (2, .ref x2), (3, .int (x3 + (1 : Int32))), (4, .int x4), (5, .int (f_AS_get s x4 x1)), (6, .int (f_AS_placeIn s x2 x3 (f_AS_get s x4 x1)))]) rfl ?_
            exact w_AS_gather_89 hg hK5 h
        · have h := h.1 c
          refine am_aload_n (j := 4) d_AS_gather_45 rfl rfl ?_
          refine am_iload_n (j := 5) d_AS_gather_46 rfl rfl ?_
          refine am_iload (j := 1) d_AS_gather_47 rfl ?_
          obtain ⟨hv, h⟩ := h
          refine am_iast d_AS_gather_49 b1 t1 hv ?_
          refine am_iinc (j := 5) (v := (x3 + (1 : Int32))) (lv2 := [(3, .int (x3 + (1 : Int32))), (6, .int (f_AS_placeIn s x2 x3 (f_AS_get s x4 x1))), (5, .int (f_AS_get s x4 x1)), (0, .ref 52), (1, .int x1), (2, .ref x2), (4, .int x4)]) d_AS_gather_50 rfl rfl (by decide) rfl ?_
          refine am_goto (tgt := 89) d_AS_gather_53 (by decide) ?_
          refine am_sub [3, 4, 5, 0, 6, 2, 1] (lv2 := [(0, .ref 52), (1, .int x1), (2, .ref x2), (3, .int (x3 + (1 : Int32))), (4, .int x4), (5, .int (f_AS_get s x4 x1)), (6, .int (f_AS_placeIn s x2 x3 (f_AS_get s x4 x1)))]) rfl ?_
          exact w_AS_gather_89 hg hK5 h
def f_AS_gather  (s : am_M) (x1 : Int32) (x2 : Nat) : Int32 × am_M := (f_AS_gather_5 am_F s x2 x1 (0 : Int32) (0 : Int32))
def p_AS_gather  (s : am_M) (x1 : Int32) (x2 : Nat) : Prop := (p_AS_gather_5 am_F s x2 x1 (0 : Int32) (0 : Int32))
set_option maxRecDepth 8000 in
theorem w_AS_gather {l : Launch} {g : am_Gl} (hg : g.2.2.2.1 = true) {ad0 : Nat → Nat} {s : am_M} {x1 : Int32} {x2 : Nat} (h : p_AS_gather s x1 x2) : AW l g m_AS_gather 207 ad0 (am_oC (f_AS_gather s x1 x2)) 0 0 207 s 0 [(0, .ref 52), (1, .int x1), (2, .ref x2)] [] := by
  refine am_iconst (v := (0 : Int32)) d_AS_gather_0 (by decide) ?_
  refine am_istore_n (lv2 := [(3, .int (0 : Int32)), (0, .ref 52), (1, .int x1), (2, .ref x2)]) d_AS_gather_1 rfl (by decide) rfl ?_
  refine am_iconst (v := (0 : Int32)) d_AS_gather_2 (by decide) ?_
  refine am_istore (lv2 := [(4, .int (0 : Int32)), (3, .int (0 : Int32)), (0, .ref 52), (1, .int x1), (2, .ref x2)]) d_AS_gather_3 (by decide) rfl ?_
  refine am_sub [2, 3, 4, 1, 0] (lv2 := [(0, .ref 52), (1, .int x1), (2, .ref x2), (3, .int (0 : Int32)), (4, .int (0 : Int32))]) rfl ?_
  exact w_AS_gather_5 hg am_F _ _ _ _ _ h
theorem ct_AS_gather {l : Launch} {g : am_Gl} (hg : g.2.2.2.1 = true) {s : am_M} {x1 : Int32} {x2 : Nat} (h : p_AS_gather s x1 x2) : AC l g m_AS_gather 207 s [.ref 52, .int x1, .ref x2] (am_oC (f_AS_gather s x1 x2)) := am_enter ok_AS_gather rfl (Nat.le_of_ble_eq_true rfl) rfl (fun ad0 => w_AS_gather hg h)
theorem cw_AS_findGroup_32 : am_cv m_AS_findGroup m_AS_get 171 2 := ⟨⟨ok_AS_get, rfl, by decide +kernel, by decide, by decide⟩, aw_3_134, aw_3_135, aw_3_136⟩
theorem cw_AS_findGroup_54 : am_cv m_AS_findGroup m_AS_get 171 2 := ⟨⟨ok_AS_get, rfl, by decide +kernel, by decide, by decide⟩, aw_3_134, aw_3_135, aw_3_136⟩
theorem cw_AS_findGroup_63 : am_sn m_AS_findGroup m_CB_orZero 214 1 := ⟨⟨ok_CB_orZero, rfl, by decide +kernel, by decide, by decide⟩, by decide +kernel, aw_2_188⟩
theorem cw_AS_findGroup_154 : am_sn m_AS_findGroup m_CB_limited 222 1 := ⟨⟨ok_CB_limited, rfl, by decide +kernel, by decide, by decide⟩, by decide +kernel, aw_2_191⟩
def f_AS_findGroup_108 (K16 : am_M → Nat → Int32 → Int32 → Int32 → Int32 → Int32 → Int32 → am_M) (s : am_M) (x1 : Nat) (x2 : Int32) (x3 : Int32) (x4 : Int32) (x5 : Int32) (x6 : Int32) (x7 : Int32) : am_M := (K16 s x1 x2 x3 x4 x5 x6 (x7 + (1 : Int32)))
def p_AS_findGroup_108 (KP16 : am_M → Nat → Int32 → Int32 → Int32 → Int32 → Int32 → Int32 → Prop) (s : am_M) (x1 : Nat) (x2 : Int32) (x3 : Int32) (x4 : Int32) (x5 : Int32) (x6 : Int32) (x7 : Int32) : Prop := (KP16 s x1 x2 x3 x4 x5 x6 (x7 + (1 : Int32)))
set_option maxRecDepth 8000 in
theorem w_AS_findGroup_108 {l : Launch} {g : am_Gl} (hg : g.2.2.2.1 = true) {ad0 : Nat → Nat} {K16 : am_M → Nat → Int32 → Int32 → Int32 → Int32 → Int32 → Int32 → am_M} {KP16 : am_M → Nat → Int32 → Int32 → Int32 → Int32 → Int32 → Int32 → Prop} (hK16 : ∀ (s : am_M) (x1 : Nat) (x2 : Int32) (x3 : Int32) (x4 : Int32) (x5 : Int32) (x6 : Int32) (x7 : Int32), KP16 s x1 x2 x3 x4 x5 x6 x7 → AW l g m_AS_findGroup 207 ad0 (am_oM (K16 s x1 x2 x3 x4 x5 x6 x7)) 0 0 207 s 16 [(0, .ref 52), (1, .ref x1), (2, .int x2), (3, .int x3), (4, .int x4), (5, .int x5), (6, .int x6), (7, .int x7)] []) {s : am_M} {x1 : Nat} {x2 : Int32} {x3 : Int32} {x4 : Int32} {x5 : Int32} {x6 : Int32} {x7 : Int32} (h : p_AS_findGroup_108 KP16 s x1 x2 x3 x4 x5 x6 x7) : AW l g m_AS_findGroup 207 ad0 (am_oM (f_AS_findGroup_108 K16 s x1 x2 x3 x4 x5 x6 x7)) 0 0 207 s 108 [(0, .ref 52), (1, .ref x1), (2, .int x2), (3, .int x3), (4, .int x4), (5, .int x5), (6, .int x6), (7, .int x7)] [] := by
  refine am_iinc (j := 7) (v := (x7 + (1 : Int32))) (lv2 := [(7, .int (x7 + (1 : Int32))), (0, .ref 52), (1, .ref x1), (2, .int x2), (3, .int x3), (4, .int x4), (5, .int x5), (6, .int x6)]) d_AS_findGroup_108 rfl rfl (by decide) rfl ?_
  refine am_goto (tgt := 16) d_AS_findGroup_111 (by decide) ?_
  refine am_sub [1, 2, 3, 4, 5, 6, 7, 0] (lv2 := [(0, .ref 52), (1, .ref x1), (2, .int x2), (3, .int x3), (4, .int x4), (5, .int x5), (6, .int x6), (7, .int (x7 + (1 : Int32)))]) rfl ?_
  exact hK16 _ _ _ _ _ _ _ _ h
def f_AS_findGroup_97 (K16 : am_M → Nat → Int32 → Int32 → Int32 → Int32 → Int32 → Int32 → am_M) (s : am_M) (x1 : Nat) (x2 : Int32) (x3 : Int32) (x4 : Int32) (x5 : Int32) (x6 : Int32) (x7 : Int32) (x8 : Int32) (y0 : Int32) : am_M := (f_AS_findGroup_108 K16 s x1 x2 x3 x4 y0 (if x6 < x8 then x8 else x6) x7)
def p_AS_findGroup_97 (KP16 : am_M → Nat → Int32 → Int32 → Int32 → Int32 → Int32 → Int32 → Prop) (s : am_M) (x1 : Nat) (x2 : Int32) (x3 : Int32) (x4 : Int32) (x5 : Int32) (x6 : Int32) (x7 : Int32) (x8 : Int32) (y0 : Int32) : Prop := (p_AS_findGroup_108 KP16 s x1 x2 x3 x4 y0 (if x6 < x8 then x8 else x6) x7)
set_option maxRecDepth 8000 in
theorem w_AS_findGroup_97 {l : Launch} {g : am_Gl} (hg : g.2.2.2.1 = true) {ad0 : Nat → Nat} {K16 : am_M → Nat → Int32 → Int32 → Int32 → Int32 → Int32 → Int32 → am_M} {KP16 : am_M → Nat → Int32 → Int32 → Int32 → Int32 → Int32 → Int32 → Prop} (hK16 : ∀ (s : am_M) (x1 : Nat) (x2 : Int32) (x3 : Int32) (x4 : Int32) (x5 : Int32) (x6 : Int32) (x7 : Int32), KP16 s x1 x2 x3 x4 x5 x6 x7 → AW l g m_AS_findGroup 207 ad0 (am_oM (K16 s x1 x2 x3 x4 x5 x6 x7)) 0 0 207 s 16 [(0, .ref 52), (1, .ref x1), (2, .int x2), (3, .int x3), (4, .int x4), (5, .int x5), (6, .int x6), (7, .int x7)] []) {s : am_M} {x1 : Nat} {x2 : Int32} {x3 : Int32} {x4 : Int32} {x5 : Int32} {x6 : Int32} {x7 : Int32} {x8 : Int32} {y0 : Int32} (h : p_AS_findGroup_97 KP16 s x1 x2 x3 x4 x5 x6 x7 x8 y0) : AW l g m_AS_findGroup 207 ad0 (am_oM (f_AS_findGroup_97 K16 s x1 x2 x3 x4 x5 x6 x7 x8 y0)) 0 0 207 s 97 [(0, .ref 52), (1, .ref x1), (2, .int x2), (3, .int x3), (4, .int x4), (5, .int x5), (6, .int x6), (7, .int x7), (8, .int x8)] [.int y0] := by
  refine am_istore (lv2 := [(5, .int y0), (0, .ref 52), (1, .ref x1), (2, .int x2), (3, .int x3), (4, .int x4), (6, .int x6), (7, .int x7), (8, .int x8)]) d_AS_findGroup_97 (by decide) rfl ?_
  refine am_iload (j := 6) d_AS_findGroup_99 rfl ?_
  refine am_iload (j := 8) d_AS_findGroup_101 rfl ?_
  refine am_mmax d_AS_findGroup_103 aw_3_168 (Nat.le_of_ble_eq_true rfl) (by decide) (by decide) (by decide) ?_
  refine am_istore (lv2 := [(6, .int (if x6 < x8 then x8 else x6)), (5, .int y0), (0, .ref 52), (1, .ref x1), (2, .int x2), (3, .int x3), (4, .int x4), (7, .int x7), (8, .int x8)]) d_AS_findGroup_106 (by decide) rfl ?_
  refine am_sub [2, 3, 4, 5, 6, 1, 0, 7] (lv2 := [(0, .ref 52), (1, .ref x1), (2, .int x2), (3, .int x3), (4, .int x4), (5, .int y0), (6, .int (if x6 < x8 then x8 else x6)), (7, .int x7)]) rfl ?_
  exact w_AS_findGroup_108 hg hK16 h
def f_AS_findGroup_90 (K16 : am_M → Nat → Int32 → Int32 → Int32 → Int32 → Int32 → Int32 → am_M) (s : am_M) (x1 : Nat) (x2 : Int32) (x3 : Int32) (x4 : Int32) (x5 : Int32) (x6 : Int32) (x7 : Int32) (x8 : Int32) : am_M := (f_AS_findGroup_97 K16 s x1 x2 x3 x4 x5 x6 x7 x8 x8)
def p_AS_findGroup_90 (KP16 : am_M → Nat → Int32 → Int32 → Int32 → Int32 → Int32 → Int32 → Prop) (s : am_M) (x1 : Nat) (x2 : Int32) (x3 : Int32) (x4 : Int32) (x5 : Int32) (x6 : Int32) (x7 : Int32) (x8 : Int32) : Prop := (p_AS_findGroup_97 KP16 s x1 x2 x3 x4 x5 x6 x7 x8 x8)
set_option maxRecDepth 8000 in
theorem w_AS_findGroup_90 {l : Launch} {g : am_Gl} (hg : g.2.2.2.1 = true) {ad0 : Nat → Nat} {K16 : am_M → Nat → Int32 → Int32 → Int32 → Int32 → Int32 → Int32 → am_M} {KP16 : am_M → Nat → Int32 → Int32 → Int32 → Int32 → Int32 → Int32 → Prop} (hK16 : ∀ (s : am_M) (x1 : Nat) (x2 : Int32) (x3 : Int32) (x4 : Int32) (x5 : Int32) (x6 : Int32) (x7 : Int32), KP16 s x1 x2 x3 x4 x5 x6 x7 → AW l g m_AS_findGroup 207 ad0 (am_oM (K16 s x1 x2 x3 x4 x5 x6 x7)) 0 0 207 s 16 [(0, .ref 52), (1, .ref x1), (2, .int x2), (3, .int x3), (4, .int x4), (5, .int x5), (6, .int x6), (7, .int x7)] []) {s : am_M} {x1 : Nat} {x2 : Int32} {x3 : Int32} {x4 : Int32} {x5 : Int32} {x6 : Int32} {x7 : Int32} {x8 : Int32} (h : p_AS_findGroup_90 KP16 s x1 x2 x3 x4 x5 x6 x7 x8) : AW l g m_AS_findGroup 207 ad0 (am_oM (f_AS_findGroup_90 K16 s x1 x2 x3 x4 x5 x6 x7 x8)) 0 0 207 s 90 [(0, .ref 52), (1, .ref x1), (2, .int x2), (3, .int x3), (4, .int x4), (5, .int x5), (6, .int x6), (7, .int x7), (8, .int x8)] [] := by
  refine am_iload (j := 8) d_AS_findGroup_90 rfl ?_
  refine am_goto (tgt := 97) d_AS_findGroup_92 (by decide) ?_
  exact w_AS_findGroup_97 hg hK16 h
def f_AS_findGroup_95 (K16 : am_M → Nat → Int32 → Int32 → Int32 → Int32 → Int32 → Int32 → am_M) (s : am_M) (x1 : Nat) (x2 : Int32) (x3 : Int32) (x4 : Int32) (x5 : Int32) (x6 : Int32) (x7 : Int32) (x8 : Int32) : am_M := (f_AS_findGroup_97 K16 s x1 x2 x3 x4 x5 x6 x7 x8 x5)
def p_AS_findGroup_95 (KP16 : am_M → Nat → Int32 → Int32 → Int32 → Int32 → Int32 → Int32 → Prop) (s : am_M) (x1 : Nat) (x2 : Int32) (x3 : Int32) (x4 : Int32) (x5 : Int32) (x6 : Int32) (x7 : Int32) (x8 : Int32) : Prop := (p_AS_findGroup_97 KP16 s x1 x2 x3 x4 x5 x6 x7 x8 x5)
set_option maxRecDepth 8000 in
theorem w_AS_findGroup_95 {l : Launch} {g : am_Gl} (hg : g.2.2.2.1 = true) {ad0 : Nat → Nat} {K16 : am_M → Nat → Int32 → Int32 → Int32 → Int32 → Int32 → Int32 → am_M} {KP16 : am_M → Nat → Int32 → Int32 → Int32 → Int32 → Int32 → Int32 → Prop} (hK16 : ∀ (s : am_M) (x1 : Nat) (x2 : Int32) (x3 : Int32) (x4 : Int32) (x5 : Int32) (x6 : Int32) (x7 : Int32), KP16 s x1 x2 x3 x4 x5 x6 x7 → AW l g m_AS_findGroup 207 ad0 (am_oM (K16 s x1 x2 x3 x4 x5 x6 x7)) 0 0 207 s 16 [(0, .ref 52), (1, .ref x1), (2, .int x2), (3, .int x3), (4, .int x4), (5, .int x5), (6, .int x6), (7, .int x7)] []) {s : am_M} {x1 : Nat} {x2 : Int32} {x3 : Int32} {x4 : Int32} {x5 : Int32} {x6 : Int32} {x7 : Int32} {x8 : Int32} (h : p_AS_findGroup_95 KP16 s x1 x2 x3 x4 x5 x6 x7 x8) : AW l g m_AS_findGroup 207 ad0 (am_oM (f_AS_findGroup_95 K16 s x1 x2 x3 x4 x5 x6 x7 x8)) 0 0 207 s 95 [(0, .ref 52), (1, .ref x1), (2, .int x2), (3, .int x3), (4, .int x4), (5, .int x5), (6, .int x6), (7, .int x7), (8, .int x8)] [] := by
  refine am_iload (j := 5) d_AS_findGroup_95 rfl ?_
  exact w_AS_findGroup_97 hg hK16 h
def f_AS_findGroup_114  (s : am_M) (x1 : Nat) (x2 : Int32) (x3 : Int32) (x4 : Int32) (x5 : Int32) (x6 : Int32) (x7 : Int32) : am_M := (am_set (am_set (am_set (am_set (am_set s 65 ((x2 * (31 : Int32))).toNatClampNeg (s 63 (x2).toNatClampNeg)) 65 (((x2 * (31 : Int32)) + (1 : Int32))).toNatClampNeg x3) 65 (((x2 * (31 : Int32)) + (2 : Int32))).toNatClampNeg (f_CB_limited (am_set (am_set s 65 ((x2 * (31 : Int32))).toNatClampNeg (s 63 (x2).toNatClampNeg)) 65 (((x2 * (31 : Int32)) + (1 : Int32))).toNatClampNeg x3) x4.toInt64)) 65 (((x2 * (31 : Int32)) + (3 : Int32))).toNatClampNeg x5) 65 (((x2 * (31 : Int32)) + (4 : Int32))).toNatClampNeg x6)
def p_AS_findGroup_114  (s : am_M) (x1 : Nat) (x2 : Int32) (x3 : Int32) (x4 : Int32) (x5 : Int32) (x6 : Int32) (x7 : Int32) : Prop := vp_in x2 30 ∧ (vp_in (x2 * (31 : Int32)) 930 ∧ (vp_in ((x2 * (31 : Int32)) + (1 : Int32)) 930 ∧ (vp_in ((x2 * (31 : Int32)) + (2 : Int32)) 930 ∧ (vp_in ((x2 * (31 : Int32)) + (3 : Int32)) 930 ∧ (vp_in ((x2 * (31 : Int32)) + (4 : Int32)) 930 ∧ (True))))))
set_option maxRecDepth 8000 in
theorem w_AS_findGroup_114 {l : Launch} {g : am_Gl} (hg : g.2.2.2.1 = true) {ad0 : Nat → Nat}  {s : am_M} {x1 : Nat} {x2 : Int32} {x3 : Int32} {x4 : Int32} {x5 : Int32} {x6 : Int32} {x7 : Int32} (h : p_AS_findGroup_114  s x1 x2 x3 x4 x5 x6 x7) : AW l g m_AS_findGroup 207 ad0 (am_oM (f_AS_findGroup_114  s x1 x2 x3 x4 x5 x6 x7)) 0 0 207 s 114 [(0, .ref 52), (1, .ref x1), (2, .int x2), (3, .int x3), (4, .int x4), (5, .int x5), (6, .int x6), (7, .int x7)] [] := by
  refine am_iload_n (j := 2) d_AS_findGroup_114 rfl rfl ?_
  refine am_bipush (v := (31 : Int32)) d_AS_findGroup_115 (by decide) ?_
  refine am_imul d_AS_findGroup_117 ?_
  refine am_istore (lv2 := [(7, .int (x2 * (31 : Int32))), (0, .ref 52), (1, .ref x1), (2, .int x2), (3, .int x3), (4, .int x4), (5, .int x5), (6, .int x6)]) d_AS_findGroup_118 (by decide) rfl ?_
  refine am_aload_n (j := 1) d_AS_findGroup_120 rfl rfl ?_
  refine am_getR (t := 65) d_AS_findGroup_121 fl_AS_35 hg (by decide) sh_52 (by decide) rfl (by decide) lk_52_10 (by decide) ?_
  refine am_iload (j := 0) d_AS_findGroup_124 rfl ?_
  refine am_aload_n (j := 1) d_AS_findGroup_126 rfl rfl ?_
  refine am_getR (t := 63) d_AS_findGroup_127 fl_AS_29 hg (by decide) sh_52 (by decide) rfl (by decide) lk_52_8 (by decide) ?_
  refine am_iload_n (j := 3) d_AS_findGroup_130 rfl rfl ?_
  obtain ⟨hv, h⟩ := h
  refine am_iald d_AS_findGroup_131 (by decide) sh_63 hv ?_
  obtain ⟨hv, h⟩ := h
  refine am_iast d_AS_findGroup_132 (by decide) sh_65 hv ?_
  refine am_aload_n (j := 1) d_AS_findGroup_133 rfl rfl ?_
  refine am_getR (t := 65) d_AS_findGroup_134 fl_AS_35 hg (by decide) sh_52 (by decide) rfl (by decide) lk_52_10 (by decide) ?_
  refine am_iload (j := 0) d_AS_findGroup_137 rfl ?_
  refine am_iconst (v := (1 : Int32)) d_AS_findGroup_139 (by decide) ?_
  refine am_iadd d_AS_findGroup_140 ?_
  refine am_iload_n (j := 4) d_AS_findGroup_141 rfl rfl ?_
  obtain ⟨hv, h⟩ := h
  refine am_iast d_AS_findGroup_142 (by decide) sh_65 hv ?_
  refine am_aload_n (j := 1) d_AS_findGroup_143 rfl rfl ?_
  refine am_getR (t := 65) d_AS_findGroup_144 fl_AS_35 hg (by decide) sh_52 (by decide) rfl (by decide) lk_52_10 (by decide) ?_
  refine am_iload (j := 0) d_AS_findGroup_147 rfl ?_
  refine am_iconst (v := (2 : Int32)) d_AS_findGroup_149 (by decide) ?_
  refine am_iadd d_AS_findGroup_150 ?_
  refine am_iload (j := 5) d_AS_findGroup_151 rfl ?_
  refine am_i2l d_AS_findGroup_153 ?_
  refine ak_SNI (as := [.long x4.toInt64]) (rest := [.int ((x2 * (31 : Int32)) + (2 : Int32)), .ref 65]) d_AS_findGroup_154 cw_AS_findGroup_154 rfl rfl rfl (ct_CB_limited hg) rfl rfl (Nat.le_of_ble_eq_true rfl) (by decide) (by decide) ?_
  obtain ⟨hv, h⟩ := h
  refine am_iast d_AS_findGroup_157 (by decide) sh_65 hv ?_
  refine am_aload_n (j := 1) d_AS_findGroup_158 rfl rfl ?_
  refine am_getR (t := 65) d_AS_findGroup_159 fl_AS_35 hg (by decide) sh_52 (by decide) rfl (by decide) lk_52_10 (by decide) ?_
  refine am_iload (j := 0) d_AS_findGroup_162 rfl ?_
  refine am_iconst (v := (3 : Int32)) d_AS_findGroup_164 (by decide) ?_
  refine am_iadd d_AS_findGroup_165 ?_
  refine am_iload (j := 6) d_AS_findGroup_166 rfl ?_
  obtain ⟨hv, h⟩ := h
  refine am_iast d_AS_findGroup_168 (by decide) sh_65 hv ?_
  refine am_aload_n (j := 1) d_AS_findGroup_169 rfl rfl ?_
  refine am_getR (t := 65) d_AS_findGroup_170 fl_AS_35 hg (by decide) sh_52 (by decide) rfl (by decide) lk_52_10 (by decide) ?_
  refine am_iload (j := 0) d_AS_findGroup_173 rfl ?_
  refine am_iconst (v := (4 : Int32)) d_AS_findGroup_175 (by decide) ?_
  refine am_iadd d_AS_findGroup_176 ?_
  refine am_iload (j := 7) d_AS_findGroup_177 rfl ?_
  obtain ⟨hv, h⟩ := h
  refine am_iast d_AS_findGroup_179 (by decide) sh_65 hv ?_
  exact am_vret d_AS_findGroup_180 rfl (by decide) (by decide) am_oM_ok
def f_AS_findGroup_16  : Nat → am_M → Nat → Int32 → Int32 → Int32 → Int32 → Int32 → Int32 → am_M
  | 0, s, x1, x2, x3, x4, x5, x6, x7 => s
  | n + 1, s, x1, x2, x3, x4, x5, x6, x7 => (if (s 52 4) ≤ x7 then (f_AS_findGroup_114 s x1 x2 x3 x4 x5 x6 x7) else (if (f_AS_get s x7 (s x1 4)) = (s 63 (x2).toNatClampNeg) then (if x5 = (-1000000 : Int32) then (f_AS_findGroup_90 (f_AS_findGroup_16  n) s x1 x2 (x3 + (1 : Int32)) (x4 + (f_CB_orZero s (f_AS_get s x7 (s x1 6)))) x5 x6 x7 (f_AS_get s x7 (s x1 6))) else (if (f_AS_get s x7 (s x1 6)) = (-1000000 : Int32) then (f_AS_findGroup_95 (f_AS_findGroup_16  n) s x1 x2 (x3 + (1 : Int32)) (x4 + (f_CB_orZero s (f_AS_get s x7 (s x1 6)))) x5 x6 x7 (f_AS_get s x7 (s x1 6))) else (if x5 ≤ (f_AS_get s x7 (s x1 6)) then (f_AS_findGroup_95 (f_AS_findGroup_16  n) s x1 x2 (x3 + (1 : Int32)) (x4 + (f_CB_orZero s (f_AS_get s x7 (s x1 6)))) x5 x6 x7 (f_AS_get s x7 (s x1 6))) else (f_AS_findGroup_90 (f_AS_findGroup_16  n) s x1 x2 (x3 + (1 : Int32)) (x4 + (f_CB_orZero s (f_AS_get s x7 (s x1 6)))) x5 x6 x7 (f_AS_get s x7 (s x1 6)))))) else (f_AS_findGroup_108 (f_AS_findGroup_16  n) s x1 x2 x3 x4 x5 x6 x7)))
def p_AS_findGroup_16  : Nat → am_M → Nat → Int32 → Int32 → Int32 → Int32 → Int32 → Int32 → Prop
  | 0, s, x1, x2, x3, x4, x5, x6, x7 => False
  | n + 1, s, x1, x2, x3, x4, x5, x6, x7 => (((s 52 4) ≤ x7) → (p_AS_findGroup_114 s x1 x2 x3 x4 x5 x6 x7)) ∧ (¬ ((s 52 4) ≤ x7) → (x1 < 207 ∧ am_sh x1 = (0, 4, 17)) ∧ (p_AS_get s x7 (s x1 4) ∧ (vp_in x2 30 ∧ ((((f_AS_get s x7 (s x1 4)) = (s 63 (x2).toNatClampNeg)) → p_AS_get s x7 (s x1 6) ∧ (((x5 = (-1000000 : Int32)) → (p_AS_findGroup_90 (p_AS_findGroup_16  n) s x1 x2 (x3 + (1 : Int32)) (x4 + (f_CB_orZero s (f_AS_get s x7 (s x1 6)))) x5 x6 x7 (f_AS_get s x7 (s x1 6)))) ∧ (¬ (x5 = (-1000000 : Int32)) → (((f_AS_get s x7 (s x1 6)) = (-1000000 : Int32)) → (p_AS_findGroup_95 (p_AS_findGroup_16  n) s x1 x2 (x3 + (1 : Int32)) (x4 + (f_CB_orZero s (f_AS_get s x7 (s x1 6)))) x5 x6 x7 (f_AS_get s x7 (s x1 6)))) ∧ (¬ ((f_AS_get s x7 (s x1 6)) = (-1000000 : Int32)) → ((x5 ≤ (f_AS_get s x7 (s x1 6))) → (p_AS_findGroup_95 (p_AS_findGroup_16  n) s x1 x2 (x3 + (1 : Int32)) (x4 + (f_CB_orZero s (f_AS_get s x7 (s x1 6)))) x5 x6 x7 (f_AS_get s x7 (s x1 6)))) ∧ (¬ (x5 ≤ (f_AS_get s x7 (s x1 6))) → (p_AS_findGroup_90 (p_AS_findGroup_16  n) s x1 x2 (x3 + (1 : Int32)) (x4 + (f_CB_orZero s (f_AS_get s x7 (s x1 6)))) x5 x6 x7 (f_AS_get s x7 (s x1 6)))))))) ∧ (¬ ((f_AS_get s x7 (s x1 4)) = (s 63 (x2).toNatClampNeg)) → (p_AS_findGroup_108 (p_AS_findGroup_16  n) s x1 x2 x3 x4 x5 x6 x7))))))
set_option maxRecDepth 8000 in
theorem w_AS_findGroup_16 {l : Launch} {g : am_Gl} (hg : g.2.2.2.1 = true) {ad0 : Nat → Nat}   : ∀ (n : Nat) (s : am_M) (x1 : Nat) (x2 : Int32) (x3 : Int32) (x4 : Int32) (x5 : Int32) (x6 : Int32) (x7 : Int32), p_AS_findGroup_16  n s x1 x2 x3 x4 x5 x6 x7 → AW l g m_AS_findGroup 207 ad0 (am_oM (f_AS_findGroup_16  n s x1 x2 x3 x4 x5 x6 x7)) 0 0 207 s 16 [(0, .ref 52), (1, .ref x1), (2, .int x2), (3, .int x3), (4, .int x4), (5, .int x5), (6, .int x6), (7, .int x7)] [] := by
  intro n
  induction n with
  | zero => intro s x1 x2 x3 x4 x5 x6 x7 h; exact h.elim
  | succ n hK16 =>
    intro s x1 x2 x3 x4 x5 x6 x7 h
    refine am_iload (j := 7) d_AS_findGroup_16 rfl ?_
    refine am_aload_n (j := 0) d_AS_findGroup_18 rfl rfl ?_
    refine am_getI d_AS_findGroup_19 fl_AS_134 (by decide) sh_52 (by decide) rfl ?_
    refine aj_ge (F := am_oM) (tgt := 114) d_AS_findGroup_22 (by decide) (fun c => ?_) (fun c => ?_)
    · have h := h.1 c
      exact w_AS_findGroup_114 hg h
    · have h := h.2 c
      refine am_aload_n (j := 0) d_AS_findGroup_25 rfl rfl ?_
      refine am_iload (j := 7) d_AS_findGroup_26 rfl ?_
      refine am_aload_n (j := 1) d_AS_findGroup_28 rfl rfl ?_
      obtain ⟨⟨b1, t1⟩, h⟩ := h
      refine am_getI d_AS_findGroup_29 fl_AS_80 b1 t1 (by decide) rfl ?_
      obtain ⟨hc, h⟩ := h
      refine ak_VI (as := [.int x7, .int (s x1 4)]) (rest := []) d_AS_findGroup_32 cw_AS_findGroup_32 rfl rfl rfl (ct_AS_get hg hc) rfl rfl (by decide) sh_52 rfl (Nat.le_of_ble_eq_true rfl) (by decide) (by decide) ?_
      refine am_aload_n (j := 0) d_AS_findGroup_35 rfl rfl ?_
      refine am_getR (t := 63) d_AS_findGroup_36 fl_AS_29 hg (by decide) sh_52 (by decide) rfl (by decide) lk_52_8 (by decide) ?_
      refine am_iload_n (j := 2) d_AS_findGroup_39 rfl rfl ?_
      obtain ⟨hv, h⟩ := h
      refine am_iald d_AS_findGroup_40 (by decide) sh_63 hv ?_
      refine aj_ne (F := am_oM) (tgt := 108) d_AS_findGroup_41 (by decide) (fun c => ?_) (fun c => ?_)
      · have h := h.2 c
        exact w_AS_findGroup_108 hg hK16 h
      · have h := h.1 c
        refine am_iinc (j := 3) (v := (x3 + (1 : Int32))) (lv2 := [(3, .int (x3 + (1 : Int32))), (0, .ref 52), (1, .ref x1), (2, .int x2), (4, .int x4), (5, .int x5), (6, .int x6), (7, .int x7)]) d_AS_findGroup_44 rfl rfl (by decide) rfl ?_
        refine am_aload_n (j := 1) d_AS_findGroup_47 rfl rfl ?_
        refine am_iload (j := 7) d_AS_findGroup_48 rfl ?_
        refine am_aload_n (j := 2) d_AS_findGroup_50 rfl rfl ?_
        refine am_getI d_AS_findGroup_51 fl_AS_86 b1 t1 (by decide) rfl ?_
        obtain ⟨hc, h⟩ := h
        refine ak_VI (as := [.int x7, .int (s x1 6)]) (rest := []) d_AS_findGroup_54 cw_AS_findGroup_54 rfl rfl rfl (ct_AS_get hg hc) rfl rfl (by decide) sh_52 rfl (Nat.le_of_ble_eq_true rfl) (by decide) (by decide) ?_
        refine am_istore (lv2 := [(8, .int (f_AS_get s x7 (s x1 6))), (3, .int (x3 + (1 : Int32))), (0, .ref 52), (1, .ref x1), (2, .int x2), (4, .int x4), (5, .int x5), (6, .int x6), (7, .int x7)]) d_AS_findGroup_57 (by decide) rfl ?_
        refine am_iload (j := 5) d_AS_findGroup_59 rfl ?_
        refine am_iload (j := 0) d_AS_findGroup_61 rfl ?_
        refine ak_SNI (as := [.int (f_AS_get s x7 (s x1 6))]) (rest := [.int x4]) d_AS_findGroup_63 cw_AS_findGroup_63 rfl rfl rfl (ct_CB_orZero hg) rfl rfl (Nat.le_of_ble_eq_true rfl) (by decide) (by decide) ?_
        refine am_iadd d_AS_findGroup_66 ?_
        refine am_istore (lv2 := [(4, .int (x4 + (f_CB_orZero s (f_AS_get s x7 (s x1 6))))), (8, .int (f_AS_get s x7 (s x1 6))), (3, .int (x3 + (1 : Int32))), (0, .ref 52), (1, .ref x1), (2, .int x2), (5, .int x5), (6, .int x6), (7, .int x7)]) d_AS_findGroup_67 (by decide) rfl ?_
        refine am_iload (j := 6) d_AS_findGroup_69 rfl ?_
        refine am_ldc (v := (-1000000 : Int32)) d_AS_findGroup_71 aw_3_138 ?_
        refine aj_eq (F := am_oM) (tgt := 90) d_AS_findGroup_73 (by decide) (fun c => ?_) (fun c => ?_)
        · have h := h.1 c
          refine am_sub [3, 4, 5, 2, 0, 6, 7, 8, 1] (lv2 := [(0, .ref 52), (1, .ref x1), (2, .int x2), (3, .int (x3 + (1 : Int32))), (4, .int (x4 + (f_CB_orZero s (f_AS_get s x7 (s x1 6))))), (5, .int x5), (6, .int x6), (7, .int x7), (8, .int (f_AS_get s x7 (s x1 6)))]) rfl ?_
          exact w_AS_findGroup_90 hg hK16 h
        · have h := h.2 c
          refine am_iload (j := 1) d_AS_findGroup_76 rfl ?_
          refine am_ldc (v := (-1000000 : Int32)) d_AS_findGroup_78 aw_3_138 ?_
          refine aj_eq (F := am_oM) (tgt := 95) d_AS_findGroup_80 (by decide) (fun c => ?_) (fun c => ?_)
          · have h := h.1 c
            refine am_sub [3, 4, 5, 2, 0, 6, 7, 8, 1] (lv2 := [(0, .ref 52), (1, .ref x1), (2, .int x2), (3, .int (x3 + (1 : Int32))), (4, .int (x4 + (f_CB_orZero s (f_AS_get s x7 (s x1 6))))), (5, .int x5), (6, .int x6), (7, .int x7), (8, .int (f_AS_get s x7 (s x1 6)))]) rfl ?_
            exact w_AS_findGroup_95 hg hK16 h
          · have h := h.2 c
            refine am_iload (j := 1) d_AS_findGroup_83 rfl ?_
            refine am_iload (j := 6) d_AS_findGroup_85 rfl ?_
            refine aj_ge (F := am_oM) (tgt := 95) d_AS_findGroup_87 (by decide) (fun c => ?_) (fun c => ?_)
            · have h := h.1 c
              refine am_sub [3, 4, 5, 2, 0, 6, 7, 8, 1] (lv2 := [(0, .ref 52), (1, .ref x1), (2, .int x2), (3, .int (x3 + (1 : Int32))), (4, .int (x4 + (f_CB_orZero s (f_AS_get s x7 (s x1 6))))), (5, .int x5), (6, .int x6), (7, .int x7), (8, .int (f_AS_get s x7 (s x1 6)))]) rfl ?_
              exact w_AS_findGroup_95 hg hK16 h
            · have h := h.2 c
              refine am_sub [3, 4, 5, 2, 0, 6, 7, 8, 1] (lv2 := [(0, .ref 52), (1, .ref x1), (2, .int x2), (3, .int (x3 + (1 : Int32))), (4, .int (x4 + (f_CB_orZero s (f_AS_get s x7 (s x1 6))))), (5, .int x5), (6, .int x6), (7, .int x7), (8, .int (f_AS_get s x7 (s x1 6)))]) rfl ?_
              exact w_AS_findGroup_90 hg hK16 h
def f_AS_findGroup  (s : am_M) (x1 : Nat) (x2 : Int32) : am_M := (f_AS_findGroup_16 am_F s x1 x2 (0 : Int32) (0 : Int32) (-1000000 : Int32) (-1000000 : Int32) (0 : Int32))
def p_AS_findGroup  (s : am_M) (x1 : Nat) (x2 : Int32) : Prop := (p_AS_findGroup_16 am_F s x1 x2 (0 : Int32) (0 : Int32) (-1000000 : Int32) (-1000000 : Int32) (0 : Int32))
set_option maxRecDepth 8000 in
theorem w_AS_findGroup {l : Launch} {g : am_Gl} (hg : g.2.2.2.1 = true) {ad0 : Nat → Nat} {s : am_M} {x1 : Nat} {x2 : Int32} (h : p_AS_findGroup s x1 x2) : AW l g m_AS_findGroup 207 ad0 (am_oM (f_AS_findGroup s x1 x2)) 0 0 207 s 0 [(0, .ref 52), (1, .ref x1), (2, .int x2)] [] := by
  refine am_iconst (v := (0 : Int32)) d_AS_findGroup_0 (by decide) ?_
  refine am_istore_n (lv2 := [(3, .int (0 : Int32)), (0, .ref 52), (1, .ref x1), (2, .int x2)]) d_AS_findGroup_1 rfl (by decide) rfl ?_
  refine am_iconst (v := (0 : Int32)) d_AS_findGroup_2 (by decide) ?_
  refine am_istore (lv2 := [(4, .int (0 : Int32)), (3, .int (0 : Int32)), (0, .ref 52), (1, .ref x1), (2, .int x2)]) d_AS_findGroup_3 (by decide) rfl ?_
  refine am_ldc (v := (-1000000 : Int32)) d_AS_findGroup_5 aw_3_138 ?_
  refine am_istore (lv2 := [(5, .int (-1000000 : Int32)), (4, .int (0 : Int32)), (3, .int (0 : Int32)), (0, .ref 52), (1, .ref x1), (2, .int x2)]) d_AS_findGroup_7 (by decide) rfl ?_
  refine am_ldc (v := (-1000000 : Int32)) d_AS_findGroup_9 aw_3_138 ?_
  refine am_istore (lv2 := [(6, .int (-1000000 : Int32)), (5, .int (-1000000 : Int32)), (4, .int (0 : Int32)), (3, .int (0 : Int32)), (0, .ref 52), (1, .ref x1), (2, .int x2)]) d_AS_findGroup_11 (by decide) rfl ?_
  refine am_iconst (v := (0 : Int32)) d_AS_findGroup_13 (by decide) ?_
  refine am_istore (lv2 := [(7, .int (0 : Int32)), (6, .int (-1000000 : Int32)), (5, .int (-1000000 : Int32)), (4, .int (0 : Int32)), (3, .int (0 : Int32)), (0, .ref 52), (1, .ref x1), (2, .int x2)]) d_AS_findGroup_14 (by decide) rfl ?_
  refine am_sub [5, 6, 7, 4, 3, 2, 1, 0] (lv2 := [(0, .ref 52), (1, .ref x1), (2, .int x2), (3, .int (0 : Int32)), (4, .int (0 : Int32)), (5, .int (-1000000 : Int32)), (6, .int (-1000000 : Int32)), (7, .int (0 : Int32))]) rfl ?_
  exact w_AS_findGroup_16 hg am_F _ _ _ _ _ _ _ _ h
theorem ct_AS_findGroup {l : Launch} {g : am_Gl} (hg : g.2.2.2.1 = true) {s : am_M} {x1 : Nat} {x2 : Int32} (h : p_AS_findGroup s x1 x2) : AC l g m_AS_findGroup 207 s [.ref 52, .ref x1, .int x2] (am_oM (f_AS_findGroup s x1 x2)) := am_enter ok_AS_findGroup rfl (Nat.le_of_ble_eq_true rfl) rfl (fun ad0 => w_AS_findGroup hg h)
theorem cw_AS_takeSpare_45 : am_cv m_AS_takeSpare m_AS_set 151 3 := ⟨⟨ok_AS_set, rfl, by decide +kernel, by decide, by decide⟩, aw_3_117, aw_3_119, as_1_15⟩
def f_AS_takeSpare_54 (K2 : am_M → Int32 → Int32 → Int32 → am_M) (s : am_M) (x1 : Int32) (x2 : Int32) (x3 : Int32) (x4 : Int32) : am_M := (K2 s x1 x2 (x3 + (1 : Int32)))
def p_AS_takeSpare_54 (KP2 : am_M → Int32 → Int32 → Int32 → Prop) (s : am_M) (x1 : Int32) (x2 : Int32) (x3 : Int32) (x4 : Int32) : Prop := (KP2 s x1 x2 (x3 + (1 : Int32)))
set_option maxRecDepth 8000 in
theorem w_AS_takeSpare_54 {l : Launch} {g : am_Gl} (hg : g.2.2.2.1 = true) {ad0 : Nat → Nat} {K2 : am_M → Int32 → Int32 → Int32 → am_M} {KP2 : am_M → Int32 → Int32 → Int32 → Prop} (hK2 : ∀ (s : am_M) (x1 : Int32) (x2 : Int32) (x3 : Int32), KP2 s x1 x2 x3 → AW l g m_AS_takeSpare 207 ad0 (am_oM (K2 s x1 x2 x3)) 0 0 207 s 2 [(0, .ref 52), (1, .int x1), (2, .int x2), (3, .int x3)] []) {s : am_M} {x1 : Int32} {x2 : Int32} {x3 : Int32} {x4 : Int32} (h : p_AS_takeSpare_54 KP2 s x1 x2 x3 x4) : AW l g m_AS_takeSpare 207 ad0 (am_oM (f_AS_takeSpare_54 K2 s x1 x2 x3 x4)) 0 0 207 s 54 [(0, .ref 52), (1, .int x1), (2, .int x2), (3, .int x3), (4, .int x4)] [] := by
  refine am_iinc (j := 3) (v := (x3 + (1 : Int32))) (lv2 := [(3, .int (x3 + (1 : Int32))), (0, .ref 52), (1, .int x1), (2, .int x2), (4, .int x4)]) d_AS_takeSpare_54 rfl rfl (by decide) rfl ?_
  refine am_goto (tgt := 2) d_AS_takeSpare_57 (by decide) ?_
  refine am_sub [1, 2, 3, 0] (lv2 := [(0, .ref 52), (1, .int x1), (2, .int x2), (3, .int (x3 + (1 : Int32)))]) rfl ?_
  exact hK2 _ _ _ _ h
def f_AS_takeSpare_16 (K2 : am_M → Int32 → Int32 → Int32 → am_M) : Nat → am_M → Int32 → Int32 → Int32 → Int32 → am_M
  | 0, s, x1, x2, x3, x4 => s
  | n + 1, s, x1, x2, x3, x4 => (if x2 ≤ x4 then (f_AS_takeSpare_54 K2 s x1 x2 x3 x4) else (if (31 : Int32) ≤ x4 then (f_AS_takeSpare_54 K2 s x1 x2 x3 x4) else ((f_AS_takeSpare_16 K2 n) (f_AS_set s x3 x4 (s 65 (((x3 * (31 : Int32)) + x4)).toNatClampNeg)) x1 x2 x3 (x4 + (1 : Int32)))))
def p_AS_takeSpare_16 (KP2 : am_M → Int32 → Int32 → Int32 → Prop) : Nat → am_M → Int32 → Int32 → Int32 → Int32 → Prop
  | 0, s, x1, x2, x3, x4 => False
  | n + 1, s, x1, x2, x3, x4 => ((x2 ≤ x4) → (p_AS_takeSpare_54 KP2 s x1 x2 x3 x4)) ∧ (¬ (x2 ≤ x4) → (((31 : Int32) ≤ x4) → (p_AS_takeSpare_54 KP2 s x1 x2 x3 x4)) ∧ (¬ ((31 : Int32) ≤ x4) → vp_in ((x3 * (31 : Int32)) + x4) 930 ∧ (p_AS_set s x3 x4 (s 65 (((x3 * (31 : Int32)) + x4)).toNatClampNeg) ∧ (((p_AS_takeSpare_16 KP2 n) (f_AS_set s x3 x4 (s 65 (((x3 * (31 : Int32)) + x4)).toNatClampNeg)) x1 x2 x3 (x4 + (1 : Int32)))))))
set_option maxRecDepth 8000 in
theorem w_AS_takeSpare_16 {l : Launch} {g : am_Gl} (hg : g.2.2.2.1 = true) {ad0 : Nat → Nat} {K2 : am_M → Int32 → Int32 → Int32 → am_M} {KP2 : am_M → Int32 → Int32 → Int32 → Prop}  (hK2 : ∀ (s : am_M) (x1 : Int32) (x2 : Int32) (x3 : Int32), KP2 s x1 x2 x3 → AW l g m_AS_takeSpare 207 ad0 (am_oM (K2 s x1 x2 x3)) 0 0 207 s 2 [(0, .ref 52), (1, .int x1), (2, .int x2), (3, .int x3)] []) : ∀ (n : Nat) (s : am_M) (x1 : Int32) (x2 : Int32) (x3 : Int32) (x4 : Int32), p_AS_takeSpare_16 KP2 n s x1 x2 x3 x4 → AW l g m_AS_takeSpare 207 ad0 (am_oM (f_AS_takeSpare_16 K2 n s x1 x2 x3 x4)) 0 0 207 s 16 [(0, .ref 52), (1, .int x1), (2, .int x2), (3, .int x3), (4, .int x4)] [] := by
  intro n
  induction n with
  | zero => intro s x1 x2 x3 x4 h; exact h.elim
  | succ n hK16 =>
    intro s x1 x2 x3 x4 h
    refine am_iload (j := 4) d_AS_takeSpare_16 rfl ?_
    refine am_iload_n (j := 2) d_AS_takeSpare_18 rfl rfl ?_
    refine aj_ge (F := am_oM) (tgt := 54) d_AS_takeSpare_19 (by decide) (fun c => ?_) (fun c => ?_)
    · have h := h.1 c
      exact w_AS_takeSpare_54 hg hK2 h
    · have h := h.2 c
      refine am_iload (j := 4) d_AS_takeSpare_22 rfl ?_
      refine am_bipush (v := (31 : Int32)) d_AS_takeSpare_24 (by decide) ?_
      refine aj_ge (F := am_oM) (tgt := 54) d_AS_takeSpare_26 (by decide) (fun c => ?_) (fun c => ?_)
      · have h := h.1 c
        exact w_AS_takeSpare_54 hg hK2 h
      · have h := h.2 c
        refine am_aload_n (j := 0) d_AS_takeSpare_29 rfl rfl ?_
        refine am_iload_n (j := 3) d_AS_takeSpare_30 rfl rfl ?_
        refine am_iload (j := 4) d_AS_takeSpare_31 rfl ?_
        refine am_aload_n (j := 0) d_AS_takeSpare_33 rfl rfl ?_
        refine am_getR (t := 65) d_AS_takeSpare_34 fl_AS_35 hg (by decide) sh_52 (by decide) rfl (by decide) lk_52_10 (by decide) ?_
        refine am_iload_n (j := 3) d_AS_takeSpare_37 rfl rfl ?_
        refine am_bipush (v := (31 : Int32)) d_AS_takeSpare_38 (by decide) ?_
        refine am_imul d_AS_takeSpare_40 ?_
        refine am_iload (j := 4) d_AS_takeSpare_41 rfl ?_
        refine am_iadd d_AS_takeSpare_43 ?_
        obtain ⟨hv, h⟩ := h
        refine am_iald d_AS_takeSpare_44 (by decide) sh_65 hv ?_
        obtain ⟨hc, h⟩ := h
        refine ak_VM (as := [.int x3, .int x4, .int (s 65 (((x3 * (31 : Int32)) + x4)).toNatClampNeg)]) (rest := []) d_AS_takeSpare_45 cw_AS_takeSpare_45 rfl rfl rfl (ct_AS_set hg hc) rfl rfl (by decide) sh_52 rfl (Nat.le_of_ble_eq_true rfl) (by decide) (by decide) ?_
        refine am_iinc (j := 4) (v := (x4 + (1 : Int32))) (lv2 := [(4, .int (x4 + (1 : Int32))), (0, .ref 52), (1, .int x1), (2, .int x2), (3, .int x3)]) d_AS_takeSpare_48 rfl rfl (by decide) rfl ?_
        refine am_goto (tgt := 16) d_AS_takeSpare_51 (by decide) ?_
        refine am_sub [1, 2, 3, 4, 0] (lv2 := [(0, .ref 52), (1, .int x1), (2, .int x2), (3, .int x3), (4, .int (x4 + (1 : Int32)))]) rfl ?_
        exact hK16 _ _ _ _ _ h
def f_AS_takeSpare_2  : Nat → am_M → Int32 → Int32 → Int32 → am_M
  | 0, s, x1, x2, x3 => s
  | n + 1, s, x1, x2, x3 => (if x1 ≤ x3 then (am_set (am_set s 52 4 x1) 52 5 x2) else (if (30 : Int32) ≤ x3 then (am_set (am_set s 52 4 x1) 52 5 x2) else (f_AS_takeSpare_16 (f_AS_takeSpare_2  n) am_F s x1 x2 x3 (0 : Int32))))
def p_AS_takeSpare_2  : Nat → am_M → Int32 → Int32 → Int32 → Prop
  | 0, s, x1, x2, x3 => False
  | n + 1, s, x1, x2, x3 => ((x1 ≤ x3) → True) ∧ (¬ (x1 ≤ x3) → (((30 : Int32) ≤ x3) → True) ∧ (¬ ((30 : Int32) ≤ x3) → (p_AS_takeSpare_16 (p_AS_takeSpare_2  n) am_F s x1 x2 x3 (0 : Int32))))
set_option maxRecDepth 8000 in
theorem w_AS_takeSpare_2 {l : Launch} {g : am_Gl} (hg : g.2.2.2.1 = true) {ad0 : Nat → Nat}   : ∀ (n : Nat) (s : am_M) (x1 : Int32) (x2 : Int32) (x3 : Int32), p_AS_takeSpare_2  n s x1 x2 x3 → AW l g m_AS_takeSpare 207 ad0 (am_oM (f_AS_takeSpare_2  n s x1 x2 x3)) 0 0 207 s 2 [(0, .ref 52), (1, .int x1), (2, .int x2), (3, .int x3)] [] := by
  intro n
  induction n with
  | zero => intro s x1 x2 x3 h; exact h.elim
  | succ n hK2 =>
    intro s x1 x2 x3 h
    refine am_iload_n (j := 3) d_AS_takeSpare_2 rfl rfl ?_
    refine am_iload_n (j := 1) d_AS_takeSpare_3 rfl rfl ?_
    refine aj_ge (F := am_oM) (tgt := 60) d_AS_takeSpare_4 (by decide) (fun c => ?_) (fun c => ?_)
    · have h := h.1 c
      refine am_aload_n (j := 0) d_AS_takeSpare_60 rfl rfl ?_
      refine am_iload_n (j := 1) d_AS_takeSpare_61 rfl rfl ?_
      refine am_putI (ty := .int) d_AS_takeSpare_62 fl_AS_134 ft_1_4 (by decide) sh_52 (by decide) rfl rfl rfl ?_
      refine am_aload_n (j := 0) d_AS_takeSpare_65 rfl rfl ?_
      refine am_iload_n (j := 2) d_AS_takeSpare_66 rfl rfl ?_
      refine am_putI (ty := .int) d_AS_takeSpare_67 fl_AS_63 ft_1_5 (by decide) sh_52 (by decide) rfl rfl rfl ?_
      exact am_vret d_AS_takeSpare_70 rfl (by decide) (by decide) am_oM_ok
    · have h := h.2 c
      refine am_iload_n (j := 3) d_AS_takeSpare_7 rfl rfl ?_
      refine am_bipush (v := (30 : Int32)) d_AS_takeSpare_8 (by decide) ?_
      refine aj_ge (F := am_oM) (tgt := 60) d_AS_takeSpare_10 (by decide) (fun c => ?_) (fun c => ?_)
      · have h := h.1 c
        refine am_aload_n (j := 0) d_AS_takeSpare_60 rfl rfl ?_
        refine am_iload_n (j := 1) d_AS_takeSpare_61 rfl rfl ?_
        refine am_putI (ty := .int) d_AS_takeSpare_62 fl_AS_134 ft_1_4 (by decide) sh_52 (by decide) rfl rfl rfl ?_
        refine am_aload_n (j := 0) d_AS_takeSpare_65 rfl rfl ?_
        refine am_iload_n (j := 2) d_AS_takeSpare_66 rfl rfl ?_
        refine am_putI (ty := .int) d_AS_takeSpare_67 fl_AS_63 ft_1_5 (by decide) sh_52 (by decide) rfl rfl rfl ?_
        exact am_vret d_AS_takeSpare_70 rfl (by decide) (by decide) am_oM_ok
      · have h := h.2 c
        refine am_iconst (v := (0 : Int32)) d_AS_takeSpare_13 (by decide) ?_
        refine am_istore (lv2 := [(4, .int (0 : Int32)), (0, .ref 52), (1, .int x1), (2, .int x2), (3, .int x3)]) d_AS_takeSpare_14 (by decide) rfl ?_
        refine am_sub [1, 2, 3, 4, 0] (lv2 := [(0, .ref 52), (1, .int x1), (2, .int x2), (3, .int x3), (4, .int (0 : Int32))]) rfl ?_
        exact w_AS_takeSpare_16 hg hK2 am_F _ _ _ _ _ h
def f_AS_takeSpare  (s : am_M) (x1 : Int32) (x2 : Int32) : am_M := (f_AS_takeSpare_2 am_F s x1 x2 (0 : Int32))
def p_AS_takeSpare  (s : am_M) (x1 : Int32) (x2 : Int32) : Prop := (p_AS_takeSpare_2 am_F s x1 x2 (0 : Int32))
set_option maxRecDepth 8000 in
theorem w_AS_takeSpare {l : Launch} {g : am_Gl} (hg : g.2.2.2.1 = true) {ad0 : Nat → Nat} {s : am_M} {x1 : Int32} {x2 : Int32} (h : p_AS_takeSpare s x1 x2) : AW l g m_AS_takeSpare 207 ad0 (am_oM (f_AS_takeSpare s x1 x2)) 0 0 207 s 0 [(0, .ref 52), (1, .int x1), (2, .int x2)] [] := by
  refine am_iconst (v := (0 : Int32)) d_AS_takeSpare_0 (by decide) ?_
  refine am_istore_n (lv2 := [(3, .int (0 : Int32)), (0, .ref 52), (1, .int x1), (2, .int x2)]) d_AS_takeSpare_1 rfl (by decide) rfl ?_
  refine am_sub [1, 2, 3, 0] (lv2 := [(0, .ref 52), (1, .int x1), (2, .int x2), (3, .int (0 : Int32))]) rfl ?_
  exact w_AS_takeSpare_2 hg am_F _ _ _ _ h
theorem ct_AS_takeSpare {l : Launch} {g : am_Gl} (hg : g.2.2.2.1 = true) {s : am_M} {x1 : Int32} {x2 : Int32} (h : p_AS_takeSpare s x1 x2) : AC l g m_AS_takeSpare 207 s [.ref 52, .int x1, .int x2] (am_oM (f_AS_takeSpare s x1 x2)) := am_enter ok_AS_takeSpare rfl (Nat.le_of_ble_eq_true rfl) rfl (fun ad0 => w_AS_takeSpare hg h)
theorem cw_AS_findGroups_9 : am_cv m_AS_findGroups m_AS_gather 203 2 := ⟨⟨ok_AS_gather, rfl, by decide +kernel, by decide, by decide⟩, aw_3_155, aw_3_157, as_2_6⟩
theorem cw_AS_findGroups_41 : am_cv m_AS_findGroups m_AS_takeSpare 211 2 := ⟨⟨ok_AS_takeSpare, rfl, by decide +kernel, by decide, by decide⟩, aw_3_172, aw_3_174, as_2_9⟩
theorem cw_AS_findGroups_29 : am_cv m_AS_findGroups m_AS_findGroup 207 2 := ⟨⟨ok_AS_findGroup, rfl, by decide +kernel, by decide, by decide⟩, aw_3_163, aw_3_165, as_2_8⟩
def f_AS_findGroups_15  : Nat → am_M → Nat → Int32 → Int32 → am_M
  | 0, s, x1, x2, x3 => s
  | n + 1, s, x1, x2, x3 => (if x2 ≤ x3 then (f_AS_takeSpare s x2 (5 : Int32)) else (if (30 : Int32) ≤ x3 then (f_AS_takeSpare s x2 (5 : Int32)) else ((f_AS_findGroups_15  n) (f_AS_findGroup s x1 x3) x1 x2 (x3 + (1 : Int32)))))
def p_AS_findGroups_15  : Nat → am_M → Nat → Int32 → Int32 → Prop
  | 0, s, x1, x2, x3 => False
  | n + 1, s, x1, x2, x3 => ((x2 ≤ x3) → p_AS_takeSpare s x2 (5 : Int32) ∧ (True)) ∧ (¬ (x2 ≤ x3) → (((30 : Int32) ≤ x3) → p_AS_takeSpare s x2 (5 : Int32) ∧ (True)) ∧ (¬ ((30 : Int32) ≤ x3) → p_AS_findGroup s x1 x3 ∧ (((p_AS_findGroups_15  n) (f_AS_findGroup s x1 x3) x1 x2 (x3 + (1 : Int32))))))
set_option maxRecDepth 8000 in
theorem w_AS_findGroups_15 {l : Launch} {g : am_Gl} (hg : g.2.2.2.1 = true) {ad0 : Nat → Nat}   : ∀ (n : Nat) (s : am_M) (x1 : Nat) (x2 : Int32) (x3 : Int32), p_AS_findGroups_15  n s x1 x2 x3 → AW l g m_AS_findGroups 207 ad0 (am_oM (f_AS_findGroups_15  n s x1 x2 x3)) 0 0 207 s 15 [(0, .ref 52), (1, .ref x1), (2, .int x2), (3, .int x3)] [] := by
  intro n
  induction n with
  | zero => intro s x1 x2 x3 h; exact h.elim
  | succ n hK15 =>
    intro s x1 x2 x3 h
    refine am_iload_n (j := 3) d_AS_findGroups_15 rfl rfl ?_
    refine am_iload_n (j := 2) d_AS_findGroups_16 rfl rfl ?_
    refine aj_ge (F := am_oM) (tgt := 38) d_AS_findGroups_17 (by decide) (fun c => ?_) (fun c => ?_)
    · have h := h.1 c
      refine am_aload_n (j := 0) d_AS_findGroups_38 rfl rfl ?_
      refine am_iload_n (j := 2) d_AS_findGroups_39 rfl rfl ?_
      refine am_iconst (v := (5 : Int32)) d_AS_findGroups_40 (by decide) ?_
      obtain ⟨hc, h⟩ := h
      refine ak_VM (as := [.int x2, .int (5 : Int32)]) (rest := []) d_AS_findGroups_41 cw_AS_findGroups_41 rfl rfl rfl (ct_AS_takeSpare hg hc) rfl rfl (by decide) sh_52 rfl (Nat.le_of_ble_eq_true rfl) (by decide) (by decide) ?_
      exact am_vret d_AS_findGroups_44 rfl (by decide) (by decide) am_oM_ok
    · have h := h.2 c
      refine am_iload_n (j := 3) d_AS_findGroups_20 rfl rfl ?_
      refine am_bipush (v := (30 : Int32)) d_AS_findGroups_21 (by decide) ?_
      refine aj_ge (F := am_oM) (tgt := 38) d_AS_findGroups_23 (by decide) (fun c => ?_) (fun c => ?_)
      · have h := h.1 c
        refine am_aload_n (j := 0) d_AS_findGroups_38 rfl rfl ?_
        refine am_iload_n (j := 2) d_AS_findGroups_39 rfl rfl ?_
        refine am_iconst (v := (5 : Int32)) d_AS_findGroups_40 (by decide) ?_
        obtain ⟨hc, h⟩ := h
        refine ak_VM (as := [.int x2, .int (5 : Int32)]) (rest := []) d_AS_findGroups_41 cw_AS_findGroups_41 rfl rfl rfl (ct_AS_takeSpare hg hc) rfl rfl (by decide) sh_52 rfl (Nat.le_of_ble_eq_true rfl) (by decide) (by decide) ?_
        exact am_vret d_AS_findGroups_44 rfl (by decide) (by decide) am_oM_ok
      · have h := h.2 c
        refine am_aload_n (j := 0) d_AS_findGroups_26 rfl rfl ?_
        refine am_aload_n (j := 1) d_AS_findGroups_27 rfl rfl ?_
        refine am_iload_n (j := 3) d_AS_findGroups_28 rfl rfl ?_
        obtain ⟨hc, h⟩ := h
        refine ak_VM (as := [.ref x1, .int x3]) (rest := []) d_AS_findGroups_29 cw_AS_findGroups_29 rfl rfl rfl (ct_AS_findGroup hg hc) rfl rfl (by decide) sh_52 rfl (Nat.le_of_ble_eq_true rfl) (by decide) (by decide) ?_
        refine am_iinc (j := 3) (v := (x3 + (1 : Int32))) (lv2 := [(3, .int (x3 + (1 : Int32))), (0, .ref 52), (1, .ref x1), (2, .int x2)]) d_AS_findGroups_32 rfl rfl (by decide) rfl ?_
        refine am_goto (tgt := 15) d_AS_findGroups_35 (by decide) ?_
        refine am_sub [1, 2, 3, 0] (lv2 := [(0, .ref 52), (1, .ref x1), (2, .int x2), (3, .int (x3 + (1 : Int32)))]) rfl ?_
        exact hK15 _ _ _ _ h
def f_AS_findGroups  (s : am_M) (x1 : Nat) : am_M := (f_AS_findGroups_15 am_F (f_AS_gather s (s x1 4) 63).2 x1 (f_AS_gather s (s x1 4) 63).1 (0 : Int32))
def p_AS_findGroups  (s : am_M) (x1 : Nat) : Prop := (x1 < 207 ∧ am_sh x1 = (0, 4, 17)) ∧ (p_AS_gather s (s x1 4) 63 ∧ ((p_AS_findGroups_15 am_F (f_AS_gather s (s x1 4) 63).2 x1 (f_AS_gather s (s x1 4) 63).1 (0 : Int32))))
set_option maxRecDepth 8000 in
theorem w_AS_findGroups {l : Launch} {g : am_Gl} (hg : g.2.2.2.1 = true) {ad0 : Nat → Nat} {s : am_M} {x1 : Nat} (h : p_AS_findGroups s x1) : AW l g m_AS_findGroups 207 ad0 (am_oM (f_AS_findGroups s x1)) 0 0 207 s 0 [(0, .ref 52), (1, .ref x1)] [] := by
  refine am_aload_n (j := 0) d_AS_findGroups_0 rfl rfl ?_
  refine am_aload_n (j := 1) d_AS_findGroups_1 rfl rfl ?_
  obtain ⟨⟨b1, t1⟩, h⟩ := h
  refine am_getI d_AS_findGroups_2 fl_AS_80 b1 t1 (by decide) rfl ?_
  refine am_aload_n (j := 0) d_AS_findGroups_5 rfl rfl ?_
  refine am_getR (t := 63) d_AS_findGroups_6 fl_AS_29 hg (by decide) sh_52 (by decide) rfl (by decide) lk_52_8 (by decide) ?_
  obtain ⟨hc, h⟩ := h
  refine ak_VC (as := [.int (s x1 4), .ref 63]) (rest := []) d_AS_findGroups_9 cw_AS_findGroups_9 rfl rfl rfl (ct_AS_gather hg hc) rfl rfl (by decide) sh_52 rfl (Nat.le_of_ble_eq_true rfl) (by decide) (by decide) ?_
  refine am_istore_n (lv2 := [(2, .int (f_AS_gather s (s x1 4) 63).1), (0, .ref 52), (1, .ref x1)]) d_AS_findGroups_12 rfl (by decide) rfl ?_
  refine am_iconst (v := (0 : Int32)) d_AS_findGroups_13 (by decide) ?_
  refine am_istore_n (lv2 := [(3, .int (0 : Int32)), (2, .int (f_AS_gather s (s x1 4) 63).1), (0, .ref 52), (1, .ref x1)]) d_AS_findGroups_14 rfl (by decide) rfl ?_
  refine am_sub [2, 3, 1, 0] (lv2 := [(0, .ref 52), (1, .ref x1), (2, .int (f_AS_gather s (s x1 4) 63).1), (3, .int (0 : Int32))]) rfl ?_
  exact w_AS_findGroups_15 hg am_F _ _ _ _ h
theorem ct_AS_findGroups {l : Launch} {g : am_Gl} (hg : g.2.2.2.1 = true) {s : am_M} {x1 : Nat} (h : p_AS_findGroups s x1) : AC l g m_AS_findGroups 207 s [.ref 52, .ref x1] (am_oM (f_AS_findGroups s x1)) := am_enter ok_AS_findGroups rfl (Nat.le_of_ble_eq_true rfl) rfl (fun ad0 => w_AS_findGroups hg h)
theorem cw_AS_findCross_9 : am_cv m_AS_findCross m_AS_gather 203 2 := ⟨⟨ok_AS_gather, rfl, by decide +kernel, by decide, by decide⟩, aw_3_155, aw_3_157, as_2_6⟩
theorem cw_AS_findCross_22 : am_cv m_AS_findCross m_AS_gather 203 2 := ⟨⟨ok_AS_gather, rfl, by decide +kernel, by decide, by decide⟩, aw_3_155, aw_3_157, as_2_6⟩
theorem cw_AS_findCross_32 : am_cs m_AS_findCross m_JF_fill 227 2 := ⟨⟨ok_JF_fill, rfl, by decide +kernel, by decide, by decide⟩, aw_3_181, aw_0_125⟩
theorem cw_AS_findCross_60 : am_cv m_AS_findCross m_AS_get 171 2 := ⟨⟨ok_AS_get, rfl, by decide +kernel, by decide, by decide⟩, aw_3_134, aw_3_135, aw_3_136⟩
theorem cw_AS_findCross_63 : am_cv m_AS_findCross m_AS_placeIn 199 3 := ⟨⟨ok_AS_placeIn, rfl, by decide +kernel, by decide, by decide⟩, aw_3_159, aw_3_161, as_2_7⟩
theorem cw_AS_findCross_84 : am_cv m_AS_findCross m_AS_get 171 2 := ⟨⟨ok_AS_get, rfl, by decide +kernel, by decide, by decide⟩, aw_3_134, aw_3_135, aw_3_136⟩
theorem cw_AS_findCross_87 : am_cv m_AS_findCross m_AS_placeIn 199 3 := ⟨⟨ok_AS_placeIn, rfl, by decide +kernel, by decide, by decide⟩, aw_3_159, aw_3_161, as_2_7⟩
theorem cw_AS_findCross_143 : am_cv m_AS_findCross m_AS_get 171 2 := ⟨⟨ok_AS_get, rfl, by decide +kernel, by decide, by decide⟩, aw_3_134, aw_3_135, aw_3_136⟩
theorem cw_AS_findCross_146 : am_sn m_AS_findCross m_CB_orZero 214 1 := ⟨⟨ok_CB_orZero, rfl, by decide +kernel, by decide, by decide⟩, by decide +kernel, aw_2_188⟩
theorem cw_AS_findCross_220 : am_cv m_AS_findCross m_AS_takeSpare 211 2 := ⟨⟨ok_AS_takeSpare, rfl, by decide +kernel, by decide, by decide⟩, aw_3_172, aw_3_174, as_2_9⟩
theorem cw_AS_findCross_205 : am_sn m_AS_findCross m_CB_limited 222 1 := ⟨⟨ok_CB_limited, rfl, by decide +kernel, by decide, by decide⟩, by decide +kernel, aw_2_191⟩
def f_AS_findCross_151 (K38 : am_M → Nat → Int32 → Int32 → Int32 → am_M) (s : am_M) (x1 : Nat) (x2 : Int32) (x3 : Int32) (x4 : Int32) (x5 : Int32) : am_M := (K38 s x1 x2 x3 (x4 + (1 : Int32)))
def p_AS_findCross_151 (KP38 : am_M → Nat → Int32 → Int32 → Int32 → Prop) (s : am_M) (x1 : Nat) (x2 : Int32) (x3 : Int32) (x4 : Int32) (x5 : Int32) : Prop := (KP38 s x1 x2 x3 (x4 + (1 : Int32)))
set_option maxRecDepth 8000 in
theorem w_AS_findCross_151 {l : Launch} {g : am_Gl} (hg : g.2.2.2.1 = true) {ad0 : Nat → Nat} {K38 : am_M → Nat → Int32 → Int32 → Int32 → am_M} {KP38 : am_M → Nat → Int32 → Int32 → Int32 → Prop} (hK38 : ∀ (s : am_M) (x1 : Nat) (x2 : Int32) (x3 : Int32) (x4 : Int32), KP38 s x1 x2 x3 x4 → AW l g m_AS_findCross 207 ad0 (am_oM (K38 s x1 x2 x3 x4)) 0 0 207 s 38 [(0, .ref 52), (1, .ref x1), (2, .int x2), (3, .int x3), (4, .int x4)] []) {s : am_M} {x1 : Nat} {x2 : Int32} {x3 : Int32} {x4 : Int32} {x5 : Int32} (h : p_AS_findCross_151 KP38 s x1 x2 x3 x4 x5) : AW l g m_AS_findCross 207 ad0 (am_oM (f_AS_findCross_151 K38 s x1 x2 x3 x4 x5)) 0 0 207 s 151 [(0, .ref 52), (1, .ref x1), (2, .int x2), (3, .int x3), (4, .int x4), (5, .int x5)] [] := by
  refine am_iinc (j := 4) (v := (x4 + (1 : Int32))) (lv2 := [(4, .int (x4 + (1 : Int32))), (0, .ref 52), (1, .ref x1), (2, .int x2), (3, .int x3), (5, .int x5)]) d_AS_findCross_151 rfl rfl (by decide) rfl ?_
  refine am_goto (tgt := 38) d_AS_findCross_154 (by decide) ?_
  refine am_sub [1, 2, 3, 4, 0] (lv2 := [(0, .ref 52), (1, .ref x1), (2, .int x2), (3, .int x3), (4, .int (x4 + (1 : Int32)))]) rfl ?_
  exact hK38 _ _ _ _ _ h
def f_AS_findCross_126 (K38 : am_M → Nat → Int32 → Int32 → Int32 → am_M) (s : am_M) (x1 : Nat) (x2 : Int32) (x3 : Int32) (x4 : Int32) (x5 : Int32) (y0 : Int32) : am_M := (f_AS_findCross_151 K38 (am_set s 65 (x5).toNatClampNeg (y0 + (f_CB_orZero s (f_AS_get s x4 (s x1 6))))) x1 x2 x3 x4 x5)
def p_AS_findCross_126 (KP38 : am_M → Nat → Int32 → Int32 → Int32 → Prop) (s : am_M) (x1 : Nat) (x2 : Int32) (x3 : Int32) (x4 : Int32) (x5 : Int32) (y0 : Int32) : Prop := (x1 < 207 ∧ am_sh x1 = (0, 4, 17)) ∧ (p_AS_get s x4 (s x1 6) ∧ (vp_in x5 930 ∧ ((p_AS_findCross_151 KP38 (am_set s 65 (x5).toNatClampNeg (y0 + (f_CB_orZero s (f_AS_get s x4 (s x1 6))))) x1 x2 x3 x4 x5))))
set_option maxRecDepth 8000 in
theorem w_AS_findCross_126 {l : Launch} {g : am_Gl} (hg : g.2.2.2.1 = true) {ad0 : Nat → Nat} {K38 : am_M → Nat → Int32 → Int32 → Int32 → am_M} {KP38 : am_M → Nat → Int32 → Int32 → Int32 → Prop} (hK38 : ∀ (s : am_M) (x1 : Nat) (x2 : Int32) (x3 : Int32) (x4 : Int32), KP38 s x1 x2 x3 x4 → AW l g m_AS_findCross 207 ad0 (am_oM (K38 s x1 x2 x3 x4)) 0 0 207 s 38 [(0, .ref 52), (1, .ref x1), (2, .int x2), (3, .int x3), (4, .int x4)] []) {s : am_M} {x1 : Nat} {x2 : Int32} {x3 : Int32} {x4 : Int32} {x5 : Int32} {y0 : Int32} (h : p_AS_findCross_126 KP38 s x1 x2 x3 x4 x5 y0) : AW l g m_AS_findCross 207 ad0 (am_oM (f_AS_findCross_126 K38 s x1 x2 x3 x4 x5 y0)) 0 0 207 s 126 [(0, .ref 52), (1, .ref x1), (2, .int x2), (3, .int x3), (4, .int x4), (5, .int x5)] [.int y0] := by
  refine am_istore (lv2 := [(6, .int y0), (0, .ref 52), (1, .ref x1), (2, .int x2), (3, .int x3), (4, .int x4), (5, .int x5)]) d_AS_findCross_126 (by decide) rfl ?_
  refine am_aload_n (j := 1) d_AS_findCross_128 rfl rfl ?_
  refine am_getR (t := 65) d_AS_findCross_129 fl_AS_35 hg (by decide) sh_52 (by decide) rfl (by decide) lk_52_10 (by decide) ?_
  refine am_iload (j := 6) d_AS_findCross_132 rfl ?_
  refine am_iload (j := 0) d_AS_findCross_134 rfl ?_
  refine am_aload_n (j := 1) d_AS_findCross_136 rfl rfl ?_
  refine am_iload (j := 5) d_AS_findCross_137 rfl ?_
  refine am_aload_n (j := 2) d_AS_findCross_139 rfl rfl ?_
  obtain ⟨⟨b1, t1⟩, h⟩ := h
  refine am_getI d_AS_findCross_140 fl_AS_86 b1 t1 (by decide) rfl ?_
  obtain ⟨hc, h⟩ := h
  refine ak_VI (as := [.int x4, .int (s x1 6)]) (rest := [.int y0, .int x5, .ref 65]) d_AS_findCross_143 cw_AS_findCross_143 rfl rfl rfl (ct_AS_get hg hc) rfl rfl (by decide) sh_52 rfl (Nat.le_of_ble_eq_true rfl) (by decide) (by decide) ?_
  refine ak_SNI (as := [.int (f_AS_get s x4 (s x1 6))]) (rest := [.int y0, .int x5, .ref 65]) d_AS_findCross_146 cw_AS_findCross_146 rfl rfl rfl (ct_CB_orZero hg) rfl rfl (Nat.le_of_ble_eq_true rfl) (by decide) (by decide) ?_
  refine am_iadd d_AS_findCross_149 ?_
  obtain ⟨hv, h⟩ := h
  refine am_iast d_AS_findCross_150 (by decide) sh_65 hv ?_
  refine am_sub [1, 2, 3, 4, 5, 6] (lv2 := [(0, .ref 52), (1, .ref x1), (2, .int x2), (3, .int x3), (4, .int x4), (5, .int x5)]) rfl ?_
  exact w_AS_findCross_151 hg hK38 h
def f_AS_findCross_208 (K160 : am_M → Nat → Int32 → Int32 → Int32 → am_M) (s : am_M) (x1 : Nat) (x2 : Int32) (x3 : Int32) (x4 : Int32) (y1 : Int32) (y2 : Int32) : am_M := (K160 (am_set s 65 (y1).toNatClampNeg y2) x1 x2 x3 (x4 + (1 : Int32)))
def p_AS_findCross_208 (KP160 : am_M → Nat → Int32 → Int32 → Int32 → Prop) (s : am_M) (x1 : Nat) (x2 : Int32) (x3 : Int32) (x4 : Int32) (y1 : Int32) (y2 : Int32) : Prop := vp_in y1 930 ∧ ((KP160 (am_set s 65 (y1).toNatClampNeg y2) x1 x2 x3 (x4 + (1 : Int32))))
set_option maxRecDepth 8000 in
theorem w_AS_findCross_208 {l : Launch} {g : am_Gl} (hg : g.2.2.2.1 = true) {ad0 : Nat → Nat} {K160 : am_M → Nat → Int32 → Int32 → Int32 → am_M} {KP160 : am_M → Nat → Int32 → Int32 → Int32 → Prop} (hK160 : ∀ (s : am_M) (x1 : Nat) (x2 : Int32) (x3 : Int32) (x4 : Int32), KP160 s x1 x2 x3 x4 → AW l g m_AS_findCross 207 ad0 (am_oM (K160 s x1 x2 x3 x4)) 0 0 207 s 160 [(0, .ref 52), (1, .ref x1), (2, .int x2), (3, .int x3), (4, .int x4)] []) {s : am_M} {x1 : Nat} {x2 : Int32} {x3 : Int32} {x4 : Int32} {y1 : Int32} {y2 : Int32} (h : p_AS_findCross_208 KP160 s x1 x2 x3 x4 y1 y2) : AW l g m_AS_findCross 207 ad0 (am_oM (f_AS_findCross_208 K160 s x1 x2 x3 x4 y1 y2)) 0 0 207 s 208 [(0, .ref 52), (1, .ref x1), (2, .int x2), (3, .int x3), (4, .int x4)] [.int y2, .int y1, .ref 65] := by
  obtain ⟨hv, h⟩ := h
  refine am_iast d_AS_findCross_208 (by decide) sh_65 hv ?_
  refine am_iinc (j := 4) (v := (x4 + (1 : Int32))) (lv2 := [(4, .int (x4 + (1 : Int32))), (0, .ref 52), (1, .ref x1), (2, .int x2), (3, .int x3)]) d_AS_findCross_209 rfl rfl (by decide) rfl ?_
  refine am_goto (tgt := 160) d_AS_findCross_212 (by decide) ?_
  refine am_sub [1, 2, 3, 4, 0] (lv2 := [(0, .ref 52), (1, .ref x1), (2, .int x2), (3, .int x3), (4, .int (x4 + (1 : Int32)))]) rfl ?_
  exact hK160 _ _ _ _ _ h
def f_AS_findCross_160  : Nat → am_M → Nat → Int32 → Int32 → Int32 → am_M
  | 0, s, x1, x2, x3, x4 => s
  | n + 1, s, x1, x2, x3, x4 => (if (930 : Int32) ≤ x4 then (f_AS_takeSpare s x2 (x3 + (1 : Int32))) else (if (x4 - x4 / (31 : Int32) * (31 : Int32)) = 0 then (f_AS_findCross_208 (f_AS_findCross_160  n) s x1 x2 x3 x4 x4 (s 63 ((x4 / (31 : Int32))).toNatClampNeg)) else (f_AS_findCross_208 (f_AS_findCross_160  n) s x1 x2 x3 x4 x4 (f_CB_limited s (s 65 (x4).toNatClampNeg).toInt64))))
def p_AS_findCross_160  : Nat → am_M → Nat → Int32 → Int32 → Int32 → Prop
  | 0, s, x1, x2, x3, x4 => False
  | n + 1, s, x1, x2, x3, x4 => (((930 : Int32) ≤ x4) → p_AS_takeSpare s x2 (x3 + (1 : Int32)) ∧ (True)) ∧ (¬ ((930 : Int32) ≤ x4) → (((x4 - x4 / (31 : Int32) * (31 : Int32)) = 0) → vp_in (x4 / (31 : Int32)) 30 ∧ ((p_AS_findCross_208 (p_AS_findCross_160  n) s x1 x2 x3 x4 x4 (s 63 ((x4 / (31 : Int32))).toNatClampNeg)))) ∧ (¬ ((x4 - x4 / (31 : Int32) * (31 : Int32)) = 0) → vp_in x4 930 ∧ ((p_AS_findCross_208 (p_AS_findCross_160  n) s x1 x2 x3 x4 x4 (f_CB_limited s (s 65 (x4).toNatClampNeg).toInt64)))))
set_option maxRecDepth 8000 in
theorem w_AS_findCross_160 {l : Launch} {g : am_Gl} (hg : g.2.2.2.1 = true) {ad0 : Nat → Nat}   : ∀ (n : Nat) (s : am_M) (x1 : Nat) (x2 : Int32) (x3 : Int32) (x4 : Int32), p_AS_findCross_160  n s x1 x2 x3 x4 → AW l g m_AS_findCross 207 ad0 (am_oM (f_AS_findCross_160  n s x1 x2 x3 x4)) 0 0 207 s 160 [(0, .ref 52), (1, .ref x1), (2, .int x2), (3, .int x3), (4, .int x4)] [] := by
  intro n
  induction n with
  | zero => intro s x1 x2 x3 x4 h; exact h.elim
  | succ n hK160 =>
    intro s x1 x2 x3 x4 h
    refine am_iload (j := 4) d_AS_findCross_160 rfl ?_
    refine am_aload_n (j := 0) d_AS_findCross_162 rfl rfl ?_
    refine am_getR (t := 65) d_AS_findCross_163 fl_AS_35 hg (by decide) sh_52 (by decide) rfl (by decide) lk_52_10 (by decide) ?_
    refine am_alen (v := (930 : Int32)) d_AS_findCross_166 (by decide) sh_65 (by decide) (by decide) ?_
    refine aj_ge (F := am_oM) (tgt := 215) d_AS_findCross_167 (by decide) (fun c => ?_) (fun c => ?_)
    · have h := h.1 c
      refine am_aload_n (j := 0) d_AS_findCross_215 rfl rfl ?_
      refine am_iload_n (j := 2) d_AS_findCross_216 rfl rfl ?_
      refine am_iload_n (j := 3) d_AS_findCross_217 rfl rfl ?_
      refine am_iconst (v := (1 : Int32)) d_AS_findCross_218 (by decide) ?_
      refine am_iadd d_AS_findCross_219 ?_
      obtain ⟨hc, h⟩ := h
      refine ak_VM (as := [.int x2, .int (x3 + (1 : Int32))]) (rest := []) d_AS_findCross_220 cw_AS_findCross_220 rfl rfl rfl (ct_AS_takeSpare hg hc) rfl rfl (by decide) sh_52 rfl (Nat.le_of_ble_eq_true rfl) (by decide) (by decide) ?_
      exact am_vret d_AS_findCross_223 rfl (by decide) (by decide) am_oM_ok
    · have h := h.2 c
      refine am_aload_n (j := 0) d_AS_findCross_170 rfl rfl ?_
      refine am_getR (t := 65) d_AS_findCross_171 fl_AS_35 hg (by decide) sh_52 (by decide) rfl (by decide) lk_52_10 (by decide) ?_
      refine am_iload (j := 4) d_AS_findCross_174 rfl ?_
      refine am_iload (j := 4) d_AS_findCross_176 rfl ?_
      refine am_bipush (v := (31 : Int32)) d_AS_findCross_178 (by decide) ?_
      refine am_irem d_AS_findCross_180 (by decide) ?_
      refine ai_ne (F := am_oM) (tgt := 197) d_AS_findCross_181 (by decide) (fun c => ?_) (fun c => ?_)
      · have h := h.2 c
        refine am_aload_n (j := 0) d_AS_findCross_197 rfl rfl ?_
        refine am_getR (t := 65) d_AS_findCross_198 fl_AS_35 hg (by decide) sh_52 (by decide) rfl (by decide) lk_52_10 (by decide) ?_
        refine am_iload (j := 4) d_AS_findCross_201 rfl ?_
        obtain ⟨hv, h⟩ := h
        refine am_iald d_AS_findCross_203 (by decide) sh_65 hv ?_
        refine am_i2l d_AS_findCross_204 ?_
        refine ak_SNI (as := [.long (s 65 (x4).toNatClampNeg).toInt64]) (rest := [.int x4, .ref 65]) d_AS_findCross_205 cw_AS_findCross_205 rfl rfl rfl (ct_CB_limited hg) rfl rfl (Nat.le_of_ble_eq_true rfl) (by decide) (by decide) ?_
        exact w_AS_findCross_208 hg hK160 h
      · have h := h.1 c
        refine am_aload_n (j := 0) d_AS_findCross_184 rfl rfl ?_
        refine am_getR (t := 63) d_AS_findCross_185 fl_AS_29 hg (by decide) sh_52 (by decide) rfl (by decide) lk_52_8 (by decide) ?_
        refine am_iload (j := 4) d_AS_findCross_188 rfl ?_
        refine am_bipush (v := (31 : Int32)) d_AS_findCross_190 (by decide) ?_
        refine am_idiv d_AS_findCross_192 (by decide) ?_
        obtain ⟨hv, h⟩ := h
        refine am_iald d_AS_findCross_193 (by decide) sh_63 hv ?_
        refine am_goto (tgt := 208) d_AS_findCross_194 (by decide) ?_
        exact w_AS_findCross_208 hg hK160 h
def f_AS_findCross_157  (s : am_M) (x1 : Nat) (x2 : Int32) (x3 : Int32) (x4 : Int32) : am_M := (f_AS_findCross_160 am_F s x1 x2 x3 (0 : Int32))
def p_AS_findCross_157  (s : am_M) (x1 : Nat) (x2 : Int32) (x3 : Int32) (x4 : Int32) : Prop := (p_AS_findCross_160 am_F s x1 x2 x3 (0 : Int32))
set_option maxRecDepth 8000 in
theorem w_AS_findCross_157 {l : Launch} {g : am_Gl} (hg : g.2.2.2.1 = true) {ad0 : Nat → Nat}  {s : am_M} {x1 : Nat} {x2 : Int32} {x3 : Int32} {x4 : Int32} (h : p_AS_findCross_157  s x1 x2 x3 x4) : AW l g m_AS_findCross 207 ad0 (am_oM (f_AS_findCross_157  s x1 x2 x3 x4)) 0 0 207 s 157 [(0, .ref 52), (1, .ref x1), (2, .int x2), (3, .int x3), (4, .int x4)] [] := by
  refine am_iconst (v := (0 : Int32)) d_AS_findCross_157 (by decide) ?_
  refine am_istore (lv2 := [(4, .int (0 : Int32)), (0, .ref 52), (1, .ref x1), (2, .int x2), (3, .int x3)]) d_AS_findCross_158 (by decide) rfl ?_
  refine am_sub [1, 2, 3, 4, 0] (lv2 := [(0, .ref 52), (1, .ref x1), (2, .int x2), (3, .int x3), (4, .int (0 : Int32))]) rfl ?_
  exact w_AS_findCross_160 hg am_F _ _ _ _ _ h
def f_AS_findCross_38  : Nat → am_M → Nat → Int32 → Int32 → Int32 → am_M
  | 0, s, x1, x2, x3, x4 => s
  | n + 1, s, x1, x2, x3, x4 => (if (s 52 4) ≤ x4 then (f_AS_findCross_157 s x1 x2 x3 x4) else (if (930 : Int32) ≤ ((((f_AS_placeIn s 63 x2 (f_AS_get s x4 (s x1 4))) * (31 : Int32)) + (1 : Int32)) + (f_AS_placeIn s 64 x3 (f_AS_get s x4 (s x1 5)))) then (f_AS_findCross_151 (f_AS_findCross_38  n) s x1 x2 x3 x4 ((((f_AS_placeIn s 63 x2 (f_AS_get s x4 (s x1 4))) * (31 : Int32)) + (1 : Int32)) + (f_AS_placeIn s 64 x3 (f_AS_get s x4 (s x1 5))))) else (if (s 65 (((((f_AS_placeIn s 63 x2 (f_AS_get s x4 (s x1 4))) * (31 : Int32)) + (1 : Int32)) + (f_AS_placeIn s 64 x3 (f_AS_get s x4 (s x1 5))))).toNatClampNeg) = (-1000000000 : Int32) then (f_AS_findCross_126 (f_AS_findCross_38  n) s x1 x2 x3 x4 ((((f_AS_placeIn s 63 x2 (f_AS_get s x4 (s x1 4))) * (31 : Int32)) + (1 : Int32)) + (f_AS_placeIn s 64 x3 (f_AS_get s x4 (s x1 5)))) (0 : Int32)) else (f_AS_findCross_126 (f_AS_findCross_38  n) s x1 x2 x3 x4 ((((f_AS_placeIn s 63 x2 (f_AS_get s x4 (s x1 4))) * (31 : Int32)) + (1 : Int32)) + (f_AS_placeIn s 64 x3 (f_AS_get s x4 (s x1 5)))) (s 65 (((((f_AS_placeIn s 63 x2 (f_AS_get s x4 (s x1 4))) * (31 : Int32)) + (1 : Int32)) + (f_AS_placeIn s 64 x3 (f_AS_get s x4 (s x1 5))))).toNatClampNeg)))))
def p_AS_findCross_38  : Nat → am_M → Nat → Int32 → Int32 → Int32 → Prop
  | 0, s, x1, x2, x3, x4 => False
  | n + 1, s, x1, x2, x3, x4 => (((s 52 4) ≤ x4) → (p_AS_findCross_157 s x1 x2 x3 x4)) ∧ (¬ ((s 52 4) ≤ x4) → (x1 < 207 ∧ am_sh x1 = (0, 4, 17)) ∧ (p_AS_get s x4 (s x1 4) ∧ (p_AS_placeIn s 63 x2 (f_AS_get s x4 (s x1 4)) ∧ (p_AS_get s x4 (s x1 5) ∧ (p_AS_placeIn s 64 x3 (f_AS_get s x4 (s x1 5)) ∧ ((((930 : Int32) ≤ ((((f_AS_placeIn s 63 x2 (f_AS_get s x4 (s x1 4))) * (31 : Int32)) + (1 : Int32)) + (f_AS_placeIn s 64 x3 (f_AS_get s x4 (s x1 5))))) → (p_AS_findCross_151 (p_AS_findCross_38  n) s x1 x2 x3 x4 ((((f_AS_placeIn s 63 x2 (f_AS_get s x4 (s x1 4))) * (31 : Int32)) + (1 : Int32)) + (f_AS_placeIn s 64 x3 (f_AS_get s x4 (s x1 5)))))) ∧ (¬ ((930 : Int32) ≤ ((((f_AS_placeIn s 63 x2 (f_AS_get s x4 (s x1 4))) * (31 : Int32)) + (1 : Int32)) + (f_AS_placeIn s 64 x3 (f_AS_get s x4 (s x1 5))))) → vp_in ((((f_AS_placeIn s 63 x2 (f_AS_get s x4 (s x1 4))) * (31 : Int32)) + (1 : Int32)) + (f_AS_placeIn s 64 x3 (f_AS_get s x4 (s x1 5)))) 930 ∧ ((((s 65 (((((f_AS_placeIn s 63 x2 (f_AS_get s x4 (s x1 4))) * (31 : Int32)) + (1 : Int32)) + (f_AS_placeIn s 64 x3 (f_AS_get s x4 (s x1 5))))).toNatClampNeg) = (-1000000000 : Int32)) → (p_AS_findCross_126 (p_AS_findCross_38  n) s x1 x2 x3 x4 ((((f_AS_placeIn s 63 x2 (f_AS_get s x4 (s x1 4))) * (31 : Int32)) + (1 : Int32)) + (f_AS_placeIn s 64 x3 (f_AS_get s x4 (s x1 5)))) (0 : Int32))) ∧ (¬ ((s 65 (((((f_AS_placeIn s 63 x2 (f_AS_get s x4 (s x1 4))) * (31 : Int32)) + (1 : Int32)) + (f_AS_placeIn s 64 x3 (f_AS_get s x4 (s x1 5))))).toNatClampNeg) = (-1000000000 : Int32)) → vp_in ((((f_AS_placeIn s 63 x2 (f_AS_get s x4 (s x1 4))) * (31 : Int32)) + (1 : Int32)) + (f_AS_placeIn s 64 x3 (f_AS_get s x4 (s x1 5)))) 930 ∧ ((p_AS_findCross_126 (p_AS_findCross_38  n) s x1 x2 x3 x4 ((((f_AS_placeIn s 63 x2 (f_AS_get s x4 (s x1 4))) * (31 : Int32)) + (1 : Int32)) + (f_AS_placeIn s 64 x3 (f_AS_get s x4 (s x1 5)))) (s 65 (((((f_AS_placeIn s 63 x2 (f_AS_get s x4 (s x1 4))) * (31 : Int32)) + (1 : Int32)) + (f_AS_placeIn s 64 x3 (f_AS_get s x4 (s x1 5))))).toNatClampNeg))))))))))))
set_option maxRecDepth 8000 in
theorem w_AS_findCross_38 {l : Launch} {g : am_Gl} (hg : g.2.2.2.1 = true) {ad0 : Nat → Nat}   : ∀ (n : Nat) (s : am_M) (x1 : Nat) (x2 : Int32) (x3 : Int32) (x4 : Int32), p_AS_findCross_38  n s x1 x2 x3 x4 → AW l g m_AS_findCross 207 ad0 (am_oM (f_AS_findCross_38  n s x1 x2 x3 x4)) 0 0 207 s 38 [(0, .ref 52), (1, .ref x1), (2, .int x2), (3, .int x3), (4, .int x4)] [] := by
  intro n
  induction n with
  | zero => intro s x1 x2 x3 x4 h; exact h.elim
  | succ n hK38 =>
    intro s x1 x2 x3 x4 h
    refine am_iload (j := 4) d_AS_findCross_38 rfl ?_
    refine am_aload_n (j := 0) d_AS_findCross_40 rfl rfl ?_
    refine am_getI d_AS_findCross_41 fl_AS_134 (by decide) sh_52 (by decide) rfl ?_
    refine aj_ge (F := am_oM) (tgt := 157) d_AS_findCross_44 (by decide) (fun c => ?_) (fun c => ?_)
    · have h := h.1 c
      exact w_AS_findCross_157 hg h
    · have h := h.2 c
      refine am_aload_n (j := 0) d_AS_findCross_47 rfl rfl ?_
      refine am_aload_n (j := 0) d_AS_findCross_48 rfl rfl ?_
      refine am_getR (t := 63) d_AS_findCross_49 fl_AS_29 hg (by decide) sh_52 (by decide) rfl (by decide) lk_52_8 (by decide) ?_
      refine am_iload_n (j := 2) d_AS_findCross_52 rfl rfl ?_
      refine am_aload_n (j := 0) d_AS_findCross_53 rfl rfl ?_
      refine am_iload (j := 4) d_AS_findCross_54 rfl ?_
      refine am_aload_n (j := 1) d_AS_findCross_56 rfl rfl ?_
      obtain ⟨⟨b1, t1⟩, h⟩ := h
      refine am_getI d_AS_findCross_57 fl_AS_80 b1 t1 (by decide) rfl ?_
      obtain ⟨hc, h⟩ := h
      refine ak_VI (as := [.int x4, .int (s x1 4)]) (rest := [.int x2, .ref 63, .ref 52]) d_AS_findCross_60 cw_AS_findCross_60 rfl rfl rfl (ct_AS_get hg hc) rfl rfl (by decide) sh_52 rfl (Nat.le_of_ble_eq_true rfl) (by decide) (by decide) ?_
      obtain ⟨hc, h⟩ := h
      refine ak_VI (as := [.ref 63, .int x2, .int (f_AS_get s x4 (s x1 4))]) (rest := []) d_AS_findCross_63 cw_AS_findCross_63 rfl rfl rfl (ct_AS_placeIn hg hc) rfl rfl (by decide) sh_52 rfl (Nat.le_of_ble_eq_true rfl) (by decide) (by decide) ?_
      refine am_bipush (v := (31 : Int32)) d_AS_findCross_66 (by decide) ?_
      refine am_imul d_AS_findCross_68 ?_
      refine am_iconst (v := (1 : Int32)) d_AS_findCross_69 (by decide) ?_
      refine am_iadd d_AS_findCross_70 ?_
      refine am_aload_n (j := 0) d_AS_findCross_71 rfl rfl ?_
      refine am_aload_n (j := 0) d_AS_findCross_72 rfl rfl ?_
      refine am_getR (t := 64) d_AS_findCross_73 fl_AS_32 hg (by decide) sh_52 (by decide) rfl (by decide) lk_52_9 (by decide) ?_
      refine am_iload_n (j := 3) d_AS_findCross_76 rfl rfl ?_
      refine am_aload_n (j := 0) d_AS_findCross_77 rfl rfl ?_
      refine am_iload (j := 4) d_AS_findCross_78 rfl ?_
      refine am_aload_n (j := 1) d_AS_findCross_80 rfl rfl ?_
      refine am_getI d_AS_findCross_81 fl_AS_83 b1 t1 (by decide) rfl ?_
      obtain ⟨hc, h⟩ := h
      refine ak_VI (as := [.int x4, .int (s x1 5)]) (rest := [.int x3, .ref 64, .ref 52, .int (((f_AS_placeIn s 63 x2 (f_AS_get s x4 (s x1 4))) * (31 : Int32)) + (1 : Int32))]) d_AS_findCross_84 cw_AS_findCross_84 rfl rfl rfl (ct_AS_get hg hc) rfl rfl (by decide) sh_52 rfl (Nat.le_of_ble_eq_true rfl) (by decide) (by decide) ?_
      obtain ⟨hc, h⟩ := h
      refine ak_VI (as := [.ref 64, .int x3, .int (f_AS_get s x4 (s x1 5))]) (rest := [.int (((f_AS_placeIn s 63 x2 (f_AS_get s x4 (s x1 4))) * (31 : Int32)) + (1 : Int32))]) d_AS_findCross_87 cw_AS_findCross_87 rfl rfl rfl (ct_AS_placeIn hg hc) rfl rfl (by decide) sh_52 rfl (Nat.le_of_ble_eq_true rfl) (by decide) (by decide) ?_
      refine am_iadd d_AS_findCross_90 ?_
      refine am_istore (lv2 := [(5, .int ((((f_AS_placeIn s 63 x2 (f_AS_get s x4 (s x1 4))) * (31 : Int32)) + (1 : Int32)) + (f_AS_placeIn s 64 x3 (f_AS_get s x4 (s x1 5))))), (0, .ref 52), (1, .ref x1), (2, .int x2), (3, .int x3), (4, .int x4)]) d_AS_findCross_91 (by decide) rfl ?_
      refine am_iload (j := 0) d_AS_findCross_93 rfl ?_
      refine am_aload_n (j := 1) d_AS_findCross_95 rfl rfl ?_
      refine am_getR (t := 65) d_AS_findCross_96 fl_AS_35 hg (by decide) sh_52 (by decide) rfl (by decide) lk_52_10 (by decide) ?_
      refine am_alen (v := (930 : Int32)) d_AS_findCross_99 (by decide) sh_65 (by decide) (by decide) ?_
      refine aj_ge (F := am_oM) (tgt := 151) d_AS_findCross_100 (by decide) (fun c => ?_) (fun c => ?_)
      · have h := h.1 c
        refine am_sub [1, 2, 3, 4, 5, 0] (lv2 := [(0, .ref 52), (1, .ref x1), (2, .int x2), (3, .int x3), (4, .int x4), (5, .int ((((f_AS_placeIn s 63 x2 (f_AS_get s x4 (s x1 4))) * (31 : Int32)) + (1 : Int32)) + (f_AS_placeIn s 64 x3 (f_AS_get s x4 (s x1 5)))))]) rfl ?_
        exact w_AS_findCross_151 hg hK38 h
      · have h := h.2 c
        refine am_aload_n (j := 1) d_AS_findCross_103 rfl rfl ?_
        refine am_getR (t := 65) d_AS_findCross_104 fl_AS_35 hg (by decide) sh_52 (by decide) rfl (by decide) lk_52_10 (by decide) ?_
        refine am_iload (j := 0) d_AS_findCross_107 rfl ?_
        obtain ⟨hv, h⟩ := h
        refine am_iald d_AS_findCross_109 (by decide) sh_65 hv ?_
        refine am_ldc (v := (-1000000000 : Int32)) d_AS_findCross_110 aw_3_180 ?_
        refine aj_ne (F := am_oM) (tgt := 119) d_AS_findCross_112 (by decide) (fun c => ?_) (fun c => ?_)
        · have h := h.2 c
          refine am_aload_n (j := 1) d_AS_findCross_119 rfl rfl ?_
          refine am_getR (t := 65) d_AS_findCross_120 fl_AS_35 hg (by decide) sh_52 (by decide) rfl (by decide) lk_52_10 (by decide) ?_
          refine am_iload (j := 0) d_AS_findCross_123 rfl ?_
          obtain ⟨hv, h⟩ := h
          refine am_iald d_AS_findCross_125 (by decide) sh_65 hv ?_
          refine am_sub [1, 2, 3, 4, 5, 0] (lv2 := [(0, .ref 52), (1, .ref x1), (2, .int x2), (3, .int x3), (4, .int x4), (5, .int ((((f_AS_placeIn s 63 x2 (f_AS_get s x4 (s x1 4))) * (31 : Int32)) + (1 : Int32)) + (f_AS_placeIn s 64 x3 (f_AS_get s x4 (s x1 5)))))]) rfl ?_
          exact w_AS_findCross_126 hg hK38 h
        · have h := h.1 c
          refine am_iconst (v := (0 : Int32)) d_AS_findCross_115 (by decide) ?_
          refine am_goto (tgt := 126) d_AS_findCross_116 (by decide) ?_
          refine am_sub [1, 2, 3, 4, 5, 0] (lv2 := [(0, .ref 52), (1, .ref x1), (2, .int x2), (3, .int x3), (4, .int x4), (5, .int ((((f_AS_placeIn s 63 x2 (f_AS_get s x4 (s x1 4))) * (31 : Int32)) + (1 : Int32)) + (f_AS_placeIn s 64 x3 (f_AS_get s x4 (s x1 5)))))]) rfl ?_
          exact w_AS_findCross_126 hg hK38 h
def f_AS_findCross  (s : am_M) (x1 : Nat) : am_M := (f_AS_findCross_38 am_F (f_JF_fill (f_AS_gather (f_AS_gather s (s x1 4) 63).2 ((f_AS_gather s (s x1 4) 63).2 x1 5) 64).2 65 (-1000000000 : Int32)) x1 (f_AS_gather s (s x1 4) 63).1 (f_AS_gather (f_AS_gather s (s x1 4) 63).2 ((f_AS_gather s (s x1 4) 63).2 x1 5) 64).1 (0 : Int32))
def p_AS_findCross  (s : am_M) (x1 : Nat) : Prop := (x1 < 207 ∧ am_sh x1 = (0, 4, 17)) ∧ (p_AS_gather s (s x1 4) 63 ∧ (p_AS_gather (f_AS_gather s (s x1 4) 63).2 ((f_AS_gather s (s x1 4) 63).2 x1 5) 64 ∧ (p_JF_fill (f_AS_gather (f_AS_gather s (s x1 4) 63).2 ((f_AS_gather s (s x1 4) 63).2 x1 5) 64).2 65 (-1000000000 : Int32) ∧ ((p_AS_findCross_38 am_F (f_JF_fill (f_AS_gather (f_AS_gather s (s x1 4) 63).2 ((f_AS_gather s (s x1 4) 63).2 x1 5) 64).2 65 (-1000000000 : Int32)) x1 (f_AS_gather s (s x1 4) 63).1 (f_AS_gather (f_AS_gather s (s x1 4) 63).2 ((f_AS_gather s (s x1 4) 63).2 x1 5) 64).1 (0 : Int32))))))
set_option maxRecDepth 8000 in
theorem w_AS_findCross {l : Launch} {g : am_Gl} (hg : g.2.2.2.1 = true) {ad0 : Nat → Nat} {s : am_M} {x1 : Nat} (h : p_AS_findCross s x1) : AW l g m_AS_findCross 207 ad0 (am_oM (f_AS_findCross s x1)) 0 0 207 s 0 [(0, .ref 52), (1, .ref x1)] [] := by
  refine am_aload_n (j := 0) d_AS_findCross_0 rfl rfl ?_
  refine am_aload_n (j := 1) d_AS_findCross_1 rfl rfl ?_
  obtain ⟨⟨b1, t1⟩, h⟩ := h
  refine am_getI d_AS_findCross_2 fl_AS_80 b1 t1 (by decide) rfl ?_
  refine am_aload_n (j := 0) d_AS_findCross_5 rfl rfl ?_
  refine am_getR (t := 63) d_AS_findCross_6 fl_AS_29 hg (by decide) sh_52 (by decide) rfl (by decide) lk_52_8 (by decide) ?_
  obtain ⟨hc, h⟩ := h
  refine ak_VC (as := [.int (s x1 4), .ref 63]) (rest := []) d_AS_findCross_9 cw_AS_findCross_9 rfl rfl rfl (ct_AS_gather hg hc) rfl rfl (by decide) sh_52 rfl (Nat.le_of_ble_eq_true rfl) (by decide) (by decide) ?_
  refine am_istore_n (lv2 := [(2, .int (f_AS_gather s (s x1 4) 63).1), (0, .ref 52), (1, .ref x1)]) d_AS_findCross_12 rfl (by decide) rfl ?_
  refine am_aload_n (j := 1) d_AS_findCross_13 rfl rfl ?_
  refine am_aload_n (j := 2) d_AS_findCross_14 rfl rfl ?_
  refine am_getI d_AS_findCross_15 fl_AS_83 b1 t1 (by decide) rfl ?_
  refine am_aload_n (j := 1) d_AS_findCross_18 rfl rfl ?_
  refine am_getR (t := 64) d_AS_findCross_19 fl_AS_32 hg (by decide) sh_52 (by decide) rfl (by decide) lk_52_9 (by decide) ?_
  obtain ⟨hc, h⟩ := h
  refine ak_VC (as := [.int ((f_AS_gather s (s x1 4) 63).2 x1 5), .ref 64]) (rest := []) d_AS_findCross_22 cw_AS_findCross_22 rfl rfl rfl (ct_AS_gather hg hc) rfl rfl (by decide) sh_52 rfl (Nat.le_of_ble_eq_true rfl) (by decide) (by decide) ?_
  refine am_istore_n (lv2 := [(3, .int (f_AS_gather (f_AS_gather s (s x1 4) 63).2 ((f_AS_gather s (s x1 4) 63).2 x1 5) 64).1), (2, .int (f_AS_gather s (s x1 4) 63).1), (0, .ref 52), (1, .ref x1)]) d_AS_findCross_25 rfl (by decide) rfl ?_
  refine am_aload_n (j := 2) d_AS_findCross_26 rfl rfl ?_
  refine am_getR (t := 65) d_AS_findCross_27 fl_AS_35 hg (by decide) sh_52 (by decide) rfl (by decide) lk_52_10 (by decide) ?_
  refine am_ldc (v := (-1000000000 : Int32)) d_AS_findCross_30 aw_3_180 ?_
  obtain ⟨hc, h⟩ := h
  refine ak_SM (as := [.ref 65, .int (-1000000000 : Int32)]) (rest := []) d_AS_findCross_32 cw_AS_findCross_32 rfl rfl rfl (ct_JF_fill hg hc) rfl rfl (Nat.le_of_ble_eq_true rfl) (by decide) (by decide) ?_
  refine am_iconst (v := (0 : Int32)) d_AS_findCross_35 (by decide) ?_
  refine am_istore (lv2 := [(4, .int (0 : Int32)), (3, .int (f_AS_gather (f_AS_gather s (s x1 4) 63).2 ((f_AS_gather s (s x1 4) 63).2 x1 5) 64).1), (2, .int (f_AS_gather s (s x1 4) 63).1), (0, .ref 52), (1, .ref x1)]) d_AS_findCross_36 (by decide) rfl ?_
  refine am_sub [3, 4, 2, 1, 0] (lv2 := [(0, .ref 52), (1, .ref x1), (2, .int (f_AS_gather s (s x1 4) 63).1), (3, .int (f_AS_gather (f_AS_gather s (s x1 4) 63).2 ((f_AS_gather s (s x1 4) 63).2 x1 5) 64).1), (4, .int (0 : Int32))]) rfl ?_
  exact w_AS_findCross_38 hg am_F _ _ _ _ _ h
theorem ct_AS_findCross {l : Launch} {g : am_Gl} (hg : g.2.2.2.1 = true) {s : am_M} {x1 : Nat} (h : p_AS_findCross s x1) : AC l g m_AS_findCross 207 s [.ref 52, .ref x1] (am_oM (f_AS_findCross s x1)) := am_enter ok_AS_findCross rfl (Nat.le_of_ble_eq_true rfl) rfl (fun ad0 => w_AS_findCross hg h)
theorem cw_AS_find_39 : am_cv m_AS_find m_AS_question 49 1 := ⟨⟨ok_AS_question, rfl, by decide +kernel, by decide, by decide⟩, aw_3_106, aw_3_107, aw_3_108⟩
theorem cw_AS_find_54 : am_cv m_AS_find m_AS_findRows 121 1 := ⟨⟨ok_AS_findRows, rfl, by decide +kernel, by decide, by decide⟩, aw_3_110, aw_3_112, as_1_14⟩
theorem cw_AS_find_75 : am_cv m_AS_find m_AS_question 49 1 := ⟨⟨ok_AS_question, rfl, by decide +kernel, by decide, by decide⟩, aw_3_106, aw_3_107, aw_3_108⟩
theorem cw_AS_find_118 : am_cv m_AS_find m_AS_findCross 131 1 := ⟨⟨ok_AS_findCross, rfl, by decide +kernel, by decide, by decide⟩, aw_3_176, aw_3_178, as_2_10⟩
theorem cw_AS_find_109 : am_cv m_AS_find m_AS_findGroups 128 1 := ⟨⟨ok_AS_findGroups, rfl, by decide +kernel, by decide, by decide⟩, aw_3_151, aw_3_153, as_2_5⟩
theorem cw_AS_find_91 : am_cv m_AS_find m_AS_findPlain 125 1 := ⟨⟨ok_AS_findPlain, rfl, by decide +kernel, by decide, by decide⟩, aw_3_125, aw_3_127, as_2_1⟩
def f_AS_find_121 (K62 : am_M → Int32 → Int32 → Int32 → Int32 → Int32 × am_M) (s : am_M) (x1 : Int32) (x2 : Int32) (x3 : Int32) (x4 : Int32) (x5 : Nat) : Int32 × am_M := (K62 s x1 x2 x3 (x4 + (-1 : Int32)))
def p_AS_find_121 (KP62 : am_M → Int32 → Int32 → Int32 → Int32 → Prop) (s : am_M) (x1 : Int32) (x2 : Int32) (x3 : Int32) (x4 : Int32) (x5 : Nat) : Prop := (KP62 s x1 x2 x3 (x4 + (-1 : Int32)))
set_option maxRecDepth 8000 in
theorem w_AS_find_121 {l : Launch} {g : am_Gl} (hg : g.2.2.2.1 = true) {ad0 : Nat → Nat} {K62 : am_M → Int32 → Int32 → Int32 → Int32 → Int32 × am_M} {KP62 : am_M → Int32 → Int32 → Int32 → Int32 → Prop} (hK62 : ∀ (s : am_M) (x1 : Int32) (x2 : Int32) (x3 : Int32) (x4 : Int32), KP62 s x1 x2 x3 x4 → AW l g m_AS_find 207 ad0 (am_oC (K62 s x1 x2 x3 x4)) 0 0 207 s 62 [(0, .ref 52), (1, .int x1), (2, .int x2), (3, .int x3), (4, .int x4)] []) {s : am_M} {x1 : Int32} {x2 : Int32} {x3 : Int32} {x4 : Int32} {x5 : Nat} (h : p_AS_find_121 KP62 s x1 x2 x3 x4 x5) : AW l g m_AS_find 207 ad0 (am_oC (f_AS_find_121 K62 s x1 x2 x3 x4 x5)) 0 0 207 s 121 [(0, .ref 52), (1, .int x1), (2, .int x2), (3, .int x3), (4, .int x4), (5, .ref x5)] [] := by
  refine am_iinc (j := 4) (v := (x4 + (-1 : Int32))) (lv2 := [(4, .int (x4 + (-1 : Int32))), (0, .ref 52), (1, .int x1), (2, .int x2), (3, .int x3), (5, .ref x5)]) d_AS_find_121 rfl rfl (by decide) rfl ?_
  refine am_goto (tgt := 62) d_AS_find_124 (by decide) ?_
  refine am_sub [1, 2, 3, 4, 0] (lv2 := [(0, .ref 52), (1, .int x1), (2, .int x2), (3, .int x3), (4, .int (x4 + (-1 : Int32)))]) rfl ?_
  exact hK62 _ _ _ _ _ h
def f_AS_find_62  : Nat → am_M → Int32 → Int32 → Int32 → Int32 → Int32 × am_M
  | 0, s, x1, x2, x3, x4 => (0, s)
  | n + 1, s, x1, x2, x3, x4 => (if x4 < 0 then ((s 52 4), s) else (if (s (f_AS_question s (s 66 (x4).toNatClampNeg)) 0) = 0 then (f_AS_find_121 (f_AS_find_62  n) (f_AS_findPlain s (f_AS_question s (s 66 (x4).toNatClampNeg))) x1 x2 x3 x4 (f_AS_question s (s 66 (x4).toNatClampNeg))) else (if (s (f_AS_question s (s 66 (x4).toNatClampNeg)) 0) = (1 : Int32) then (f_AS_find_121 (f_AS_find_62  n) (f_AS_findGroups s (f_AS_question s (s 66 (x4).toNatClampNeg))) x1 x2 x3 x4 (f_AS_question s (s 66 (x4).toNatClampNeg))) else (f_AS_find_121 (f_AS_find_62  n) (f_AS_findCross s (f_AS_question s (s 66 (x4).toNatClampNeg))) x1 x2 x3 x4 (f_AS_question s (s 66 (x4).toNatClampNeg))))))
def p_AS_find_62  : Nat → am_M → Int32 → Int32 → Int32 → Int32 → Prop
  | 0, s, x1, x2, x3, x4 => False
  | n + 1, s, x1, x2, x3, x4 => ((x4 < 0) → True) ∧ (¬ (x4 < 0) → vp_in x4 8 ∧ (p_AS_question s (s 66 (x4).toNatClampNeg) ∧ (((f_AS_question s (s 66 (x4).toNatClampNeg)) < 207 ∧ am_sh (f_AS_question s (s 66 (x4).toNatClampNeg)) = (0, 4, 17)) ∧ ((((s (f_AS_question s (s 66 (x4).toNatClampNeg)) 0) = 0) → p_AS_findPlain s (f_AS_question s (s 66 (x4).toNatClampNeg)) ∧ ((p_AS_find_121 (p_AS_find_62  n) (f_AS_findPlain s (f_AS_question s (s 66 (x4).toNatClampNeg))) x1 x2 x3 x4 (f_AS_question s (s 66 (x4).toNatClampNeg))))) ∧ (¬ ((s (f_AS_question s (s 66 (x4).toNatClampNeg)) 0) = 0) → (((s (f_AS_question s (s 66 (x4).toNatClampNeg)) 0) = (1 : Int32)) → p_AS_findGroups s (f_AS_question s (s 66 (x4).toNatClampNeg)) ∧ ((p_AS_find_121 (p_AS_find_62  n) (f_AS_findGroups s (f_AS_question s (s 66 (x4).toNatClampNeg))) x1 x2 x3 x4 (f_AS_question s (s 66 (x4).toNatClampNeg))))) ∧ (¬ ((s (f_AS_question s (s 66 (x4).toNatClampNeg)) 0) = (1 : Int32)) → p_AS_findCross s (f_AS_question s (s 66 (x4).toNatClampNeg)) ∧ ((p_AS_find_121 (p_AS_find_62  n) (f_AS_findCross s (f_AS_question s (s 66 (x4).toNatClampNeg))) x1 x2 x3 x4 (f_AS_question s (s 66 (x4).toNatClampNeg))))))))))
set_option maxRecDepth 8000 in
theorem w_AS_find_62 {l : Launch} {g : am_Gl} (hg : g.2.2.2.1 = true) {ad0 : Nat → Nat}   : ∀ (n : Nat) (s : am_M) (x1 : Int32) (x2 : Int32) (x3 : Int32) (x4 : Int32), p_AS_find_62  n s x1 x2 x3 x4 → AW l g m_AS_find 207 ad0 (am_oC (f_AS_find_62  n s x1 x2 x3 x4)) 0 0 207 s 62 [(0, .ref 52), (1, .int x1), (2, .int x2), (3, .int x3), (4, .int x4)] [] := by
  intro n
  induction n with
  | zero => intro s x1 x2 x3 x4 h; exact h.elim
  | succ n hK62 =>
    intro s x1 x2 x3 x4 h
    refine am_iload (j := 4) d_AS_find_62 rfl ?_
    refine ai_lt (F := am_oC) (tgt := 127) d_AS_find_64 (by decide) (fun c => ?_) (fun c => ?_)
    · have h := h.1 c
      refine am_aload_n (j := 0) d_AS_find_127 rfl rfl ?_
      refine am_getI d_AS_find_128 fl_AS_134 (by decide) sh_52 (by decide) rfl ?_
      exact am_iret d_AS_find_131 rfl rfl (by decide) (by decide) am_oC_ok
    · have h := h.2 c
      refine am_aload_n (j := 0) d_AS_find_67 rfl rfl ?_
      refine am_aload_n (j := 0) d_AS_find_68 rfl rfl ?_
      refine am_getR (t := 66) d_AS_find_69 fl_AS_38 hg (by decide) sh_52 (by decide) rfl (by decide) lk_52_11 (by decide) ?_
      refine am_iload (j := 4) d_AS_find_72 rfl ?_
      obtain ⟨hv, h⟩ := h
      refine am_iald d_AS_find_74 (by decide) sh_66 hv ?_
      obtain ⟨hc, h⟩ := h
      refine ak_VR (as := [.int (s 66 (x4).toNatClampNeg)]) (rest := []) d_AS_find_75 cw_AS_find_75 rfl rfl rfl (ct_AS_question hg hc) rfl rfl (by decide) sh_52 rfl (Nat.le_of_ble_eq_true rfl) (by decide) (by decide) ?_
      refine am_astore (lv2 := [(5, .ref (f_AS_question s (s 66 (x4).toNatClampNeg))), (0, .ref 52), (1, .int x1), (2, .int x2), (3, .int x3), (4, .int x4)]) d_AS_find_78 (by decide) rfl ?_
      refine am_aload (j := 0) d_AS_find_80 rfl ?_
      obtain ⟨⟨b1, t1⟩, h⟩ := h
      refine am_getI d_AS_find_82 fl_AS_53 b1 t1 (by decide) rfl ?_
      refine ai_ne (F := am_oC) (tgt := 97) d_AS_find_85 (by decide) (fun c => ?_) (fun c => ?_)
      · have h := h.2 c
        refine am_aload (j := 0) d_AS_find_97 rfl ?_
        refine am_getI d_AS_find_99 fl_AS_53 b1 t1 (by decide) rfl ?_
        refine am_iconst (v := (1 : Int32)) d_AS_find_102 (by decide) ?_
        refine aj_ne (F := am_oC) (tgt := 115) d_AS_find_103 (by decide) (fun c => ?_) (fun c => ?_)
        · have h := h.2 c
          refine am_aload_n (j := 1) d_AS_find_115 rfl rfl ?_
          refine am_aload (j := 0) d_AS_find_116 rfl ?_
          obtain ⟨hc, h⟩ := h
          refine ak_VM (as := [.ref (f_AS_question s (s 66 (x4).toNatClampNeg))]) (rest := []) d_AS_find_118 cw_AS_find_118 rfl rfl rfl (ct_AS_findCross hg hc) rfl rfl (by decide) sh_52 rfl (Nat.le_of_ble_eq_true rfl) (by decide) (by decide) ?_
          refine am_sub [1, 2, 3, 4, 5, 0] (lv2 := [(0, .ref 52), (1, .int x1), (2, .int x2), (3, .int x3), (4, .int x4), (5, .ref (f_AS_question s (s 66 (x4).toNatClampNeg)))]) rfl ?_
          exact w_AS_find_121 hg hK62 h
        · have h := h.1 c
          refine am_aload_n (j := 1) d_AS_find_106 rfl rfl ?_
          refine am_aload (j := 0) d_AS_find_107 rfl ?_
          obtain ⟨hc, h⟩ := h
          refine ak_VM (as := [.ref (f_AS_question s (s 66 (x4).toNatClampNeg))]) (rest := []) d_AS_find_109 cw_AS_find_109 rfl rfl rfl (ct_AS_findGroups hg hc) rfl rfl (by decide) sh_52 rfl (Nat.le_of_ble_eq_true rfl) (by decide) (by decide) ?_
          refine am_goto (tgt := 121) d_AS_find_112 (by decide) ?_
          refine am_sub [1, 2, 3, 4, 5, 0] (lv2 := [(0, .ref 52), (1, .int x1), (2, .int x2), (3, .int x3), (4, .int x4), (5, .ref (f_AS_question s (s 66 (x4).toNatClampNeg)))]) rfl ?_
          exact w_AS_find_121 hg hK62 h
      · have h := h.1 c
        refine am_aload_n (j := 1) d_AS_find_88 rfl rfl ?_
        refine am_aload (j := 0) d_AS_find_89 rfl ?_
        obtain ⟨hc, h⟩ := h
        refine ak_VM (as := [.ref (f_AS_question s (s 66 (x4).toNatClampNeg))]) (rest := []) d_AS_find_91 cw_AS_find_91 rfl rfl rfl (ct_AS_findPlain hg hc) rfl rfl (by decide) sh_52 rfl (Nat.le_of_ble_eq_true rfl) (by decide) (by decide) ?_
        refine am_goto (tgt := 121) d_AS_find_94 (by decide) ?_
        refine am_sub [1, 2, 3, 4, 5, 0] (lv2 := [(0, .ref 52), (1, .int x1), (2, .int x2), (3, .int x3), (4, .int x4), (5, .ref (f_AS_question s (s 66 (x4).toNatClampNeg)))]) rfl ?_
        exact w_AS_find_121 hg hK62 h
def f_AS_find_52  (s : am_M) (x1 : Int32) (x2 : Int32) (x3 : Int32) : Int32 × am_M := (f_AS_find_62 am_F (f_AS_findRows s x3) x1 x2 x3 (x2 - (1 : Int32)))
def p_AS_find_52  (s : am_M) (x1 : Int32) (x2 : Int32) (x3 : Int32) : Prop := p_AS_findRows s x3 ∧ ((p_AS_find_62 am_F (f_AS_findRows s x3) x1 x2 x3 (x2 - (1 : Int32))))
set_option maxRecDepth 8000 in
theorem w_AS_find_52 {l : Launch} {g : am_Gl} (hg : g.2.2.2.1 = true) {ad0 : Nat → Nat}  {s : am_M} {x1 : Int32} {x2 : Int32} {x3 : Int32} (h : p_AS_find_52  s x1 x2 x3) : AW l g m_AS_find 207 ad0 (am_oC (f_AS_find_52  s x1 x2 x3)) 0 0 207 s 52 [(0, .ref 52), (1, .int x1), (2, .int x2), (3, .int x3)] [] := by
  refine am_aload_n (j := 0) d_AS_find_52 rfl rfl ?_
  refine am_iload_n (j := 3) d_AS_find_53 rfl rfl ?_
  obtain ⟨hc, h⟩ := h
  refine ak_VM (as := [.int x3]) (rest := []) d_AS_find_54 cw_AS_find_54 rfl rfl rfl (ct_AS_findRows hg hc) rfl rfl (by decide) sh_52 rfl (Nat.le_of_ble_eq_true rfl) (by decide) (by decide) ?_
  refine am_iload_n (j := 2) d_AS_find_57 rfl rfl ?_
  refine am_iconst (v := (1 : Int32)) d_AS_find_58 (by decide) ?_
  refine am_isub d_AS_find_59 ?_
  refine am_istore (lv2 := [(4, .int (x2 - (1 : Int32))), (0, .ref 52), (1, .int x1), (2, .int x2), (3, .int x3)]) d_AS_find_60 (by decide) rfl ?_
  refine am_sub [1, 2, 3, 4, 0] (lv2 := [(0, .ref 52), (1, .int x1), (2, .int x2), (3, .int x3), (4, .int (x2 - (1 : Int32)))]) rfl ?_
  exact w_AS_find_62 hg am_F _ _ _ _ _ h
def f_AS_find_7  : Nat → am_M → Int32 → Int32 → Int32 → Int32 × am_M
  | 0, s, x1, x2, x3 => (0, s)
  | n + 1, s, x1, x2, x3 => (if (8 : Int32) ≤ x2 then (f_AS_find_52 s x1 x2 x3) else (if x3 < (10 : Int32) then (f_AS_find_52 s x1 x2 x3) else ((f_AS_find_7  n) (am_set s 66 (x2).toNatClampNeg (x3 - (10 : Int32))) x1 (x2 + (1 : Int32)) ((am_set s 66 (x2).toNatClampNeg (x3 - (10 : Int32))) (f_AS_question (am_set s 66 (x2).toNatClampNeg (x3 - (10 : Int32))) ((am_set s 66 (x2).toNatClampNeg (x3 - (10 : Int32))) 66 (x2).toNatClampNeg)) 1))))
def p_AS_find_7  : Nat → am_M → Int32 → Int32 → Int32 → Prop
  | 0, s, x1, x2, x3 => False
  | n + 1, s, x1, x2, x3 => (((8 : Int32) ≤ x2) → (p_AS_find_52 s x1 x2 x3)) ∧ (¬ ((8 : Int32) ≤ x2) → ((x3 < (10 : Int32)) → (p_AS_find_52 s x1 x2 x3)) ∧ (¬ (x3 < (10 : Int32)) → vp_in x2 8 ∧ (vp_in x2 8 ∧ (p_AS_question (am_set s 66 (x2).toNatClampNeg (x3 - (10 : Int32))) ((am_set s 66 (x2).toNatClampNeg (x3 - (10 : Int32))) 66 (x2).toNatClampNeg) ∧ (((f_AS_question (am_set s 66 (x2).toNatClampNeg (x3 - (10 : Int32))) ((am_set s 66 (x2).toNatClampNeg (x3 - (10 : Int32))) 66 (x2).toNatClampNeg)) < 207 ∧ am_sh (f_AS_question (am_set s 66 (x2).toNatClampNeg (x3 - (10 : Int32))) ((am_set s 66 (x2).toNatClampNeg (x3 - (10 : Int32))) 66 (x2).toNatClampNeg)) = (0, 4, 17)) ∧ (((p_AS_find_7  n) (am_set s 66 (x2).toNatClampNeg (x3 - (10 : Int32))) x1 (x2 + (1 : Int32)) ((am_set s 66 (x2).toNatClampNeg (x3 - (10 : Int32))) (f_AS_question (am_set s 66 (x2).toNatClampNeg (x3 - (10 : Int32))) ((am_set s 66 (x2).toNatClampNeg (x3 - (10 : Int32))) 66 (x2).toNatClampNeg)) 1))))))))
set_option maxRecDepth 8000 in
theorem w_AS_find_7 {l : Launch} {g : am_Gl} (hg : g.2.2.2.1 = true) {ad0 : Nat → Nat}   : ∀ (n : Nat) (s : am_M) (x1 : Int32) (x2 : Int32) (x3 : Int32), p_AS_find_7  n s x1 x2 x3 → AW l g m_AS_find 207 ad0 (am_oC (f_AS_find_7  n s x1 x2 x3)) 0 0 207 s 7 [(0, .ref 52), (1, .int x1), (2, .int x2), (3, .int x3)] [] := by
  intro n
  induction n with
  | zero => intro s x1 x2 x3 h; exact h.elim
  | succ n hK7 =>
    intro s x1 x2 x3 h
    refine am_iload_n (j := 2) d_AS_find_7 rfl rfl ?_
    refine am_aload_n (j := 0) d_AS_find_8 rfl rfl ?_
    refine am_getR (t := 66) d_AS_find_9 fl_AS_38 hg (by decide) sh_52 (by decide) rfl (by decide) lk_52_11 (by decide) ?_
    refine am_alen (v := (8 : Int32)) d_AS_find_12 (by decide) sh_66 (by decide) (by decide) ?_
    refine aj_ge (F := am_oC) (tgt := 52) d_AS_find_13 (by decide) (fun c => ?_) (fun c => ?_)
    · have h := h.1 c
      exact w_AS_find_52 hg h
    · have h := h.2 c
      refine am_iload_n (j := 3) d_AS_find_16 rfl rfl ?_
      refine am_bipush (v := (10 : Int32)) d_AS_find_17 (by decide) ?_
      refine aj_lt (F := am_oC) (tgt := 52) d_AS_find_19 (by decide) (fun c => ?_) (fun c => ?_)
      · have h := h.1 c
        exact w_AS_find_52 hg h
      · have h := h.2 c
        refine am_aload_n (j := 0) d_AS_find_22 rfl rfl ?_
        refine am_getR (t := 66) d_AS_find_23 fl_AS_38 hg (by decide) sh_52 (by decide) rfl (by decide) lk_52_11 (by decide) ?_
        refine am_iload_n (j := 2) d_AS_find_26 rfl rfl ?_
        refine am_iload_n (j := 3) d_AS_find_27 rfl rfl ?_
        refine am_bipush (v := (10 : Int32)) d_AS_find_28 (by decide) ?_
        refine am_isub d_AS_find_30 ?_
        obtain ⟨hv, h⟩ := h
        refine am_iast d_AS_find_31 (by decide) sh_66 hv ?_
        refine am_aload_n (j := 0) d_AS_find_32 rfl rfl ?_
        refine am_aload_n (j := 0) d_AS_find_33 rfl rfl ?_
        refine am_getR (t := 66) d_AS_find_34 fl_AS_38 hg (by decide) sh_52 (by decide) rfl (by decide) lk_52_11 (by decide) ?_
        refine am_iload_n (j := 2) d_AS_find_37 rfl rfl ?_
        obtain ⟨hv, h⟩ := h
        refine am_iald d_AS_find_38 (by decide) sh_66 hv ?_
        obtain ⟨hc, h⟩ := h
        refine ak_VR (as := [.int ((am_set s 66 (x2).toNatClampNeg (x3 - (10 : Int32))) 66 (x2).toNatClampNeg)]) (rest := []) d_AS_find_39 cw_AS_find_39 rfl rfl rfl (ct_AS_question hg hc) rfl rfl (by decide) sh_52 rfl (Nat.le_of_ble_eq_true rfl) (by decide) (by decide) ?_
        obtain ⟨⟨b1, t1⟩, h⟩ := h
        refine am_getI d_AS_find_42 fl_AS_67 b1 t1 (by decide) rfl ?_
        refine am_istore_n (lv2 := [(3, .int ((am_set s 66 (x2).toNatClampNeg (x3 - (10 : Int32))) (f_AS_question (am_set s 66 (x2).toNatClampNeg (x3 - (10 : Int32))) ((am_set s 66 (x2).toNatClampNeg (x3 - (10 : Int32))) 66 (x2).toNatClampNeg)) 1)), (0, .ref 52), (1, .int x1), (2, .int x2)]) d_AS_find_45 rfl (by decide) rfl ?_
        refine am_iinc (j := 3) (v := (x2 + (1 : Int32))) (lv2 := [(2, .int (x2 + (1 : Int32))), (3, .int ((am_set s 66 (x2).toNatClampNeg (x3 - (10 : Int32))) (f_AS_question (am_set s 66 (x2).toNatClampNeg (x3 - (10 : Int32))) ((am_set s 66 (x2).toNatClampNeg (x3 - (10 : Int32))) 66 (x2).toNatClampNeg)) 1)), (0, .ref 52), (1, .int x1)]) d_AS_find_46 rfl rfl (by decide) rfl ?_
        refine am_goto (tgt := 7) d_AS_find_49 (by decide) ?_
        refine am_sub [2, 3, 0, 1] (lv2 := [(0, .ref 52), (1, .int x1), (2, .int (x2 + (1 : Int32))), (3, .int ((am_set s 66 (x2).toNatClampNeg (x3 - (10 : Int32))) (f_AS_question (am_set s 66 (x2).toNatClampNeg (x3 - (10 : Int32))) ((am_set s 66 (x2).toNatClampNeg (x3 - (10 : Int32))) 66 (x2).toNatClampNeg)) 1))]) rfl ?_
        exact hK7 _ _ _ _ h
def f_AS_find  (s : am_M) (x1 : Int32) : Int32 × am_M := (f_AS_find_7 am_F s x1 (0 : Int32) ((10 : Int32) + x1))
def p_AS_find  (s : am_M) (x1 : Int32) : Prop := (p_AS_find_7 am_F s x1 (0 : Int32) ((10 : Int32) + x1))
set_option maxRecDepth 8000 in
theorem w_AS_find {l : Launch} {g : am_Gl} (hg : g.2.2.2.1 = true) {ad0 : Nat → Nat} {s : am_M} {x1 : Int32} (h : p_AS_find s x1) : AW l g m_AS_find 207 ad0 (am_oC (f_AS_find s x1)) 0 0 207 s 0 [(0, .ref 52), (1, .int x1)] [] := by
  refine am_iconst (v := (0 : Int32)) d_AS_find_0 (by decide) ?_
  refine am_istore_n (lv2 := [(2, .int (0 : Int32)), (0, .ref 52), (1, .int x1)]) d_AS_find_1 rfl (by decide) rfl ?_
  refine am_bipush (v := (10 : Int32)) d_AS_find_2 (by decide) ?_
  refine am_iload_n (j := 2) d_AS_find_4 rfl rfl ?_
  refine am_iadd d_AS_find_5 ?_
  refine am_istore_n (lv2 := [(3, .int ((10 : Int32) + x1)), (2, .int (0 : Int32)), (0, .ref 52), (1, .int x1)]) d_AS_find_6 rfl (by decide) rfl ?_
  refine am_sub [2, 3, 1, 0] (lv2 := [(0, .ref 52), (1, .int x1), (2, .int (0 : Int32)), (3, .int ((10 : Int32) + x1))]) rfl ?_
  exact w_AS_find_7 hg am_F _ _ _ _ h
theorem ct_AS_find {l : Launch} {g : am_Gl} (hg : g.2.2.2.1 = true) {s : am_M} {x1 : Int32} (h : p_AS_find s x1) : AC l g m_AS_find 207 s [.ref 52, .int x1] (am_oC (f_AS_find s x1)) := am_enter ok_AS_find rfl (Nat.le_of_ble_eq_true rfl) rfl (fun ad0 => w_AS_find hg h)
theorem cw_AS_widthOf_2 : am_cv m_AS_widthOf m_AS_question 49 1 := ⟨⟨ok_AS_question, rfl, by decide +kernel, by decide, by decide⟩, aw_3_106, aw_3_107, aw_3_108⟩
theorem cw_AS_widthOf_21 : am_cv m_AS_widthOf m_AS_find 59 1 := ⟨⟨ok_AS_find, rfl, by decide +kernel, by decide, by decide⟩, aw_4_196, aw_3_103, aw_3_104⟩
def f_AS_widthOf  (s : am_M) (x1 : Int32) : Int32 × am_M := (if (s (f_AS_question s x1) 0) = (2 : Int32) then (((f_AS_find s x1).2 52 5), (f_AS_find s x1).2) else ((s (f_AS_question s x1) 7), s))
def p_AS_widthOf  (s : am_M) (x1 : Int32) : Prop := p_AS_question s x1 ∧ (((f_AS_question s x1) < 207 ∧ am_sh (f_AS_question s x1) = (0, 4, 17)) ∧ ((((s (f_AS_question s x1) 0) = (2 : Int32)) → p_AS_find s x1 ∧ (True)) ∧ (¬ ((s (f_AS_question s x1) 0) = (2 : Int32)) → True)))
set_option maxRecDepth 8000 in
theorem w_AS_widthOf {l : Launch} {g : am_Gl} (hg : g.2.2.2.1 = true) {ad0 : Nat → Nat} {s : am_M} {x1 : Int32} (h : p_AS_widthOf s x1) : AW l g m_AS_widthOf 207 ad0 (am_oC (f_AS_widthOf s x1)) 0 0 207 s 0 [(0, .ref 52), (1, .int x1)] [] := by
  refine am_aload_n (j := 0) d_AS_widthOf_0 rfl rfl ?_
  refine am_iload_n (j := 1) d_AS_widthOf_1 rfl rfl ?_
  obtain ⟨hc, h⟩ := h
  refine ak_VR (as := [.int x1]) (rest := []) d_AS_widthOf_2 cw_AS_widthOf_2 rfl rfl rfl (ct_AS_question hg hc) rfl rfl (by decide) sh_52 rfl (Nat.le_of_ble_eq_true rfl) (by decide) (by decide) ?_
  refine am_astore_n (lv2 := [(2, .ref (f_AS_question s x1)), (0, .ref 52), (1, .int x1)]) d_AS_widthOf_5 rfl (by decide) rfl ?_
  refine am_aload_n (j := 0) d_AS_widthOf_6 rfl rfl ?_
  obtain ⟨⟨b1, t1⟩, h⟩ := h
  refine am_getI d_AS_widthOf_7 fl_AS_53 b1 t1 (by decide) rfl ?_
  refine am_iconst (v := (2 : Int32)) d_AS_widthOf_10 (by decide) ?_
  refine aj_eq (F := am_oC) (tgt := 19) d_AS_widthOf_11 (by decide) (fun c => ?_) (fun c => ?_)
  · have h := h.1 c
    refine am_aload_n (j := 1) d_AS_widthOf_19 rfl rfl ?_
    refine am_iload_n (j := 2) d_AS_widthOf_20 rfl rfl ?_
    obtain ⟨hc, h⟩ := h
    refine ak_VC (as := [.int x1]) (rest := []) d_AS_widthOf_21 cw_AS_widthOf_21 rfl rfl rfl (ct_AS_find hg hc) rfl rfl (by decide) sh_52 rfl (Nat.le_of_ble_eq_true rfl) (by decide) (by decide) ?_
    refine am_pop d_AS_widthOf_24 rfl ?_
    refine am_aload_n (j := 1) d_AS_widthOf_25 rfl rfl ?_
    refine am_getI d_AS_widthOf_26 fl_AS_63 (by decide) sh_52 (by decide) rfl ?_
    exact am_iret d_AS_widthOf_29 rfl rfl (by decide) (by decide) am_oC_ok
  · have h := h.2 c
    refine am_aload_n (j := 0) d_AS_widthOf_14 rfl rfl ?_
    refine am_getI d_AS_widthOf_15 fl_AS_56 b1 t1 (by decide) rfl ?_
    exact am_iret d_AS_widthOf_18 rfl rfl (by decide) (by decide) am_oC_ok
theorem ct_AS_widthOf {l : Launch} {g : am_Gl} (hg : g.2.2.2.1 = true) {s : am_M} {x1 : Int32} (h : p_AS_widthOf s x1) : AC l g m_AS_widthOf 207 s [.ref 52, .int x1] (am_oC (f_AS_widthOf s x1)) := am_enter ok_AS_widthOf rfl (Nat.le_of_ble_eq_true rfl) rfl (fun ad0 => w_AS_widthOf hg h)
theorem cw_AS_originOf_26 : am_cv m_AS_originOf m_AS_question 49 1 := ⟨⟨ok_AS_question, rfl, by decide +kernel, by decide, by decide⟩, aw_3_106, aw_3_107, aw_3_108⟩
theorem cw_AS_originOf_30 : am_cv m_AS_originOf m_QU_originOf 64 1 := ⟨⟨ok_QU_originOf, rfl, by decide +kernel, by decide, by decide⟩, aw_4_110, aw_3_184, aw_3_185⟩
def f_AS_originOf  (s : am_M) (x1 : Int32) (x2 : Int32) : Int32 := (if 0 ≤ x2 then (if (10 : Int32) ≤ x1 then (f_QU_originOf s (f_AS_question s (x1 - (10 : Int32))) x2) else (((10 : Int32) * x1) + x2)) else (-1 : Int32))
def p_AS_originOf  (s : am_M) (x1 : Int32) (x2 : Int32) : Prop := ((0 ≤ x2) → (((10 : Int32) ≤ x1) → p_AS_question s (x1 - (10 : Int32)) ∧ (p_QU_originOf s (f_AS_question s (x1 - (10 : Int32))) x2 ∧ (((f_AS_question s (x1 - (10 : Int32))) < 207 ∧ am_sh (f_AS_question s (x1 - (10 : Int32))) = (0, 4, 17)) ∧ (True)))) ∧ (¬ ((10 : Int32) ≤ x1) → True)) ∧ (¬ (0 ≤ x2) → True)
set_option maxRecDepth 8000 in
theorem w_AS_originOf {l : Launch} {g : am_Gl} (hg : g.2.2.2.1 = true) {ad0 : Nat → Nat} {s : am_M} {x1 : Int32} {x2 : Int32} (h : p_AS_originOf s x1 x2) : AW l g m_AS_originOf 207 ad0 ((am_oI s) (f_AS_originOf s x1 x2)) 0 0 207 s 0 [(0, .ref 52), (1, .int x1), (2, .int x2)] [] := by
  refine am_iload_n (j := 2) d_AS_originOf_0 rfl rfl ?_
  refine ai_ge (F := (am_oI s)) (tgt := 6) d_AS_originOf_1 (by decide) (fun c => ?_) (fun c => ?_)
  · have h := h.1 c
    refine am_iload_n (j := 1) d_AS_originOf_6 rfl rfl ?_
    refine am_bipush (v := (10 : Int32)) d_AS_originOf_7 (by decide) ?_
    refine aj_ge (F := (am_oI s)) (tgt := 21) d_AS_originOf_9 (by decide) (fun c => ?_) (fun c => ?_)
    · have h := h.1 c
      refine am_aload_n (j := 0) d_AS_originOf_21 rfl rfl ?_
      refine am_iload_n (j := 1) d_AS_originOf_22 rfl rfl ?_
      refine am_bipush (v := (10 : Int32)) d_AS_originOf_23 (by decide) ?_
      refine am_isub d_AS_originOf_25 ?_
      obtain ⟨hc, h⟩ := h
      refine ak_VR (as := [.int (x1 - (10 : Int32))]) (rest := []) d_AS_originOf_26 cw_AS_originOf_26 rfl rfl rfl (ct_AS_question hg hc) rfl rfl (by decide) sh_52 rfl (Nat.le_of_ble_eq_true rfl) (by decide) (by decide) ?_
      refine am_iload_n (j := 2) d_AS_originOf_29 rfl rfl ?_
      obtain ⟨hc, h⟩ := h
      obtain ⟨⟨b1, t1⟩, h⟩ := h
      refine ak_VI (as := [.int x2]) (rest := []) d_AS_originOf_30 cw_AS_originOf_30 rfl rfl rfl (ct_QU_originOf hg hc) rfl rfl b1 t1 rfl (Nat.le_of_ble_eq_true rfl) (by decide) (by decide) ?_
      exact am_iret d_AS_originOf_33 rfl rfl (by decide) (by decide) am_oI_ok
    · have h := h.2 c
      refine am_bipush (v := (10 : Int32)) d_AS_originOf_12 (by decide) ?_
      refine am_iload_n (j := 1) d_AS_originOf_14 rfl rfl ?_
      refine am_imul d_AS_originOf_15 ?_
      refine am_iload_n (j := 2) d_AS_originOf_16 rfl rfl ?_
      refine am_iadd d_AS_originOf_17 ?_
      refine am_goto (tgt := 33) d_AS_originOf_18 (by decide) ?_
      exact am_iret d_AS_originOf_33 rfl rfl (by decide) (by decide) am_oI_ok
  · have h := h.2 c
    refine am_iconst (v := (-1 : Int32)) d_AS_originOf_4 (by decide) ?_
    exact am_iret d_AS_originOf_5 rfl rfl (by decide) (by decide) am_oI_ok
theorem ct_AS_originOf {l : Launch} {g : am_Gl} (hg : g.2.2.2.1 = true) {s : am_M} {x1 : Int32} {x2 : Int32} (h : p_AS_originOf s x1 x2) : AC l g m_AS_originOf 207 s [.ref 52, .int x1, .int x2] ((am_oI s) (f_AS_originOf s x1 x2)) := am_enter ok_AS_originOf rfl (Nat.le_of_ble_eq_true rfl) rfl (fun ad0 => w_AS_originOf hg h)
theorem cw_AS_makePlain_5 : am_cv m_AS_makePlain m_AS_question 49 1 := ⟨⟨ok_AS_question, rfl, by decide +kernel, by decide, by decide⟩, aw_3_106, aw_3_107, aw_3_108⟩
theorem cw_AS_makePlain_47 : am_cv m_AS_makePlain m_AS_question 49 1 := ⟨⟨ok_AS_question, rfl, by decide +kernel, by decide, by decide⟩, aw_3_106, aw_3_107, aw_3_108⟩
theorem cw_AS_makePlain_50 : am_cv m_AS_makePlain m_QU_addColumnsOf 98 1 := ⟨⟨ok_QU_addColumnsOf, rfl, by decide +kernel, by decide, by decide⟩, aw_4_218, aw_4_219, aw_4_220⟩
theorem cw_AS_makePlain_32 : am_cv m_AS_makePlain m_BA_widthOf 89 1 := ⟨⟨ok_BA_widthOf, rfl, by decide +kernel, by decide, by decide⟩, aw_3_114, aw_2_81, aw_2_82⟩
theorem cw_AS_makePlain_35 : am_cv m_AS_makePlain m_QU_addTableColumns 94 2 := ⟨⟨ok_QU_addTableColumns, rfl, by decide +kernel, by decide, by decide⟩, aw_4_214, aw_4_215, aw_4_216⟩
theorem cw_AS_makePlain_64 : am_cv m_AS_makePlain m_AS_originOf 77 2 := ⟨⟨ok_AS_originOf, rfl, by decide +kernel, by decide, by decide⟩, aw_4_106, aw_4_107, aw_4_108⟩
theorem cw_AS_makePlain_94 : am_cv m_AS_makePlain m_BA_column 105 2 := ⟨⟨ok_BA_column, rfl, by decide +kernel, by decide, by decide⟩, aw_4_225, aw_2_94, aw_2_95⟩
theorem cw_AS_makePlain_116 : am_cv m_AS_makePlain m_BA_widthOf 89 1 := ⟨⟨ok_BA_widthOf, rfl, by decide +kernel, by decide, by decide⟩, aw_3_114, aw_2_81, aw_2_82⟩
theorem cw_AS_makePlain_119 : am_cv m_AS_makePlain m_QU_addTableColumns 94 2 := ⟨⟨ok_QU_addTableColumns, rfl, by decide +kernel, by decide, by decide⟩, aw_4_214, aw_4_215, aw_4_216⟩
def f_AS_makePlain_53  (s : am_M) (x1 : Int32) (x2 : Int32) (x3 : Nat) : Int32 × am_M := (if (f_AS_originOf (am_set s x3 8 (s x3 7)) x1 x2) < 0 then (((am_set s x3 8 (s x3 7)) 52 3), (am_set (am_set s x3 8 (s x3 7)) 52 3 (((am_set s x3 8 (s x3 7)) 52 3) + (1 : Int32)))) else (((f_QU_addTableColumns (am_set (am_set (am_set s x3 8 (s x3 7)) x3 2 x2) x3 3 ((am_set (am_set s x3 8 (s x3 7)) x3 2 x2) (f_BA_column (am_set (am_set s x3 8 (s x3 7)) x3 2 x2) ((f_AS_originOf (am_set s x3 8 (s x3 7)) x1 x2) / (10 : Int32)) ((f_AS_originOf (am_set s x3 8 (s x3 7)) x1 x2) - (f_AS_originOf (am_set s x3 8 (s x3 7)) x1 x2) / (10 : Int32) * (10 : Int32))) 3)) x3 ((am_set (am_set (am_set s x3 8 (s x3 7)) x3 2 x2) x3 3 ((am_set (am_set s x3 8 (s x3 7)) x3 2 x2) (f_BA_column (am_set (am_set s x3 8 (s x3 7)) x3 2 x2) ((f_AS_originOf (am_set s x3 8 (s x3 7)) x1 x2) / (10 : Int32)) ((f_AS_originOf (am_set s x3 8 (s x3 7)) x1 x2) - (f_AS_originOf (am_set s x3 8 (s x3 7)) x1 x2) / (10 : Int32) * (10 : Int32))) 3)) x3 3) (f_BA_widthOf (am_set (am_set (am_set s x3 8 (s x3 7)) x3 2 x2) x3 3 ((am_set (am_set s x3 8 (s x3 7)) x3 2 x2) (f_BA_column (am_set (am_set s x3 8 (s x3 7)) x3 2 x2) ((f_AS_originOf (am_set s x3 8 (s x3 7)) x1 x2) / (10 : Int32)) ((f_AS_originOf (am_set s x3 8 (s x3 7)) x1 x2) - (f_AS_originOf (am_set s x3 8 (s x3 7)) x1 x2) / (10 : Int32) * (10 : Int32))) 3)) ((am_set (am_set (am_set s x3 8 (s x3 7)) x3 2 x2) x3 3 ((am_set (am_set s x3 8 (s x3 7)) x3 2 x2) (f_BA_column (am_set (am_set s x3 8 (s x3 7)) x3 2 x2) ((f_AS_originOf (am_set s x3 8 (s x3 7)) x1 x2) / (10 : Int32)) ((f_AS_originOf (am_set s x3 8 (s x3 7)) x1 x2) - (f_AS_originOf (am_set s x3 8 (s x3 7)) x1 x2) / (10 : Int32) * (10 : Int32))) 3)) x3 3))) 52 3), (am_set (f_QU_addTableColumns (am_set (am_set (am_set s x3 8 (s x3 7)) x3 2 x2) x3 3 ((am_set (am_set s x3 8 (s x3 7)) x3 2 x2) (f_BA_column (am_set (am_set s x3 8 (s x3 7)) x3 2 x2) ((f_AS_originOf (am_set s x3 8 (s x3 7)) x1 x2) / (10 : Int32)) ((f_AS_originOf (am_set s x3 8 (s x3 7)) x1 x2) - (f_AS_originOf (am_set s x3 8 (s x3 7)) x1 x2) / (10 : Int32) * (10 : Int32))) 3)) x3 ((am_set (am_set (am_set s x3 8 (s x3 7)) x3 2 x2) x3 3 ((am_set (am_set s x3 8 (s x3 7)) x3 2 x2) (f_BA_column (am_set (am_set s x3 8 (s x3 7)) x3 2 x2) ((f_AS_originOf (am_set s x3 8 (s x3 7)) x1 x2) / (10 : Int32)) ((f_AS_originOf (am_set s x3 8 (s x3 7)) x1 x2) - (f_AS_originOf (am_set s x3 8 (s x3 7)) x1 x2) / (10 : Int32) * (10 : Int32))) 3)) x3 3) (f_BA_widthOf (am_set (am_set (am_set s x3 8 (s x3 7)) x3 2 x2) x3 3 ((am_set (am_set s x3 8 (s x3 7)) x3 2 x2) (f_BA_column (am_set (am_set s x3 8 (s x3 7)) x3 2 x2) ((f_AS_originOf (am_set s x3 8 (s x3 7)) x1 x2) / (10 : Int32)) ((f_AS_originOf (am_set s x3 8 (s x3 7)) x1 x2) - (f_AS_originOf (am_set s x3 8 (s x3 7)) x1 x2) / (10 : Int32) * (10 : Int32))) 3)) ((am_set (am_set (am_set s x3 8 (s x3 7)) x3 2 x2) x3 3 ((am_set (am_set s x3 8 (s x3 7)) x3 2 x2) (f_BA_column (am_set (am_set s x3 8 (s x3 7)) x3 2 x2) ((f_AS_originOf (am_set s x3 8 (s x3 7)) x1 x2) / (10 : Int32)) ((f_AS_originOf (am_set s x3 8 (s x3 7)) x1 x2) - (f_AS_originOf (am_set s x3 8 (s x3 7)) x1 x2) / (10 : Int32) * (10 : Int32))) 3)) x3 3))) 52 3 (((f_QU_addTableColumns (am_set (am_set (am_set s x3 8 (s x3 7)) x3 2 x2) x3 3 ((am_set (am_set s x3 8 (s x3 7)) x3 2 x2) (f_BA_column (am_set (am_set s x3 8 (s x3 7)) x3 2 x2) ((f_AS_originOf (am_set s x3 8 (s x3 7)) x1 x2) / (10 : Int32)) ((f_AS_originOf (am_set s x3 8 (s x3 7)) x1 x2) - (f_AS_originOf (am_set s x3 8 (s x3 7)) x1 x2) / (10 : Int32) * (10 : Int32))) 3)) x3 ((am_set (am_set (am_set s x3 8 (s x3 7)) x3 2 x2) x3 3 ((am_set (am_set s x3 8 (s x3 7)) x3 2 x2) (f_BA_column (am_set (am_set s x3 8 (s x3 7)) x3 2 x2) ((f_AS_originOf (am_set s x3 8 (s x3 7)) x1 x2) / (10 : Int32)) ((f_AS_originOf (am_set s x3 8 (s x3 7)) x1 x2) - (f_AS_originOf (am_set s x3 8 (s x3 7)) x1 x2) / (10 : Int32) * (10 : Int32))) 3)) x3 3) (f_BA_widthOf (am_set (am_set (am_set s x3 8 (s x3 7)) x3 2 x2) x3 3 ((am_set (am_set s x3 8 (s x3 7)) x3 2 x2) (f_BA_column (am_set (am_set s x3 8 (s x3 7)) x3 2 x2) ((f_AS_originOf (am_set s x3 8 (s x3 7)) x1 x2) / (10 : Int32)) ((f_AS_originOf (am_set s x3 8 (s x3 7)) x1 x2) - (f_AS_originOf (am_set s x3 8 (s x3 7)) x1 x2) / (10 : Int32) * (10 : Int32))) 3)) ((am_set (am_set (am_set s x3 8 (s x3 7)) x3 2 x2) x3 3 ((am_set (am_set s x3 8 (s x3 7)) x3 2 x2) (f_BA_column (am_set (am_set s x3 8 (s x3 7)) x3 2 x2) ((f_AS_originOf (am_set s x3 8 (s x3 7)) x1 x2) / (10 : Int32)) ((f_AS_originOf (am_set s x3 8 (s x3 7)) x1 x2) - (f_AS_originOf (am_set s x3 8 (s x3 7)) x1 x2) / (10 : Int32) * (10 : Int32))) 3)) x3 3))) 52 3) + (1 : Int32)))))
def p_AS_makePlain_53  (s : am_M) (x1 : Int32) (x2 : Int32) (x3 : Nat) : Prop := (x3 < 207 ∧ am_sh x3 = (0, 4, 17)) ∧ (p_AS_originOf (am_set s x3 8 (s x3 7)) x1 x2 ∧ ((((f_AS_originOf (am_set s x3 8 (s x3 7)) x1 x2) < 0) → True) ∧ (¬ ((f_AS_originOf (am_set s x3 8 (s x3 7)) x1 x2) < 0) → p_BA_column (am_set (am_set s x3 8 (s x3 7)) x3 2 x2) ((f_AS_originOf (am_set s x3 8 (s x3 7)) x1 x2) / (10 : Int32)) ((f_AS_originOf (am_set s x3 8 (s x3 7)) x1 x2) - (f_AS_originOf (am_set s x3 8 (s x3 7)) x1 x2) / (10 : Int32) * (10 : Int32)) ∧ (((f_BA_column (am_set (am_set s x3 8 (s x3 7)) x3 2 x2) ((f_AS_originOf (am_set s x3 8 (s x3 7)) x1 x2) / (10 : Int32)) ((f_AS_originOf (am_set s x3 8 (s x3 7)) x1 x2) - (f_AS_originOf (am_set s x3 8 (s x3 7)) x1 x2) / (10 : Int32) * (10 : Int32))) < 207 ∧ am_sh (f_BA_column (am_set (am_set s x3 8 (s x3 7)) x3 2 x2) ((f_AS_originOf (am_set s x3 8 (s x3 7)) x1 x2) / (10 : Int32)) ((f_AS_originOf (am_set s x3 8 (s x3 7)) x1 x2) - (f_AS_originOf (am_set s x3 8 (s x3 7)) x1 x2) / (10 : Int32) * (10 : Int32))) = (0, 3, 11)) ∧ (p_BA_widthOf (am_set (am_set (am_set s x3 8 (s x3 7)) x3 2 x2) x3 3 ((am_set (am_set s x3 8 (s x3 7)) x3 2 x2) (f_BA_column (am_set (am_set s x3 8 (s x3 7)) x3 2 x2) ((f_AS_originOf (am_set s x3 8 (s x3 7)) x1 x2) / (10 : Int32)) ((f_AS_originOf (am_set s x3 8 (s x3 7)) x1 x2) - (f_AS_originOf (am_set s x3 8 (s x3 7)) x1 x2) / (10 : Int32) * (10 : Int32))) 3)) ((am_set (am_set (am_set s x3 8 (s x3 7)) x3 2 x2) x3 3 ((am_set (am_set s x3 8 (s x3 7)) x3 2 x2) (f_BA_column (am_set (am_set s x3 8 (s x3 7)) x3 2 x2) ((f_AS_originOf (am_set s x3 8 (s x3 7)) x1 x2) / (10 : Int32)) ((f_AS_originOf (am_set s x3 8 (s x3 7)) x1 x2) - (f_AS_originOf (am_set s x3 8 (s x3 7)) x1 x2) / (10 : Int32) * (10 : Int32))) 3)) x3 3) ∧ (p_QU_addTableColumns (am_set (am_set (am_set s x3 8 (s x3 7)) x3 2 x2) x3 3 ((am_set (am_set s x3 8 (s x3 7)) x3 2 x2) (f_BA_column (am_set (am_set s x3 8 (s x3 7)) x3 2 x2) ((f_AS_originOf (am_set s x3 8 (s x3 7)) x1 x2) / (10 : Int32)) ((f_AS_originOf (am_set s x3 8 (s x3 7)) x1 x2) - (f_AS_originOf (am_set s x3 8 (s x3 7)) x1 x2) / (10 : Int32) * (10 : Int32))) 3)) x3 ((am_set (am_set (am_set s x3 8 (s x3 7)) x3 2 x2) x3 3 ((am_set (am_set s x3 8 (s x3 7)) x3 2 x2) (f_BA_column (am_set (am_set s x3 8 (s x3 7)) x3 2 x2) ((f_AS_originOf (am_set s x3 8 (s x3 7)) x1 x2) / (10 : Int32)) ((f_AS_originOf (am_set s x3 8 (s x3 7)) x1 x2) - (f_AS_originOf (am_set s x3 8 (s x3 7)) x1 x2) / (10 : Int32) * (10 : Int32))) 3)) x3 3) (f_BA_widthOf (am_set (am_set (am_set s x3 8 (s x3 7)) x3 2 x2) x3 3 ((am_set (am_set s x3 8 (s x3 7)) x3 2 x2) (f_BA_column (am_set (am_set s x3 8 (s x3 7)) x3 2 x2) ((f_AS_originOf (am_set s x3 8 (s x3 7)) x1 x2) / (10 : Int32)) ((f_AS_originOf (am_set s x3 8 (s x3 7)) x1 x2) - (f_AS_originOf (am_set s x3 8 (s x3 7)) x1 x2) / (10 : Int32) * (10 : Int32))) 3)) ((am_set (am_set (am_set s x3 8 (s x3 7)) x3 2 x2) x3 3 ((am_set (am_set s x3 8 (s x3 7)) x3 2 x2) (f_BA_column (am_set (am_set s x3 8 (s x3 7)) x3 2 x2) ((f_AS_originOf (am_set s x3 8 (s x3 7)) x1 x2) / (10 : Int32)) ((f_AS_originOf (am_set s x3 8 (s x3 7)) x1 x2) - (f_AS_originOf (am_set s x3 8 (s x3 7)) x1 x2) / (10 : Int32) * (10 : Int32))) 3)) x3 3)) ∧ (True)))))))
set_option maxRecDepth 8000 in
theorem w_AS_makePlain_53 {l : Launch} {g : am_Gl} (hg : g.2.2.2.1 = true) {ad0 : Nat → Nat}  {s : am_M} {x1 : Int32} {x2 : Int32} {x3 : Nat} (h : p_AS_makePlain_53  s x1 x2 x3) : AW l g m_AS_makePlain 207 ad0 (am_oC (f_AS_makePlain_53  s x1 x2 x3)) 0 0 207 s 53 [(0, .ref 52), (1, .int x1), (2, .int x2), (3, .ref x3)] [] := by
  refine am_aload_n (j := 3) d_AS_makePlain_53 rfl rfl ?_
  refine am_aload_n (j := 3) d_AS_makePlain_54 rfl rfl ?_
  obtain ⟨⟨b1, t1⟩, h⟩ := h
  refine am_getI d_AS_makePlain_55 fl_AS_56 b1 t1 (by decide) rfl ?_
  refine am_putI (ty := .int) d_AS_makePlain_58 fl_AS_102 ft_4_8 b1 t1 (by decide) rfl rfl rfl ?_
  refine am_aload_n (j := 0) d_AS_makePlain_61 rfl rfl ?_
  refine am_iload_n (j := 1) d_AS_makePlain_62 rfl rfl ?_
  refine am_iload_n (j := 2) d_AS_makePlain_63 rfl rfl ?_
  obtain ⟨hc, h⟩ := h
  refine ak_VI (as := [.int x1, .int x2]) (rest := []) d_AS_makePlain_64 cw_AS_makePlain_64 rfl rfl rfl (ct_AS_originOf hg hc) rfl rfl (by decide) sh_52 rfl (Nat.le_of_ble_eq_true rfl) (by decide) (by decide) ?_
  refine am_istore (lv2 := [(4, .int (f_AS_originOf (am_set s x3 8 (s x3 7)) x1 x2)), (0, .ref 52), (1, .int x1), (2, .int x2), (3, .ref x3)]) d_AS_makePlain_67 (by decide) rfl ?_
  refine am_iload (j := 0) d_AS_makePlain_69 rfl ?_
  refine ai_lt (F := am_oC) (tgt := 122) d_AS_makePlain_71 (by decide) (fun c => ?_) (fun c => ?_)
  · have h := h.1 c
    refine am_aload_n (j := 1) d_AS_makePlain_122 rfl rfl ?_
    refine am_dup d_AS_makePlain_123 rfl ?_
    refine am_getI d_AS_makePlain_124 fl_AS_45 (by decide) sh_52 (by decide) rfl ?_
    refine am_dup_x1 d_AS_makePlain_127 rfl rfl ?_
    refine am_iconst (v := (1 : Int32)) d_AS_makePlain_128 (by decide) ?_
    refine am_iadd d_AS_makePlain_129 ?_
    refine am_putI (ty := .int) d_AS_makePlain_130 fl_AS_45 ft_1_3 (by decide) sh_52 (by decide) rfl rfl rfl ?_
    exact am_iret d_AS_makePlain_133 rfl rfl (by decide) (by decide) am_oC_ok
  · have h := h.2 c
    refine am_aload_n (j := 4) d_AS_makePlain_74 rfl rfl ?_
    refine am_iload_n (j := 3) d_AS_makePlain_75 rfl rfl ?_
    refine am_putI (ty := .int) d_AS_makePlain_76 fl_AS_74 ft_4_2 b1 t1 (by decide) rfl rfl rfl ?_
    refine am_aload_n (j := 4) d_AS_makePlain_79 rfl rfl ?_
    refine am_aload_n (j := 1) d_AS_makePlain_80 rfl rfl ?_
    refine am_getR (t := 1) d_AS_makePlain_81 fl_AS_41 hg (by decide) sh_52 (by decide) rfl (by decide) lk_52_0 (by decide) ?_
    refine am_iload (j := 0) d_AS_makePlain_84 rfl ?_
    refine am_bipush (v := (10 : Int32)) d_AS_makePlain_86 (by decide) ?_
    refine am_idiv d_AS_makePlain_88 (by decide) ?_
    refine am_iload (j := 0) d_AS_makePlain_89 rfl ?_
    refine am_bipush (v := (10 : Int32)) d_AS_makePlain_91 (by decide) ?_
    refine am_irem d_AS_makePlain_93 (by decide) ?_
    obtain ⟨hc, h⟩ := h
    refine ak_VR (as := [.int ((f_AS_originOf (am_set s x3 8 (s x3 7)) x1 x2) / (10 : Int32)), .int ((f_AS_originOf (am_set s x3 8 (s x3 7)) x1 x2) - (f_AS_originOf (am_set s x3 8 (s x3 7)) x1 x2) / (10 : Int32) * (10 : Int32))]) (rest := [.ref x3]) d_AS_makePlain_94 cw_AS_makePlain_94 rfl rfl rfl (ct_BA_column hg hc) rfl rfl (by decide) sh_1 rfl (Nat.le_of_ble_eq_true rfl) (by decide) (by decide) ?_
    obtain ⟨⟨b2, t2⟩, h⟩ := h
    refine am_getI d_AS_makePlain_97 fl_AS_109 b2 t2 (by decide) rfl ?_
    refine am_putI (ty := .int) d_AS_makePlain_100 fl_AS_114 ft_4_3 b1 t1 (by decide) rfl rfl rfl ?_
    refine am_aload_n (j := 4) d_AS_makePlain_103 rfl rfl ?_
    refine am_aload_n (j := 4) d_AS_makePlain_104 rfl rfl ?_
    refine am_getI d_AS_makePlain_105 fl_AS_114 b1 t1 (by decide) rfl ?_
    refine am_aload_n (j := 1) d_AS_makePlain_108 rfl rfl ?_
    refine am_getR (t := 1) d_AS_makePlain_109 fl_AS_41 hg (by decide) sh_52 (by decide) rfl (by decide) lk_52_0 (by decide) ?_
    refine am_aload_n (j := 4) d_AS_makePlain_112 rfl rfl ?_
    refine am_getI d_AS_makePlain_113 fl_AS_114 b1 t1 (by decide) rfl ?_
    obtain ⟨hc, h⟩ := h
    refine ak_VI (as := [.int ((am_set (am_set (am_set s x3 8 (s x3 7)) x3 2 x2) x3 3 ((am_set (am_set s x3 8 (s x3 7)) x3 2 x2) (f_BA_column (am_set (am_set s x3 8 (s x3 7)) x3 2 x2) ((f_AS_originOf (am_set s x3 8 (s x3 7)) x1 x2) / (10 : Int32)) ((f_AS_originOf (am_set s x3 8 (s x3 7)) x1 x2) - (f_AS_originOf (am_set s x3 8 (s x3 7)) x1 x2) / (10 : Int32) * (10 : Int32))) 3)) x3 3)]) (rest := [.int ((am_set (am_set (am_set s x3 8 (s x3 7)) x3 2 x2) x3 3 ((am_set (am_set s x3 8 (s x3 7)) x3 2 x2) (f_BA_column (am_set (am_set s x3 8 (s x3 7)) x3 2 x2) ((f_AS_originOf (am_set s x3 8 (s x3 7)) x1 x2) / (10 : Int32)) ((f_AS_originOf (am_set s x3 8 (s x3 7)) x1 x2) - (f_AS_originOf (am_set s x3 8 (s x3 7)) x1 x2) / (10 : Int32) * (10 : Int32))) 3)) x3 3), .ref x3]) d_AS_makePlain_116 cw_AS_makePlain_116 rfl rfl rfl (ct_BA_widthOf hg hc) rfl rfl (by decide) sh_1 rfl (Nat.le_of_ble_eq_true rfl) (by decide) (by decide) ?_
    obtain ⟨hc, h⟩ := h
    refine ak_VM (as := [.int ((am_set (am_set (am_set s x3 8 (s x3 7)) x3 2 x2) x3 3 ((am_set (am_set s x3 8 (s x3 7)) x3 2 x2) (f_BA_column (am_set (am_set s x3 8 (s x3 7)) x3 2 x2) ((f_AS_originOf (am_set s x3 8 (s x3 7)) x1 x2) / (10 : Int32)) ((f_AS_originOf (am_set s x3 8 (s x3 7)) x1 x2) - (f_AS_originOf (am_set s x3 8 (s x3 7)) x1 x2) / (10 : Int32) * (10 : Int32))) 3)) x3 3), .int (f_BA_widthOf (am_set (am_set (am_set s x3 8 (s x3 7)) x3 2 x2) x3 3 ((am_set (am_set s x3 8 (s x3 7)) x3 2 x2) (f_BA_column (am_set (am_set s x3 8 (s x3 7)) x3 2 x2) ((f_AS_originOf (am_set s x3 8 (s x3 7)) x1 x2) / (10 : Int32)) ((f_AS_originOf (am_set s x3 8 (s x3 7)) x1 x2) - (f_AS_originOf (am_set s x3 8 (s x3 7)) x1 x2) / (10 : Int32) * (10 : Int32))) 3)) ((am_set (am_set (am_set s x3 8 (s x3 7)) x3 2 x2) x3 3 ((am_set (am_set s x3 8 (s x3 7)) x3 2 x2) (f_BA_column (am_set (am_set s x3 8 (s x3 7)) x3 2 x2) ((f_AS_originOf (am_set s x3 8 (s x3 7)) x1 x2) / (10 : Int32)) ((f_AS_originOf (am_set s x3 8 (s x3 7)) x1 x2) - (f_AS_originOf (am_set s x3 8 (s x3 7)) x1 x2) / (10 : Int32) * (10 : Int32))) 3)) x3 3))]) (rest := []) d_AS_makePlain_119 cw_AS_makePlain_119 rfl rfl rfl (ct_QU_addTableColumns hg hc) rfl rfl b1 t1 rfl (Nat.le_of_ble_eq_true rfl) (by decide) (by decide) ?_
    refine am_aload_n (j := 1) d_AS_makePlain_122 rfl rfl ?_
    refine am_dup d_AS_makePlain_123 rfl ?_
    refine am_getI d_AS_makePlain_124 fl_AS_45 (by decide) sh_52 (by decide) rfl ?_
    refine am_dup_x1 d_AS_makePlain_127 rfl rfl ?_
    refine am_iconst (v := (1 : Int32)) d_AS_makePlain_128 (by decide) ?_
    refine am_iadd d_AS_makePlain_129 ?_
    refine am_putI (ty := .int) d_AS_makePlain_130 fl_AS_45 ft_1_3 (by decide) sh_52 (by decide) rfl rfl rfl ?_
    exact am_iret d_AS_makePlain_133 rfl rfl (by decide) (by decide) am_oC_ok
def f_AS_makePlain  (s : am_M) (x1 : Int32) (x2 : Int32) : Int32 × am_M := (if (10 : Int32) ≤ x1 then (f_AS_makePlain_53 (f_QU_addColumnsOf (am_set (am_set s (f_AS_question s (s 52 3)) 0 (0 : Int32)) (f_AS_question s (s 52 3)) 1 x1) (f_AS_question s (s 52 3)) (f_AS_question (am_set (am_set s (f_AS_question s (s 52 3)) 0 (0 : Int32)) (f_AS_question s (s 52 3)) 1 x1) (x1 - (10 : Int32)))) x1 x2 (f_AS_question s (s 52 3))) else (f_AS_makePlain_53 (f_QU_addTableColumns (am_set (am_set s (f_AS_question s (s 52 3)) 0 (0 : Int32)) (f_AS_question s (s 52 3)) 1 x1) (f_AS_question s (s 52 3)) x1 (f_BA_widthOf (am_set (am_set s (f_AS_question s (s 52 3)) 0 (0 : Int32)) (f_AS_question s (s 52 3)) 1 x1) x1)) x1 x2 (f_AS_question s (s 52 3))))
def p_AS_makePlain  (s : am_M) (x1 : Int32) (x2 : Int32) : Prop := p_AS_question s (s 52 3) ∧ (((f_AS_question s (s 52 3)) < 207 ∧ am_sh (f_AS_question s (s 52 3)) = (0, 4, 17)) ∧ ((((10 : Int32) ≤ x1) → p_AS_question (am_set (am_set s (f_AS_question s (s 52 3)) 0 (0 : Int32)) (f_AS_question s (s 52 3)) 1 x1) (x1 - (10 : Int32)) ∧ (p_QU_addColumnsOf (am_set (am_set s (f_AS_question s (s 52 3)) 0 (0 : Int32)) (f_AS_question s (s 52 3)) 1 x1) (f_AS_question s (s 52 3)) (f_AS_question (am_set (am_set s (f_AS_question s (s 52 3)) 0 (0 : Int32)) (f_AS_question s (s 52 3)) 1 x1) (x1 - (10 : Int32))) ∧ ((p_AS_makePlain_53 (f_QU_addColumnsOf (am_set (am_set s (f_AS_question s (s 52 3)) 0 (0 : Int32)) (f_AS_question s (s 52 3)) 1 x1) (f_AS_question s (s 52 3)) (f_AS_question (am_set (am_set s (f_AS_question s (s 52 3)) 0 (0 : Int32)) (f_AS_question s (s 52 3)) 1 x1) (x1 - (10 : Int32)))) x1 x2 (f_AS_question s (s 52 3)))))) ∧ (¬ ((10 : Int32) ≤ x1) → p_BA_widthOf (am_set (am_set s (f_AS_question s (s 52 3)) 0 (0 : Int32)) (f_AS_question s (s 52 3)) 1 x1) x1 ∧ (p_QU_addTableColumns (am_set (am_set s (f_AS_question s (s 52 3)) 0 (0 : Int32)) (f_AS_question s (s 52 3)) 1 x1) (f_AS_question s (s 52 3)) x1 (f_BA_widthOf (am_set (am_set s (f_AS_question s (s 52 3)) 0 (0 : Int32)) (f_AS_question s (s 52 3)) 1 x1) x1) ∧ ((p_AS_makePlain_53 (f_QU_addTableColumns (am_set (am_set s (f_AS_question s (s 52 3)) 0 (0 : Int32)) (f_AS_question s (s 52 3)) 1 x1) (f_AS_question s (s 52 3)) x1 (f_BA_widthOf (am_set (am_set s (f_AS_question s (s 52 3)) 0 (0 : Int32)) (f_AS_question s (s 52 3)) 1 x1) x1)) x1 x2 (f_AS_question s (s 52 3))))))))
set_option maxRecDepth 8000 in
theorem w_AS_makePlain {l : Launch} {g : am_Gl} (hg : g.2.2.2.1 = true) {ad0 : Nat → Nat} {s : am_M} {x1 : Int32} {x2 : Int32} (h : p_AS_makePlain s x1 x2) : AW l g m_AS_makePlain 207 ad0 (am_oC (f_AS_makePlain s x1 x2)) 0 0 207 s 0 [(0, .ref 52), (1, .int x1), (2, .int x2)] [] := by
  refine am_aload_n (j := 0) d_AS_makePlain_0 rfl rfl ?_
  refine am_aload_n (j := 0) d_AS_makePlain_1 rfl rfl ?_
  refine am_getI d_AS_makePlain_2 fl_AS_45 (by decide) sh_52 (by decide) rfl ?_
  obtain ⟨hc, h⟩ := h
  refine ak_VR (as := [.int (s 52 3)]) (rest := []) d_AS_makePlain_5 cw_AS_makePlain_5 rfl rfl rfl (ct_AS_question hg hc) rfl rfl (by decide) sh_52 rfl (Nat.le_of_ble_eq_true rfl) (by decide) (by decide) ?_
  refine am_astore_n (lv2 := [(3, .ref (f_AS_question s (s 52 3))), (0, .ref 52), (1, .int x1), (2, .int x2)]) d_AS_makePlain_8 rfl (by decide) rfl ?_
  refine am_aload_n (j := 0) d_AS_makePlain_9 rfl rfl ?_
  refine am_iconst (v := (0 : Int32)) d_AS_makePlain_10 (by decide) ?_
  obtain ⟨⟨b1, t1⟩, h⟩ := h
  refine am_putI (ty := .int) d_AS_makePlain_11 fl_AS_53 ft_4_0 b1 t1 (by decide) rfl rfl rfl ?_
  refine am_aload_n (j := 0) d_AS_makePlain_14 rfl rfl ?_
  refine am_iload_n (j := 2) d_AS_makePlain_15 rfl rfl ?_
  refine am_putI (ty := .int) d_AS_makePlain_16 fl_AS_67 ft_4_1 b1 t1 (by decide) rfl rfl rfl ?_
  refine am_iload_n (j := 2) d_AS_makePlain_19 rfl rfl ?_
  refine am_bipush (v := (10 : Int32)) d_AS_makePlain_20 (by decide) ?_
  refine aj_ge (F := am_oC) (tgt := 41) d_AS_makePlain_22 (by decide) (fun c => ?_) (fun c => ?_)
  · have h := h.1 c
    refine am_aload_n (j := 0) d_AS_makePlain_41 rfl rfl ?_
    refine am_aload_n (j := 1) d_AS_makePlain_42 rfl rfl ?_
    refine am_iload_n (j := 2) d_AS_makePlain_43 rfl rfl ?_
    refine am_bipush (v := (10 : Int32)) d_AS_makePlain_44 (by decide) ?_
    refine am_isub d_AS_makePlain_46 ?_
    obtain ⟨hc, h⟩ := h
    refine ak_VR (as := [.int (x1 - (10 : Int32))]) (rest := [.ref (f_AS_question s (s 52 3))]) d_AS_makePlain_47 cw_AS_makePlain_47 rfl rfl rfl (ct_AS_question hg hc) rfl rfl (by decide) sh_52 rfl (Nat.le_of_ble_eq_true rfl) (by decide) (by decide) ?_
    obtain ⟨hc, h⟩ := h
    refine ak_VM (as := [.ref (f_AS_question (am_set (am_set s (f_AS_question s (s 52 3)) 0 (0 : Int32)) (f_AS_question s (s 52 3)) 1 x1) (x1 - (10 : Int32)))]) (rest := []) d_AS_makePlain_50 cw_AS_makePlain_50 rfl rfl rfl (ct_QU_addColumnsOf hg hc) rfl rfl b1 t1 rfl (Nat.le_of_ble_eq_true rfl) (by decide) (by decide) ?_
    refine am_sub [1, 2, 3, 0] (lv2 := [(0, .ref 52), (1, .int x1), (2, .int x2), (3, .ref (f_AS_question s (s 52 3)))]) rfl ?_
    exact w_AS_makePlain_53 hg h
  · have h := h.2 c
    refine am_aload_n (j := 0) d_AS_makePlain_25 rfl rfl ?_
    refine am_iload_n (j := 2) d_AS_makePlain_26 rfl rfl ?_
    refine am_aload_n (j := 1) d_AS_makePlain_27 rfl rfl ?_
    refine am_getR (t := 1) d_AS_makePlain_28 fl_AS_41 hg (by decide) sh_52 (by decide) rfl (by decide) lk_52_0 (by decide) ?_
    refine am_iload_n (j := 2) d_AS_makePlain_31 rfl rfl ?_
    obtain ⟨hc, h⟩ := h
    refine ak_VI (as := [.int x1]) (rest := [.int x1, .ref (f_AS_question s (s 52 3))]) d_AS_makePlain_32 cw_AS_makePlain_32 rfl rfl rfl (ct_BA_widthOf hg hc) rfl rfl (by decide) sh_1 rfl (Nat.le_of_ble_eq_true rfl) (by decide) (by decide) ?_
    obtain ⟨hc, h⟩ := h
    refine ak_VM (as := [.int x1, .int (f_BA_widthOf (am_set (am_set s (f_AS_question s (s 52 3)) 0 (0 : Int32)) (f_AS_question s (s 52 3)) 1 x1) x1)]) (rest := []) d_AS_makePlain_35 cw_AS_makePlain_35 rfl rfl rfl (ct_QU_addTableColumns hg hc) rfl rfl b1 t1 rfl (Nat.le_of_ble_eq_true rfl) (by decide) (by decide) ?_
    refine am_goto (tgt := 53) d_AS_makePlain_38 (by decide) ?_
    refine am_sub [1, 2, 3, 0] (lv2 := [(0, .ref 52), (1, .int x1), (2, .int x2), (3, .ref (f_AS_question s (s 52 3)))]) rfl ?_
    exact w_AS_makePlain_53 hg h
theorem ct_AS_makePlain {l : Launch} {g : am_Gl} (hg : g.2.2.2.1 = true) {s : am_M} {x1 : Int32} {x2 : Int32} (h : p_AS_makePlain s x1 x2) : AC l g m_AS_makePlain 207 s [.ref 52, .int x1, .int x2] (am_oC (f_AS_makePlain s x1 x2)) := am_enter ok_AS_makePlain rfl (Nat.le_of_ble_eq_true rfl) rfl (fun ad0 => w_AS_makePlain hg h)
theorem cw_AS_makeGathered_5 : am_cv m_AS_makeGathered m_AS_question 49 1 := ⟨⟨ok_AS_question, rfl, by decide +kernel, by decide, by decide⟩, aw_3_106, aw_3_107, aw_3_108⟩
def f_AS_makeGathered  (s : am_M) (x1 : Int32) (x2 : Int32) (x3 : Int32) (x4 : Int32) (x5 : Int32) : Int32 × am_M := (((am_set (am_set (am_set (am_set (am_set (am_set s (f_AS_question s (s 52 3)) 0 x1) (f_AS_question s (s 52 3)) 1 x2) (f_AS_question s (s 52 3)) 4 x3) (f_AS_question s (s 52 3)) 5 x4) (f_AS_question s (s 52 3)) 6 x5) (f_AS_question s (s 52 3)) 7 (5 : Int32)) 52 3), (am_set (am_set (am_set (am_set (am_set (am_set (am_set s (f_AS_question s (s 52 3)) 0 x1) (f_AS_question s (s 52 3)) 1 x2) (f_AS_question s (s 52 3)) 4 x3) (f_AS_question s (s 52 3)) 5 x4) (f_AS_question s (s 52 3)) 6 x5) (f_AS_question s (s 52 3)) 7 (5 : Int32)) 52 3 (((am_set (am_set (am_set (am_set (am_set (am_set s (f_AS_question s (s 52 3)) 0 x1) (f_AS_question s (s 52 3)) 1 x2) (f_AS_question s (s 52 3)) 4 x3) (f_AS_question s (s 52 3)) 5 x4) (f_AS_question s (s 52 3)) 6 x5) (f_AS_question s (s 52 3)) 7 (5 : Int32)) 52 3) + (1 : Int32))))
def p_AS_makeGathered  (s : am_M) (x1 : Int32) (x2 : Int32) (x3 : Int32) (x4 : Int32) (x5 : Int32) : Prop := p_AS_question s (s 52 3) ∧ (((f_AS_question s (s 52 3)) < 207 ∧ am_sh (f_AS_question s (s 52 3)) = (0, 4, 17)) ∧ (True))
set_option maxRecDepth 8000 in
theorem w_AS_makeGathered {l : Launch} {g : am_Gl} (hg : g.2.2.2.1 = true) {ad0 : Nat → Nat} {s : am_M} {x1 : Int32} {x2 : Int32} {x3 : Int32} {x4 : Int32} {x5 : Int32} (h : p_AS_makeGathered s x1 x2 x3 x4 x5) : AW l g m_AS_makeGathered 207 ad0 (am_oC (f_AS_makeGathered s x1 x2 x3 x4 x5)) 0 0 207 s 0 [(0, .ref 52), (1, .int x1), (2, .int x2), (3, .int x3), (4, .int x4), (5, .int x5)] [] := by
  refine am_aload_n (j := 0) d_AS_makeGathered_0 rfl rfl ?_
  refine am_aload_n (j := 0) d_AS_makeGathered_1 rfl rfl ?_
  refine am_getI d_AS_makeGathered_2 fl_AS_45 (by decide) sh_52 (by decide) rfl ?_
  obtain ⟨hc, h⟩ := h
  refine ak_VR (as := [.int (s 52 3)]) (rest := []) d_AS_makeGathered_5 cw_AS_makeGathered_5 rfl rfl rfl (ct_AS_question hg hc) rfl rfl (by decide) sh_52 rfl (Nat.le_of_ble_eq_true rfl) (by decide) (by decide) ?_
  refine am_astore (lv2 := [(6, .ref (f_AS_question s (s 52 3))), (0, .ref 52), (1, .int x1), (2, .int x2), (3, .int x3), (4, .int x4), (5, .int x5)]) d_AS_makeGathered_8 (by decide) rfl ?_
  refine am_aload (j := 0) d_AS_makeGathered_10 rfl ?_
  refine am_iload_n (j := 2) d_AS_makeGathered_12 rfl rfl ?_
  obtain ⟨⟨b1, t1⟩, h⟩ := h
  refine am_putI (ty := .int) d_AS_makeGathered_13 fl_AS_53 ft_4_0 b1 t1 (by decide) rfl rfl rfl ?_
  refine am_aload (j := 0) d_AS_makeGathered_16 rfl ?_
  refine am_iload_n (j := 3) d_AS_makeGathered_18 rfl rfl ?_
  refine am_putI (ty := .int) d_AS_makeGathered_19 fl_AS_67 ft_4_1 b1 t1 (by decide) rfl rfl rfl ?_
  refine am_aload (j := 0) d_AS_makeGathered_22 rfl ?_
  refine am_iload_n (j := 4) d_AS_makeGathered_24 rfl rfl ?_
  refine am_putI (ty := .int) d_AS_makeGathered_25 fl_AS_80 ft_4_4 b1 t1 (by decide) rfl rfl rfl ?_
  refine am_aload (j := 0) d_AS_makeGathered_28 rfl ?_
  refine am_iload (j := 5) d_AS_makeGathered_30 rfl ?_
  refine am_putI (ty := .int) d_AS_makeGathered_32 fl_AS_83 ft_4_5 b1 t1 (by decide) rfl rfl rfl ?_
  refine am_aload (j := 0) d_AS_makeGathered_35 rfl ?_
  refine am_iload (j := 6) d_AS_makeGathered_37 rfl ?_
  refine am_putI (ty := .int) d_AS_makeGathered_39 fl_AS_86 ft_4_6 b1 t1 (by decide) rfl rfl rfl ?_
  refine am_aload (j := 0) d_AS_makeGathered_42 rfl ?_
  refine am_iconst (v := (5 : Int32)) d_AS_makeGathered_44 (by decide) ?_
  refine am_putI (ty := .int) d_AS_makeGathered_45 fl_AS_56 ft_4_7 b1 t1 (by decide) rfl rfl rfl ?_
  refine am_aload_n (j := 1) d_AS_makeGathered_48 rfl rfl ?_
  refine am_dup d_AS_makeGathered_49 rfl ?_
  refine am_getI d_AS_makeGathered_50 fl_AS_45 (by decide) sh_52 (by decide) rfl ?_
  refine am_dup_x1 d_AS_makeGathered_53 rfl rfl ?_
  refine am_iconst (v := (1 : Int32)) d_AS_makeGathered_54 (by decide) ?_
  refine am_iadd d_AS_makeGathered_55 ?_
  refine am_putI (ty := .int) d_AS_makeGathered_56 fl_AS_45 ft_1_3 (by decide) sh_52 (by decide) rfl rfl rfl ?_
  exact am_iret d_AS_makeGathered_59 rfl rfl (by decide) (by decide) am_oC_ok
theorem ct_AS_makeGathered {l : Launch} {g : am_Gl} (hg : g.2.2.2.1 = true) {s : am_M} {x1 : Int32} {x2 : Int32} {x3 : Int32} {x4 : Int32} {x5 : Int32} (h : p_AS_makeGathered s x1 x2 x3 x4 x5) : AC l g m_AS_makeGathered 207 s [.ref 52, .int x1, .int x2, .int x3, .int x4, .int x5] (am_oC (f_AS_makeGathered s x1 x2 x3 x4 x5)) := am_enter ok_AS_makeGathered rfl (Nat.le_of_ble_eq_true rfl) rfl (fun ad0 => w_AS_makeGathered hg h)
theorem cw_AS_isUsed_22 : am_cv m_AS_isUsed m_AS_question 49 1 := ⟨⟨ok_AS_question, rfl, by decide +kernel, by decide, by decide⟩, aw_3_106, aw_3_107, aw_3_108⟩
theorem cw_AS_isUsed_37 : am_cv m_AS_isUsed m_QU_hasConditionOn 70 1 := ⟨⟨ok_QU_hasConditionOn, rfl, by decide +kernel, by decide, by decide⟩, aw_4_101, aw_4_102, aw_4_103⟩
theorem cw_AS_isUsed_51 : am_cv m_AS_isUsed m_AS_originOf 77 2 := ⟨⟨ok_AS_originOf, rfl, by decide +kernel, by decide, by decide⟩, aw_4_106, aw_4_107, aw_4_108⟩
theorem cw_AS_isUsed_66 : am_cv m_AS_isUsed m_AS_originOf 77 2 := ⟨⟨ok_AS_originOf, rfl, by decide +kernel, by decide, by decide⟩, aw_4_106, aw_4_107, aw_4_108⟩
theorem cw_AS_isUsed_81 : am_cv m_AS_isUsed m_AS_originOf 77 2 := ⟨⟨ok_AS_originOf, rfl, by decide +kernel, by decide, by decide⟩, aw_4_106, aw_4_107, aw_4_108⟩
theorem cw_AS_isUsed_96 : am_cv m_AS_isUsed m_AS_originOf 77 2 := ⟨⟨ok_AS_originOf, rfl, by decide +kernel, by decide, by decide⟩, aw_4_106, aw_4_107, aw_4_108⟩
def f_AS_isUsed_10  : Nat → am_M → Int32 → Int32 → Int32 → Int32 → Int32
  | 0, s, x1, x2, x3, x4 => 0
  | n + 1, s, x1, x2, x3, x4 => (if (s 52 3) ≤ x4 then (0 : Int32) else (if (f_QU_hasConditionOn s (f_AS_question s x4) x3) = 0 then (if (f_AS_originOf s (s (f_AS_question s x4) 1) (s (f_AS_question s x4) 2)) = x3 then (1 : Int32) else (if (f_AS_originOf s (s (f_AS_question s x4) 1) (s (f_AS_question s x4) 4)) = x3 then (1 : Int32) else (if (f_AS_originOf s (s (f_AS_question s x4) 1) (s (f_AS_question s x4) 5)) = x3 then (1 : Int32) else (if (f_AS_originOf s (s (f_AS_question s x4) 1) (s (f_AS_question s x4) 6)) = x3 then (1 : Int32) else ((f_AS_isUsed_10  n s) x1 x2 x3 (x4 + (1 : Int32))))))) else (1 : Int32)))
def p_AS_isUsed_10  : Nat → am_M → Int32 → Int32 → Int32 → Int32 → Prop
  | 0, s, x1, x2, x3, x4 => False
  | n + 1, s, x1, x2, x3, x4 => (((s 52 3) ≤ x4) → True) ∧ (¬ ((s 52 3) ≤ x4) → p_AS_question s x4 ∧ (((f_AS_question s x4) < 207 ∧ am_sh (f_AS_question s x4) = (0, 4, 17)) ∧ (p_QU_hasConditionOn s (f_AS_question s x4) x3 ∧ ((((f_QU_hasConditionOn s (f_AS_question s x4) x3) = 0) → p_AS_originOf s (s (f_AS_question s x4) 1) (s (f_AS_question s x4) 2) ∧ ((((f_AS_originOf s (s (f_AS_question s x4) 1) (s (f_AS_question s x4) 2)) = x3) → True) ∧ (¬ ((f_AS_originOf s (s (f_AS_question s x4) 1) (s (f_AS_question s x4) 2)) = x3) → p_AS_originOf s (s (f_AS_question s x4) 1) (s (f_AS_question s x4) 4) ∧ ((((f_AS_originOf s (s (f_AS_question s x4) 1) (s (f_AS_question s x4) 4)) = x3) → True) ∧ (¬ ((f_AS_originOf s (s (f_AS_question s x4) 1) (s (f_AS_question s x4) 4)) = x3) → p_AS_originOf s (s (f_AS_question s x4) 1) (s (f_AS_question s x4) 5) ∧ ((((f_AS_originOf s (s (f_AS_question s x4) 1) (s (f_AS_question s x4) 5)) = x3) → True) ∧ (¬ ((f_AS_originOf s (s (f_AS_question s x4) 1) (s (f_AS_question s x4) 5)) = x3) → p_AS_originOf s (s (f_AS_question s x4) 1) (s (f_AS_question s x4) 6) ∧ ((((f_AS_originOf s (s (f_AS_question s x4) 1) (s (f_AS_question s x4) 6)) = x3) → True) ∧ (¬ ((f_AS_originOf s (s (f_AS_question s x4) 1) (s (f_AS_question s x4) 6)) = x3) → ((p_AS_isUsed_10  n s) x1 x2 x3 (x4 + (1 : Int32)))))))))))) ∧ (¬ ((f_QU_hasConditionOn s (f_AS_question s x4) x3) = 0) → True)))))
set_option maxRecDepth 8000 in
theorem w_AS_isUsed_10 {l : Launch} {g : am_Gl} (hg : g.2.2.2.1 = true) {ad0 : Nat → Nat} {s : am_M}   : ∀ (n : Nat) (x1 : Int32) (x2 : Int32) (x3 : Int32) (x4 : Int32), p_AS_isUsed_10  n s x1 x2 x3 x4 → AW l g m_AS_isUsed 207 ad0 ((am_oI s) (f_AS_isUsed_10  n s x1 x2 x3 x4)) 0 0 207 s 10 [(0, .ref 52), (1, .int x1), (2, .int x2), (3, .int x3), (4, .int x4)] [] := by
  intro n
  induction n with
  | zero => intro x1 x2 x3 x4 h; exact h.elim
  | succ n hK10 =>
    intro x1 x2 x3 x4 h
    refine am_iload (j := 4) d_AS_isUsed_10 rfl ?_
    refine am_aload_n (j := 0) d_AS_isUsed_12 rfl rfl ?_
    refine am_getI d_AS_isUsed_13 fl_AS_45 (by decide) sh_52 (by decide) rfl ?_
    refine aj_ge (F := (am_oI s)) (tgt := 111) d_AS_isUsed_16 (by decide) (fun c => ?_) (fun c => ?_)
    · have h := h.1 c
      refine am_iconst (v := (0 : Int32)) d_AS_isUsed_111 (by decide) ?_
      exact am_iret d_AS_isUsed_112 rfl (am_bool (Or.inl rfl)).1 (by decide) (by decide) am_oI_ok
    · have h := h.2 c
      refine am_aload_n (j := 0) d_AS_isUsed_19 rfl rfl ?_
      refine am_iload (j := 4) d_AS_isUsed_20 rfl ?_
      obtain ⟨hc, h⟩ := h
      refine ak_VR (as := [.int x4]) (rest := []) d_AS_isUsed_22 cw_AS_isUsed_22 rfl rfl rfl (ct_AS_question hg hc) rfl rfl (by decide) sh_52 rfl (Nat.le_of_ble_eq_true rfl) (by decide) (by decide) ?_
      refine am_astore (lv2 := [(5, .ref (f_AS_question s x4)), (0, .ref 52), (1, .int x1), (2, .int x2), (3, .int x3), (4, .int x4)]) d_AS_isUsed_25 (by decide) rfl ?_
      refine am_aload (j := 0) d_AS_isUsed_27 rfl ?_
      obtain ⟨⟨b1, t1⟩, h⟩ := h
      refine am_getI d_AS_isUsed_29 fl_AS_67 b1 t1 (by decide) rfl ?_
      refine am_istore (lv2 := [(6, .int (s (f_AS_question s x4) 1)), (5, .ref (f_AS_question s x4)), (0, .ref 52), (1, .int x1), (2, .int x2), (3, .int x3), (4, .int x4)]) d_AS_isUsed_32 (by decide) rfl ?_
      refine am_aload (j := 1) d_AS_isUsed_34 rfl ?_
      refine am_iload_n (j := 5) d_AS_isUsed_36 rfl rfl ?_
      obtain ⟨hc, h⟩ := h
      refine ak_VI (as := [.int x3]) (rest := []) d_AS_isUsed_37 cw_AS_isUsed_37 rfl rfl rfl (ct_QU_hasConditionOn hg hc) rfl rfl b1 t1 rfl (Nat.le_of_ble_eq_true rfl) (by decide) (by decide) ?_
      refine ai_ne (F := (am_oI s)) (tgt := 103) d_AS_isUsed_40 (by decide) (fun c => ?_) (fun c => ?_)
      · have h := h.2 c
        refine am_iconst (v := (1 : Int32)) d_AS_isUsed_103 (by decide) ?_
        exact am_iret d_AS_isUsed_104 rfl (am_bool (Or.inr rfl)).1 (by decide) (by decide) am_oI_ok
      · have h := h.1 c
        refine am_aload_n (j := 2) d_AS_isUsed_43 rfl rfl ?_
        refine am_iload (j := 0) d_AS_isUsed_44 rfl ?_
        refine am_aload (j := 1) d_AS_isUsed_46 rfl ?_
        refine am_getI d_AS_isUsed_48 fl_AS_74 b1 t1 (by decide) rfl ?_
        obtain ⟨hc, h⟩ := h
        refine ak_VI (as := [.int (s (f_AS_question s x4) 1), .int (s (f_AS_question s x4) 2)]) (rest := []) d_AS_isUsed_51 cw_AS_isUsed_51 rfl rfl rfl (ct_AS_originOf hg hc) rfl rfl (by decide) sh_52 rfl (Nat.le_of_ble_eq_true rfl) (by decide) (by decide) ?_
        refine am_iload_n (j := 5) d_AS_isUsed_54 rfl rfl ?_
        refine aj_eq (F := (am_oI s)) (tgt := 103) d_AS_isUsed_55 (by decide) (fun c => ?_) (fun c => ?_)
        · have h := h.1 c
          refine am_iconst (v := (1 : Int32)) d_AS_isUsed_103 (by decide) ?_
          exact am_iret d_AS_isUsed_104 rfl (am_bool (Or.inr rfl)).1 (by decide) (by decide) am_oI_ok
        · have h := h.2 c
          refine am_aload_n (j := 2) d_AS_isUsed_58 rfl rfl ?_
          refine am_iload (j := 0) d_AS_isUsed_59 rfl ?_
          refine am_aload (j := 1) d_AS_isUsed_61 rfl ?_
          refine am_getI d_AS_isUsed_63 fl_AS_80 b1 t1 (by decide) rfl ?_
          obtain ⟨hc, h⟩ := h
          refine ak_VI (as := [.int (s (f_AS_question s x4) 1), .int (s (f_AS_question s x4) 4)]) (rest := []) d_AS_isUsed_66 cw_AS_isUsed_66 rfl rfl rfl (ct_AS_originOf hg hc) rfl rfl (by decide) sh_52 rfl (Nat.le_of_ble_eq_true rfl) (by decide) (by decide) ?_
          refine am_iload_n (j := 5) d_AS_isUsed_69 rfl rfl ?_
          refine aj_eq (F := (am_oI s)) (tgt := 103) d_AS_isUsed_70 (by decide) (fun c => ?_) (fun c => ?_)
          · have h := h.1 c
            refine am_iconst (v := (1 : Int32)) d_AS_isUsed_103 (by decide) ?_
            exact am_iret d_AS_isUsed_104 rfl (am_bool (Or.inr rfl)).1 (by decide) (by decide) am_oI_ok
          · have h := h.2 c
            refine am_aload_n (j := 2) d_AS_isUsed_73 rfl rfl ?_
            refine am_iload (j := 0) d_AS_isUsed_74 rfl ?_
            refine am_aload (j := 1) d_AS_isUsed_76 rfl ?_
            refine am_getI d_AS_isUsed_78 fl_AS_83 b1 t1 (by decide) rfl ?_
            obtain ⟨hc, h⟩ := h
            refine ak_VI (as := [.int (s (f_AS_question s x4) 1), .int (s (f_AS_question s x4) 5)]) (rest := []) d_AS_isUsed_81 cw_AS_isUsed_81 rfl rfl rfl (ct_AS_originOf hg hc) rfl rfl (by decide) sh_52 rfl (Nat.le_of_ble_eq_true rfl) (by decide) (by decide) ?_
            refine am_iload_n (j := 5) d_AS_isUsed_84 rfl rfl ?_
            refine aj_eq (F := (am_oI s)) (tgt := 103) d_AS_isUsed_85 (by decide) (fun c => ?_) (fun c => ?_)
            · have h := h.1 c
              refine am_iconst (v := (1 : Int32)) d_AS_isUsed_103 (by decide) ?_
              exact am_iret d_AS_isUsed_104 rfl (am_bool (Or.inr rfl)).1 (by decide) (by decide) am_oI_ok
            · have h := h.2 c
              refine am_aload_n (j := 2) d_AS_isUsed_88 rfl rfl ?_
              refine am_iload (j := 0) d_AS_isUsed_89 rfl ?_
              refine am_aload (j := 1) d_AS_isUsed_91 rfl ?_
              refine am_getI d_AS_isUsed_93 fl_AS_86 b1 t1 (by decide) rfl ?_
              obtain ⟨hc, h⟩ := h
              refine ak_VI (as := [.int (s (f_AS_question s x4) 1), .int (s (f_AS_question s x4) 6)]) (rest := []) d_AS_isUsed_96 cw_AS_isUsed_96 rfl rfl rfl (ct_AS_originOf hg hc) rfl rfl (by decide) sh_52 rfl (Nat.le_of_ble_eq_true rfl) (by decide) (by decide) ?_
              refine am_iload_n (j := 5) d_AS_isUsed_99 rfl rfl ?_
              refine aj_ne (F := (am_oI s)) (tgt := 105) d_AS_isUsed_100 (by decide) (fun c => ?_) (fun c => ?_)
              · have h := h.2 c
                refine am_iinc (j := 6) (v := (x4 + (1 : Int32))) (lv2 := [(4, .int (x4 + (1 : Int32))), (6, .int (s (f_AS_question s x4) 1)), (5, .ref (f_AS_question s x4)), (0, .ref 52), (1, .int x1), (2, .int x2), (3, .int x3)]) d_AS_isUsed_105 rfl rfl (by decide) rfl ?_
                refine am_goto (tgt := 10) d_AS_isUsed_108 (by decide) ?_
                refine am_sub [3, 4, 5, 6, 0] (lv2 := [(0, .ref 52), (1, .int x1), (2, .int x2), (3, .int x3), (4, .int (x4 + (1 : Int32)))]) rfl ?_
                exact hK10 _ _ _ _ h
              · have h := h.1 c
                refine am_iconst (v := (1 : Int32)) d_AS_isUsed_103 (by decide) ?_
                exact am_iret d_AS_isUsed_104 rfl (am_bool (Or.inr rfl)).1 (by decide) (by decide) am_oI_ok
def f_AS_isUsed  (s : am_M) (x1 : Int32) (x2 : Int32) : Int32 := (f_AS_isUsed_10 am_F s x1 x2 (((10 : Int32) * x1) + x2) (0 : Int32))
def p_AS_isUsed  (s : am_M) (x1 : Int32) (x2 : Int32) : Prop := (p_AS_isUsed_10 am_F s x1 x2 (((10 : Int32) * x1) + x2) (0 : Int32))
set_option maxRecDepth 8000 in
theorem w_AS_isUsed {l : Launch} {g : am_Gl} (hg : g.2.2.2.1 = true) {ad0 : Nat → Nat} {s : am_M} {x1 : Int32} {x2 : Int32} (h : p_AS_isUsed s x1 x2) : AW l g m_AS_isUsed 207 ad0 ((am_oI s) (f_AS_isUsed s x1 x2)) 0 0 207 s 0 [(0, .ref 52), (1, .int x1), (2, .int x2)] [] := by
  refine am_bipush (v := (10 : Int32)) d_AS_isUsed_0 (by decide) ?_
  refine am_iload_n (j := 1) d_AS_isUsed_2 rfl rfl ?_
  refine am_imul d_AS_isUsed_3 ?_
  refine am_iload_n (j := 2) d_AS_isUsed_4 rfl rfl ?_
  refine am_iadd d_AS_isUsed_5 ?_
  refine am_istore_n (lv2 := [(3, .int (((10 : Int32) * x1) + x2)), (0, .ref 52), (1, .int x1), (2, .int x2)]) d_AS_isUsed_6 rfl (by decide) rfl ?_
  refine am_iconst (v := (0 : Int32)) d_AS_isUsed_7 (by decide) ?_
  refine am_istore (lv2 := [(4, .int (0 : Int32)), (3, .int (((10 : Int32) * x1) + x2)), (0, .ref 52), (1, .int x1), (2, .int x2)]) d_AS_isUsed_8 (by decide) rfl ?_
  refine am_sub [2, 3, 4, 1, 0] (lv2 := [(0, .ref 52), (1, .int x1), (2, .int x2), (3, .int (((10 : Int32) * x1) + x2)), (4, .int (0 : Int32))]) rfl ?_
  exact w_AS_isUsed_10 hg am_F _ _ _ _ h
theorem ct_AS_isUsed {l : Launch} {g : am_Gl} (hg : g.2.2.2.1 = true) {s : am_M} {x1 : Int32} {x2 : Int32} (h : p_AS_isUsed s x1 x2) : AC l g m_AS_isUsed 207 s [.ref 52, .int x1, .int x2] ((am_oI s) (f_AS_isUsed s x1 x2)) := am_enter ok_AS_isUsed rfl (Nat.le_of_ble_eq_true rfl) rfl (fun ad0 => w_AS_isUsed hg h)
def f_AS_secondKey  (s : am_M) (x1 : Int32) : Int32 := (if x1 < 0 then (-1000000 : Int32) else (if x1 < (30 : Int32) then (s 64 (x1).toNatClampNeg) else (-1000000 : Int32)))
def p_AS_secondKey  (s : am_M) (x1 : Int32) : Prop := ((x1 < 0) → True) ∧ (¬ (x1 < 0) → ((x1 < (30 : Int32)) → vp_in x1 30 ∧ (True)) ∧ (¬ (x1 < (30 : Int32)) → True))
set_option maxRecDepth 8000 in
theorem w_AS_secondKey {l : Launch} {g : am_Gl} (hg : g.2.2.2.1 = true) {ad0 : Nat → Nat} {s : am_M} {x1 : Int32} (h : p_AS_secondKey s x1) : AW l g m_AS_secondKey 207 ad0 ((am_oI s) (f_AS_secondKey s x1)) 0 0 207 s 0 [(0, .ref 52), (1, .int x1)] [] := by
  refine am_iload_n (j := 1) d_AS_secondKey_0 rfl rfl ?_
  refine ai_lt (F := (am_oI s)) (tgt := 10) d_AS_secondKey_1 (by decide) (fun c => ?_) (fun c => ?_)
  · have h := h.1 c
    refine am_ldc (v := (-1000000 : Int32)) d_AS_secondKey_10 aw_3_138 ?_
    refine am_goto (tgt := 21) d_AS_secondKey_12 (by decide) ?_
    exact am_iret d_AS_secondKey_21 rfl rfl (by decide) (by decide) am_oI_ok
  · have h := h.2 c
    refine am_iload_n (j := 1) d_AS_secondKey_4 rfl rfl ?_
    refine am_bipush (v := (30 : Int32)) d_AS_secondKey_5 (by decide) ?_
    refine aj_lt (F := (am_oI s)) (tgt := 15) d_AS_secondKey_7 (by decide) (fun c => ?_) (fun c => ?_)
    · have h := h.1 c
      refine am_aload_n (j := 0) d_AS_secondKey_15 rfl rfl ?_
      refine am_getR (t := 64) d_AS_secondKey_16 fl_AS_32 hg (by decide) sh_52 (by decide) rfl (by decide) lk_52_9 (by decide) ?_
      refine am_iload_n (j := 1) d_AS_secondKey_19 rfl rfl ?_
      obtain ⟨hv, h⟩ := h
      refine am_iald d_AS_secondKey_20 (by decide) sh_64 hv ?_
      exact am_iret d_AS_secondKey_21 rfl rfl (by decide) (by decide) am_oI_ok
    · have h := h.2 c
      refine am_ldc (v := (-1000000 : Int32)) d_AS_secondKey_10 aw_3_138 ?_
      refine am_goto (tgt := 21) d_AS_secondKey_12 (by decide) ?_
      exact am_iret d_AS_secondKey_21 rfl rfl (by decide) (by decide) am_oI_ok
theorem ct_AS_secondKey {l : Launch} {g : am_Gl} (hg : g.2.2.2.1 = true) {s : am_M} {x1 : Int32} (h : p_AS_secondKey s x1) : AC l g m_AS_secondKey 207 s [.ref 52, .int x1] ((am_oI s) (f_AS_secondKey s x1)) := am_enter ok_AS_secondKey rfl (Nat.le_of_ble_eq_true rfl) rfl (fun ad0 => w_AS_secondKey hg h)
theorem cw_AS_rowOf_24 : am_cv m_AS_rowOf m_AS_question 49 1 := ⟨⟨ok_AS_question, rfl, by decide +kernel, by decide, by decide⟩, aw_3_106, aw_3_107, aw_3_108⟩
def f_AS_rowOf  (s : am_M) (x1 : Int32) (x2 : Int32) (x3 : Int32) : Int32 := (if x2 < 0 then (-1 : Int32) else (if (30 : Int32) ≤ x2 then (-1 : Int32) else (if x3 < 0 then (-1 : Int32) else (if x3 < (54 : Int32) then (if (s (am_lk (f_AS_question s x1) 11) (x3).toNatClampNeg) < 0 then (-1 : Int32) else (if (s (am_lk (f_AS_question s x1) 11) (x3).toNatClampNeg) < (9 : Int32) then (s 62 (((x2 * (9 : Int32)) + (s (am_lk (f_AS_question s x1) 11) (x3).toNatClampNeg))).toNatClampNeg) else (-1 : Int32))) else (-1 : Int32)))))
def p_AS_rowOf  (s : am_M) (x1 : Int32) (x2 : Int32) (x3 : Int32) : Prop := ((x2 < 0) → True) ∧ (¬ (x2 < 0) → (((30 : Int32) ≤ x2) → True) ∧ (¬ ((30 : Int32) ≤ x2) → ((x3 < 0) → True) ∧ (¬ (x3 < 0) → ((x3 < (54 : Int32)) → p_AS_question s x1 ∧ (((f_AS_question s x1) < 207 ∧ am_sh (f_AS_question s x1) = (0, 4, 17)) ∧ (((am_lk (f_AS_question s x1) 11) < 207 ∧ am_sh (am_lk (f_AS_question s x1) 11) = (1, 0, 54)) ∧ (vp_in x3 54 ∧ ((((s (am_lk (f_AS_question s x1) 11) (x3).toNatClampNeg) < 0) → True) ∧ (¬ ((s (am_lk (f_AS_question s x1) 11) (x3).toNatClampNeg) < 0) → (((s (am_lk (f_AS_question s x1) 11) (x3).toNatClampNeg) < (9 : Int32)) → vp_in ((x2 * (9 : Int32)) + (s (am_lk (f_AS_question s x1) 11) (x3).toNatClampNeg)) 270 ∧ (True)) ∧ (¬ ((s (am_lk (f_AS_question s x1) 11) (x3).toNatClampNeg) < (9 : Int32)) → True))))))) ∧ (¬ (x3 < (54 : Int32)) → True))))
set_option maxRecDepth 8000 in
theorem w_AS_rowOf {l : Launch} {g : am_Gl} (hg : g.2.2.2.1 = true) {ad0 : Nat → Nat} {s : am_M} {x1 : Int32} {x2 : Int32} {x3 : Int32} (h : p_AS_rowOf s x1 x2 x3) : AW l g m_AS_rowOf 207 ad0 ((am_oI s) (f_AS_rowOf s x1 x2 x3)) 0 0 207 s 0 [(0, .ref 52), (1, .int x1), (2, .int x2), (3, .int x3)] [] := by
  refine am_iload_n (j := 2) d_AS_rowOf_0 rfl rfl ?_
  refine ai_lt (F := (am_oI s)) (tgt := 20) d_AS_rowOf_1 (by decide) (fun c => ?_) (fun c => ?_)
  · have h := h.1 c
    refine am_iconst (v := (-1 : Int32)) d_AS_rowOf_20 (by decide) ?_
    exact am_iret d_AS_rowOf_21 rfl rfl (by decide) (by decide) am_oI_ok
  · have h := h.2 c
    refine am_iload_n (j := 2) d_AS_rowOf_4 rfl rfl ?_
    refine am_bipush (v := (30 : Int32)) d_AS_rowOf_5 (by decide) ?_
    refine aj_ge (F := (am_oI s)) (tgt := 20) d_AS_rowOf_7 (by decide) (fun c => ?_) (fun c => ?_)
    · have h := h.1 c
      refine am_iconst (v := (-1 : Int32)) d_AS_rowOf_20 (by decide) ?_
      exact am_iret d_AS_rowOf_21 rfl rfl (by decide) (by decide) am_oI_ok
    · have h := h.2 c
      refine am_iload_n (j := 3) d_AS_rowOf_10 rfl rfl ?_
      refine ai_lt (F := (am_oI s)) (tgt := 20) d_AS_rowOf_11 (by decide) (fun c => ?_) (fun c => ?_)
      · have h := h.1 c
        refine am_iconst (v := (-1 : Int32)) d_AS_rowOf_20 (by decide) ?_
        exact am_iret d_AS_rowOf_21 rfl rfl (by decide) (by decide) am_oI_ok
      · have h := h.2 c
        refine am_iload_n (j := 3) d_AS_rowOf_14 rfl rfl ?_
        refine am_bipush (v := (54 : Int32)) d_AS_rowOf_15 (by decide) ?_
        refine aj_lt (F := (am_oI s)) (tgt := 22) d_AS_rowOf_17 (by decide) (fun c => ?_) (fun c => ?_)
        · have h := h.1 c
          refine am_aload_n (j := 0) d_AS_rowOf_22 rfl rfl ?_
          refine am_iload_n (j := 1) d_AS_rowOf_23 rfl rfl ?_
          obtain ⟨hc, h⟩ := h
          refine ak_VR (as := [.int x1]) (rest := []) d_AS_rowOf_24 cw_AS_rowOf_24 rfl rfl rfl (ct_AS_question hg hc) rfl rfl (by decide) sh_52 rfl (Nat.le_of_ble_eq_true rfl) (by decide) (by decide) ?_
          obtain ⟨⟨b1, t1⟩, h⟩ := h
          obtain ⟨⟨b2, t2⟩, h⟩ := h
          refine am_getR (t := (am_lk (f_AS_question s x1) 11)) d_AS_rowOf_27 fl_AS_118 hg b1 t1 (by decide) rfl (am_ne0 t1) rfl b2 ?_
          refine am_iload_n (j := 3) d_AS_rowOf_30 rfl rfl ?_
          obtain ⟨hv, h⟩ := h
          refine am_iald d_AS_rowOf_31 b2 t2 hv ?_
          refine am_istore (lv2 := [(4, .int (s (am_lk (f_AS_question s x1) 11) (x3).toNatClampNeg)), (0, .ref 52), (1, .int x1), (2, .int x2), (3, .int x3)]) d_AS_rowOf_32 (by decide) rfl ?_
          refine am_iload (j := 0) d_AS_rowOf_34 rfl ?_
          refine ai_lt (F := (am_oI s)) (tgt := 46) d_AS_rowOf_36 (by decide) (fun c => ?_) (fun c => ?_)
          · have h := h.1 c
            refine am_iconst (v := (-1 : Int32)) d_AS_rowOf_46 (by decide) ?_
            refine am_goto (tgt := 62) d_AS_rowOf_47 (by decide) ?_
            exact am_iret d_AS_rowOf_62 rfl rfl (by decide) (by decide) am_oI_ok
          · have h := h.2 c
            refine am_iload (j := 0) d_AS_rowOf_39 rfl ?_
            refine am_bipush (v := (9 : Int32)) d_AS_rowOf_41 (by decide) ?_
            refine aj_lt (F := (am_oI s)) (tgt := 50) d_AS_rowOf_43 (by decide) (fun c => ?_) (fun c => ?_)
            · have h := h.1 c
              refine am_aload_n (j := 1) d_AS_rowOf_50 rfl rfl ?_
              refine am_getR (t := 62) d_AS_rowOf_51 fl_AS_26 hg (by decide) sh_52 (by decide) rfl (by decide) lk_52_7 (by decide) ?_
              refine am_iload_n (j := 3) d_AS_rowOf_54 rfl rfl ?_
              refine am_bipush (v := (9 : Int32)) d_AS_rowOf_55 (by decide) ?_
              refine am_imul d_AS_rowOf_57 ?_
              refine am_iload (j := 0) d_AS_rowOf_58 rfl ?_
              refine am_iadd d_AS_rowOf_60 ?_
              obtain ⟨hv, h⟩ := h
              refine am_iald d_AS_rowOf_61 (by decide) sh_62 hv ?_
              exact am_iret d_AS_rowOf_62 rfl rfl (by decide) (by decide) am_oI_ok
            · have h := h.2 c
              refine am_iconst (v := (-1 : Int32)) d_AS_rowOf_46 (by decide) ?_
              refine am_goto (tgt := 62) d_AS_rowOf_47 (by decide) ?_
              exact am_iret d_AS_rowOf_62 rfl rfl (by decide) (by decide) am_oI_ok
        · have h := h.2 c
          refine am_iconst (v := (-1 : Int32)) d_AS_rowOf_20 (by decide) ?_
          exact am_iret d_AS_rowOf_21 rfl rfl (by decide) (by decide) am_oI_ok
theorem ct_AS_rowOf {l : Launch} {g : am_Gl} (hg : g.2.2.2.1 = true) {s : am_M} {x1 : Int32} {x2 : Int32} {x3 : Int32} (h : p_AS_rowOf s x1 x2 x3) : AC l g m_AS_rowOf 207 s [.ref 52, .int x1, .int x2, .int x3] ((am_oI s) (f_AS_rowOf s x1 x2 x3)) := am_enter ok_AS_rowOf rfl (Nat.le_of_ble_eq_true rfl) rfl (fun ad0 => w_AS_rowOf hg h)
end

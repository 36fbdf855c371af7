noncomputable section
theorem cw_BA_refuse_8 : am_cv m_BA_refuse m_RE_set 94 4 := ⟨⟨ok_RE_set, rfl, by decide +kernel, by decide, by decide⟩, aw_3_65, aw_2_208, aw_2_209⟩
def f_BA_refuse  (s : am_M) (x1 : Int32) (x2 : Int32) (x3 : Int32) : Int32 × am_M := ((0 : Int32), (f_RE_set s 16 x1 x2 (-1 : Int32) x3))
def p_BA_refuse  (s : am_M) (x1 : Int32) (x2 : Int32) (x3 : Int32) : Prop := p_RE_set s 16 x1 x2 (-1 : Int32) x3 ∧ (True)
set_option maxRecDepth 8000 in
theorem w_BA_refuse {l : Launch} {g : am_Gl} (hg : g.2.2.2.1 = true) {ad0 : Nat → Nat} {s : am_M} {x1 : Int32} {x2 : Int32} {x3 : Int32} (h : p_BA_refuse s x1 x2 x3) : AW l g m_BA_refuse 207 ad0 (am_oC (f_BA_refuse s x1 x2 x3)) 0 0 207 s 0 [(0, .ref 1), (1, .int x1), (2, .int x2), (3, .int x3)] [] := by
  refine am_aload_n (j := 0) d_BA_refuse_0 rfl rfl ?_
  refine am_getR (t := 16) d_BA_refuse_1 fl_BA_53 hg (by decide) sh_1 (by decide) rfl (by decide) lk_1_11 (by decide) ?_
  refine am_iload_n (j := 1) d_BA_refuse_4 rfl rfl ?_
  refine am_iload_n (j := 2) d_BA_refuse_5 rfl rfl ?_
  refine am_iconst (v := (-1 : Int32)) d_BA_refuse_6 (by decide) ?_
  refine am_iload_n (j := 3) d_BA_refuse_7 rfl rfl ?_
  obtain ⟨hc, h⟩ := h
  refine ak_VM (as := [.int x1, .int x2, .int (-1 : Int32), .int x3]) (rest := []) d_BA_refuse_8 cw_BA_refuse_8 rfl rfl rfl (ct_RE_set hg hc) rfl rfl (by decide) sh_16 rfl (Nat.le_of_ble_eq_true rfl) (by decide) (by decide) ?_
  refine am_iconst (v := (0 : Int32)) d_BA_refuse_11 (by decide) ?_
  exact am_iret d_BA_refuse_12 rfl (am_bool (Or.inl rfl)).1 (by decide) (by decide) am_oC_ok
theorem ct_BA_refuse {l : Launch} {g : am_Gl} (hg : g.2.2.2.1 = true) {s : am_M} {x1 : Int32} {x2 : Int32} {x3 : Int32} (h : p_BA_refuse s x1 x2 x3) : AC l g m_BA_refuse 207 s [.ref 1, .int x1, .int x2, .int x3] (am_oC (f_BA_refuse s x1 x2 x3)) := am_enter ok_BA_refuse rfl (Nat.le_of_ble_eq_true rfl) rfl (fun ad0 => w_BA_refuse hg h)
theorem cw_BA_keep_8 : am_cv m_BA_keep m_RO_copyFrom 248 1 := ⟨⟨ok_RO_copyFrom, rfl, by decide +kernel, by decide, by decide⟩, aw_2_146, aw_2_147, aw_2_148⟩
def f_BA_keep  (s : am_M)  : am_M := (f_RO_copyFrom s 12 8)
def p_BA_keep  (s : am_M)  : Prop := p_RO_copyFrom s 12 8 ∧ (True)
set_option maxRecDepth 8000 in
theorem w_BA_keep {l : Launch} {g : am_Gl} (hg : g.2.2.2.1 = true) {ad0 : Nat → Nat} {s : am_M}  (h : p_BA_keep s ) : AW l g m_BA_keep 207 ad0 (am_oM (f_BA_keep s )) 0 0 207 s 0 [(0, .ref 1)] [] := by
  refine am_aload_n (j := 0) d_BA_keep_0 rfl rfl ?_
  refine am_getR (t := 12) d_BA_keep_1 fl_BA_47 hg (by decide) sh_1 (by decide) rfl (by decide) lk_1_10 (by decide) ?_
  refine am_aload_n (j := 0) d_BA_keep_4 rfl rfl ?_
  refine am_getR (t := 8) d_BA_keep_5 fl_BA_43 hg (by decide) sh_1 (by decide) rfl (by decide) lk_1_9 (by decide) ?_
  obtain ⟨hc, h⟩ := h
  refine ak_VM (as := [.ref 8]) (rest := []) d_BA_keep_8 cw_BA_keep_8 rfl rfl rfl (ct_RO_copyFrom hg hc) rfl rfl (by decide) sh_12 rfl (Nat.le_of_ble_eq_true rfl) (by decide) (by decide) ?_
  exact am_vret d_BA_keep_11 rfl (by decide) (by decide) am_oM_ok
theorem ct_BA_keep {l : Launch} {g : am_Gl} (hg : g.2.2.2.1 = true) {s : am_M}  (h : p_BA_keep s ) : AC l g m_BA_keep 207 s [.ref 1] (am_oM (f_BA_keep s )) := am_enter ok_BA_keep rfl (Nat.le_of_ble_eq_true rfl) rfl (fun ad0 => w_BA_keep hg h)
def f_BA_column  (s : am_M) (x1 : Int32) (x2 : Int32) : Nat := (if x1 < 0 then 3 else (if (4 : Int32) ≤ x1 then 3 else (if x2 < 0 then 3 else (if x2 < (6 : Int32) then (am_lk 2 (((x1 * (6 : Int32)) + x2)).toNatClampNeg) else 3))))
def p_BA_column  (s : am_M) (x1 : Int32) (x2 : Int32) : Prop := ((x1 < 0) → True) ∧ (¬ (x1 < 0) → (((4 : Int32) ≤ x1) → True) ∧ (¬ ((4 : Int32) ≤ x1) → ((x2 < 0) → True) ∧ (¬ (x2 < 0) → ((x2 < (6 : Int32)) → vp_in ((x1 * (6 : Int32)) + x2) 24 ∧ (((am_lk 2 (((x1 * (6 : Int32)) + x2)).toNatClampNeg) < 207 ∧ am_sh (am_lk 2 (((x1 * (6 : Int32)) + x2)).toNatClampNeg) = (0, 3, 11)) ∧ (True))) ∧ (¬ (x2 < (6 : Int32)) → True))))
set_option maxRecDepth 8000 in
theorem w_BA_column {l : Launch} {g : am_Gl} (hg : g.2.2.2.1 = true) {ad0 : Nat → Nat} {s : am_M} {x1 : Int32} {x2 : Int32} (h : p_BA_column s x1 x2) : AW l g m_BA_column 207 ad0 ((am_oR s) (f_BA_column s x1 x2)) 0 0 207 s 0 [(0, .ref 1), (1, .int x1), (2, .int x2)] [] := by
  refine am_iload_n (j := 1) d_BA_column_0 rfl rfl ?_
  refine ai_lt (F := (am_oR s)) (tgt := 19) d_BA_column_1 (by decide) (fun c => ?_) (fun c => ?_)
  · have h := h.1 c
    refine am_aload_n (j := 0) d_BA_column_19 rfl rfl ?_
    refine am_getR (t := 3) d_BA_column_20 fl_BA_18 hg (by decide) sh_1 (by decide) rfl (by decide) lk_1_1 (by decide) ?_
    exact am_aret d_BA_column_23 rfl (by decide) (by decide) am_oR_ok
  · have h := h.2 c
    refine am_iload_n (j := 1) d_BA_column_4 rfl rfl ?_
    refine am_iconst (v := (4 : Int32)) d_BA_column_5 (by decide) ?_
    refine aj_ge (F := (am_oR s)) (tgt := 19) d_BA_column_6 (by decide) (fun c => ?_) (fun c => ?_)
    · have h := h.1 c
      refine am_aload_n (j := 0) d_BA_column_19 rfl rfl ?_
      refine am_getR (t := 3) d_BA_column_20 fl_BA_18 hg (by decide) sh_1 (by decide) rfl (by decide) lk_1_1 (by decide) ?_
      exact am_aret d_BA_column_23 rfl (by decide) (by decide) am_oR_ok
    · have h := h.2 c
      refine am_iload_n (j := 2) d_BA_column_9 rfl rfl ?_
      refine ai_lt (F := (am_oR s)) (tgt := 19) d_BA_column_10 (by decide) (fun c => ?_) (fun c => ?_)
      · have h := h.1 c
        refine am_aload_n (j := 0) d_BA_column_19 rfl rfl ?_
        refine am_getR (t := 3) d_BA_column_20 fl_BA_18 hg (by decide) sh_1 (by decide) rfl (by decide) lk_1_1 (by decide) ?_
        exact am_aret d_BA_column_23 rfl (by decide) (by decide) am_oR_ok
      · have h := h.2 c
        refine am_iload_n (j := 2) d_BA_column_13 rfl rfl ?_
        refine am_bipush (v := (6 : Int32)) d_BA_column_14 (by decide) ?_
        refine aj_lt (F := (am_oR s)) (tgt := 24) d_BA_column_16 (by decide) (fun c => ?_) (fun c => ?_)
        · have h := h.1 c
          refine am_aload_n (j := 0) d_BA_column_24 rfl rfl ?_
          refine am_getR (t := 2) d_BA_column_25 fl_BA_11 hg (by decide) sh_1 (by decide) rfl (by decide) lk_1_0 (by decide) ?_
          refine am_iload_n (j := 1) d_BA_column_28 rfl rfl ?_
          refine am_bipush (v := (6 : Int32)) d_BA_column_29 (by decide) ?_
          refine am_imul d_BA_column_31 ?_
          refine am_iload_n (j := 2) d_BA_column_32 rfl rfl ?_
          refine am_iadd d_BA_column_33 ?_
          obtain ⟨hv, h⟩ := h
          obtain ⟨⟨b1, t1⟩, h⟩ := h
          refine am_aalL d_BA_column_34 hg (by decide) sh_2 (by decide) (by decide) hv rfl b1 ?_
          exact am_aret d_BA_column_35 rfl (by decide) (by decide) am_oR_ok
        · have h := h.2 c
          refine am_aload_n (j := 0) d_BA_column_19 rfl rfl ?_
          refine am_getR (t := 3) d_BA_column_20 fl_BA_18 hg (by decide) sh_1 (by decide) rfl (by decide) lk_1_1 (by decide) ?_
          exact am_aret d_BA_column_23 rfl (by decide) (by decide) am_oR_ok
theorem ct_BA_column {l : Launch} {g : am_Gl} (hg : g.2.2.2.1 = true) {s : am_M} {x1 : Int32} {x2 : Int32} (h : p_BA_column s x1 x2) : AC l g m_BA_column 207 s [.ref 1, .int x1, .int x2] ((am_oR s) (f_BA_column s x1 x2)) := am_enter ok_BA_column rfl (Nat.le_of_ble_eq_true rfl) rfl (fun ad0 => w_BA_column hg h)
def f_CB_orZero  (s : am_M) (x0 : Int32) : Int32 := (if x0 = (-1000000 : Int32) then (0 : Int32) else x0)
def p_CB_orZero  (s : am_M) (x0 : Int32) : Prop := ((x0 = (-1000000 : Int32)) → True) ∧ (¬ (x0 = (-1000000 : Int32)) → True)
set_option maxRecDepth 8000 in
theorem w_CB_orZero {l : Launch} {g : am_Gl} (hg : g.2.2.2.1 = true) {ad0 : Nat → Nat} {s : am_M} {x0 : Int32} : AW l g m_CB_orZero 207 ad0 ((am_oI s) (f_CB_orZero s x0)) 0 0 207 s 0 [(0, .int x0)] [] := by
  have h : p_CB_orZero s x0 := by
    unfold p_CB_orZero
    first | exact trivial | simp
  refine am_iload_n (j := 0) d_CB_orZero_0 rfl rfl ?_
  refine am_ldc (v := (-1000000 : Int32)) d_CB_orZero_1 aw_1_99 ?_
  refine aj_ne (F := (am_oI s)) (tgt := 10) d_CB_orZero_3 (by decide) (fun c => ?_) (fun c => ?_)
  · have h := h.2 c
    refine am_iload_n (j := 0) d_CB_orZero_10 rfl rfl ?_
    exact am_iret d_CB_orZero_11 rfl rfl (by decide) (by decide) am_oI_ok
  · have h := h.1 c
    refine am_iconst (v := (0 : Int32)) d_CB_orZero_6 (by decide) ?_
    refine am_goto (tgt := 11) d_CB_orZero_7 (by decide) ?_
    exact am_iret d_CB_orZero_11 rfl rfl (by decide) (by decide) am_oI_ok
theorem ct_CB_orZero {l : Launch} {g : am_Gl} (hg : g.2.2.2.1 = true) {s : am_M} {x0 : Int32} : AC l g m_CB_orZero 207 s [.int x0] ((am_oI s) (f_CB_orZero s x0)) := am_enter ok_CB_orZero rfl (Nat.le_of_ble_eq_true rfl) rfl (fun ad0 => w_CB_orZero hg)
def f_CB_limited  (s : am_M) (x0 : Int64) : Int32 := (if (lg_cmp x0 (-999999 : Int64)) < 0 then (-1000000 : Int32) else (if (lg_cmp x0 (999999 : Int64)) ≤ 0 then x0.toInt32 else (-1000000 : Int32)))
def p_CB_limited  (s : am_M) (x0 : Int64) : Prop := (((lg_cmp x0 (-999999 : Int64)) < 0) → True) ∧ (¬ ((lg_cmp x0 (-999999 : Int64)) < 0) → (((lg_cmp x0 (999999 : Int64)) ≤ 0) → True) ∧ (¬ ((lg_cmp x0 (999999 : Int64)) ≤ 0) → True))
set_option maxRecDepth 8000 in
theorem w_CB_limited {l : Launch} {g : am_Gl} (hg : g.2.2.2.1 = true) {ad0 : Nat → Nat} {s : am_M} {x0 : Int64} : AW l g m_CB_limited 207 ad0 ((am_oI s) (f_CB_limited s x0)) 0 0 207 s 0 [(0, .long x0)] [] := by
  have h : p_CB_limited s x0 := by
    unfold p_CB_limited
    first | exact trivial | simp
  refine am_lload_n (j := 0) d_CB_limited_0 rfl rfl ?_
  refine am_ldc2 (v := (-999999 : Int64)) d_CB_limited_1 aw_2_193 ?_
  refine am_lcmp d_CB_limited_4 ?_
  refine ai_lt (F := (am_oI s)) (tgt := 16) d_CB_limited_5 (by decide) (fun c => ?_) (fun c => ?_)
  · have h := h.1 c
    refine am_ldc (v := (-1000000 : Int32)) d_CB_limited_16 aw_1_99 ?_
    refine am_goto (tgt := 23) d_CB_limited_18 (by decide) ?_
    exact am_iret d_CB_limited_23 rfl rfl (by decide) (by decide) am_oI_ok
  · have h := h.2 c
    refine am_lload_n (j := 0) d_CB_limited_8 rfl rfl ?_
    refine am_ldc2 (v := (999999 : Int64)) d_CB_limited_9 aw_2_194 ?_
    refine am_lcmp d_CB_limited_12 ?_
    refine ai_le (F := (am_oI s)) (tgt := 21) d_CB_limited_13 (by decide) (fun c => ?_) (fun c => ?_)
    · have h := h.1 c
      refine am_lload_n (j := 0) d_CB_limited_21 rfl rfl ?_
      refine am_l2i d_CB_limited_22 ?_
      exact am_iret d_CB_limited_23 rfl rfl (by decide) (by decide) am_oI_ok
    · have h := h.2 c
      refine am_ldc (v := (-1000000 : Int32)) d_CB_limited_16 aw_1_99 ?_
      refine am_goto (tgt := 23) d_CB_limited_18 (by decide) ?_
      exact am_iret d_CB_limited_23 rfl rfl (by decide) (by decide) am_oI_ok
theorem ct_CB_limited {l : Launch} {g : am_Gl} (hg : g.2.2.2.1 = true) {s : am_M} {x0 : Int64} : AC l g m_CB_limited 207 s [.long x0] ((am_oI s) (f_CB_limited s x0)) := am_enter ok_CB_limited rfl (Nat.le_of_ble_eq_true rfl) rfl (fun ad0 => w_CB_limited hg)
theorem cw_BA_reckonSums_5 : am_cs m_BA_reckonSums m_JF_fill 221 2 := ⟨⟨ok_JF_fill, rfl, by decide +kernel, by decide, by decide⟩, aw_2_178, aw_0_125⟩
theorem cw_BA_reckonSums_32 : am_cv m_BA_reckonSums m_RO_get 159 3 := ⟨⟨ok_RO_get, rfl, by decide +kernel, by decide, by decide⟩, aw_2_179, aw_2_180, aw_2_181⟩
theorem cw_BA_reckonSums_47 : am_cv m_BA_reckonSums m_RO_has 155 2 := ⟨⟨ok_RO_has, rfl, by decide +kernel, by decide, by decide⟩, aw_2_183, aw_2_184, aw_2_185⟩
theorem cw_BA_reckonSums_102 : am_cv m_BA_reckonSums m_RO_get 159 3 := ⟨⟨ok_RO_get, rfl, by decide +kernel, by decide, by decide⟩, aw_2_179, aw_2_180, aw_2_181⟩
theorem cw_BA_reckonSums_105 : am_sn m_BA_reckonSums m_CB_orZero 227 1 := ⟨⟨ok_CB_orZero, rfl, by decide +kernel, by decide, by decide⟩, by decide +kernel, aw_2_188⟩
theorem cw_BA_reckonSums_136 : am_cv m_BA_reckonSums m_RO_has 155 2 := ⟨⟨ok_RO_has, rfl, by decide +kernel, by decide, by decide⟩, aw_2_183, aw_2_184, aw_2_185⟩
theorem cw_BA_reckonSums_158 : am_sn m_BA_reckonSums m_CB_limited 217 1 := ⟨⟨ok_CB_limited, rfl, by decide +kernel, by decide, by decide⟩, by decide +kernel, aw_2_191⟩
theorem cw_BA_reckonSums_161 : am_cv m_BA_reckonSums m_RO_set 166 4 := ⟨⟨ok_RO_set, rfl, by decide +kernel, by decide, by decide⟩, aw_2_162, aw_2_163, aw_2_164⟩
def f_BA_reckonSums_110 (K11 : am_M → Nat → Int32 → Int32 → Int32 → am_M) (s : am_M) (x3 : Nat) (x1 : Int32) (x2 : Int32) (x4 : Int32) (x5 : Int32) : am_M := (K11 s x3 x1 x2 (x4 + (1 : Int32)))
def p_BA_reckonSums_110 (KP11 : am_M → Nat → Int32 → Int32 → Int32 → Prop) (s : am_M) (x3 : Nat) (x1 : Int32) (x2 : Int32) (x4 : Int32) (x5 : Int32) : Prop := (KP11 s x3 x1 x2 (x4 + (1 : Int32)))
set_option maxRecDepth 8000 in
theorem w_BA_reckonSums_110 {l : Launch} {g : am_Gl} (hg : g.2.2.2.1 = true) {ad0 : Nat → Nat} {K11 : am_M → Nat → Int32 → Int32 → Int32 → am_M} {KP11 : am_M → Nat → Int32 → Int32 → Int32 → Prop} (hK11 : ∀ (s : am_M) (x3 : Nat) (x1 : Int32) (x2 : Int32) (x4 : Int32), KP11 s x3 x1 x2 x4 → AW l g m_BA_reckonSums 207 ad0 (am_oM (K11 s x3 x1 x2 x4)) 0 0 207 s 11 [(0, .ref 1), (1, .int x1), (2, .int x2), (3, .ref x3), (4, .int x4)] []) {s : am_M} {x3 : Nat} {x1 : Int32} {x2 : Int32} {x4 : Int32} {x5 : Int32} (h : p_BA_reckonSums_110 KP11 s x3 x1 x2 x4 x5) : AW l g m_BA_reckonSums 207 ad0 (am_oM (f_BA_reckonSums_110 K11 s x3 x1 x2 x4 x5)) 0 0 207 s 110 [(0, .ref 1), (1, .int x1), (2, .int x2), (3, .ref x3), (4, .int x4), (5, .int x5)] [] := by
  refine am_iinc (j := 4) (v := (x4 + (1 : Int32))) (lv2 := [(4, .int (x4 + (1 : Int32))), (0, .ref 1), (1, .int x1), (2, .int x2), (3, .ref x3), (5, .int x5)]) d_BA_reckonSums_110 rfl rfl (by decide) rfl ?_
  refine am_goto (tgt := 11) d_BA_reckonSums_113 (by decide) ?_
  refine am_sub [1, 2, 3, 4, 0] (lv2 := [(0, .ref 1), (1, .int x1), (2, .int x2), (3, .ref x3), (4, .int (x4 + (1 : Int32)))]) rfl ?_
  exact hK11 _ _ _ _ _ h
def f_BA_reckonSums_108 (K11 : am_M → Nat → Int32 → Int32 → Int32 → am_M) (s : am_M) (x3 : Nat) (x1 : Int32) (x2 : Int32) (x4 : Int32) (x5 : Int32) (y1 : Int32) (y2 : Int32) (y3 : Int32) : am_M := (f_BA_reckonSums_110 K11 (am_set s 19 (y1).toNatClampNeg (y2 + y3)) x3 x1 x2 x4 x5)
def p_BA_reckonSums_108 (KP11 : am_M → Nat → Int32 → Int32 → Int32 → Prop) (s : am_M) (x3 : Nat) (x1 : Int32) (x2 : Int32) (x4 : Int32) (x5 : Int32) (y1 : Int32) (y2 : Int32) (y3 : Int32) : Prop := vp_in y1 30 ∧ ((p_BA_reckonSums_110 KP11 (am_set s 19 (y1).toNatClampNeg (y2 + y3)) x3 x1 x2 x4 x5))
set_option maxRecDepth 8000 in
theorem w_BA_reckonSums_108 {l : Launch} {g : am_Gl} (hg : g.2.2.2.1 = true) {ad0 : Nat → Nat} {K11 : am_M → Nat → Int32 → Int32 → Int32 → am_M} {KP11 : am_M → Nat → Int32 → Int32 → Int32 → Prop} (hK11 : ∀ (s : am_M) (x3 : Nat) (x1 : Int32) (x2 : Int32) (x4 : Int32), KP11 s x3 x1 x2 x4 → AW l g m_BA_reckonSums 207 ad0 (am_oM (K11 s x3 x1 x2 x4)) 0 0 207 s 11 [(0, .ref 1), (1, .int x1), (2, .int x2), (3, .ref x3), (4, .int x4)] []) {s : am_M} {x3 : Nat} {x1 : Int32} {x2 : Int32} {x4 : Int32} {x5 : Int32} {y1 : Int32} {y2 : Int32} {y3 : Int32} (h : p_BA_reckonSums_108 KP11 s x3 x1 x2 x4 x5 y1 y2 y3) : AW l g m_BA_reckonSums 207 ad0 (am_oM (f_BA_reckonSums_108 K11 s x3 x1 x2 x4 x5 y1 y2 y3)) 0 0 207 s 108 [(0, .ref 1), (1, .int x1), (2, .int x2), (3, .ref x3), (4, .int x4), (5, .int x5)] [.int y3, .int y2, .int y1, .ref 19] := by
  refine am_iadd d_BA_reckonSums_108 ?_
  obtain ⟨hv, h⟩ := h
  refine am_iast d_BA_reckonSums_109 (by decide) sh_19 hv ?_
  exact w_BA_reckonSums_110 hg hK11 h
def f_BA_reckonSums_164 (K119 : am_M → Nat → Int32 → Int32 → Int32 → am_M) (s : am_M) (x3 : Nat) (x1 : Int32) (x2 : Int32) (x4 : Int32) : am_M := (K119 s x3 x1 x2 (x4 + (1 : Int32)))
def p_BA_reckonSums_164 (KP119 : am_M → Nat → Int32 → Int32 → Int32 → Prop) (s : am_M) (x3 : Nat) (x1 : Int32) (x2 : Int32) (x4 : Int32) : Prop := (KP119 s x3 x1 x2 (x4 + (1 : Int32)))
set_option maxRecDepth 8000 in
theorem w_BA_reckonSums_164 {l : Launch} {g : am_Gl} (hg : g.2.2.2.1 = true) {ad0 : Nat → Nat} {K119 : am_M → Nat → Int32 → Int32 → Int32 → am_M} {KP119 : am_M → Nat → Int32 → Int32 → Int32 → Prop} (hK119 : ∀ (s : am_M) (x3 : Nat) (x1 : Int32) (x2 : Int32) (x4 : Int32), KP119 s x3 x1 x2 x4 → AW l g m_BA_reckonSums 207 ad0 (am_oM (K119 s x3 x1 x2 x4)) 0 0 207 s 119 [(0, .ref 1), (1, .int x1), (2, .int x2), (3, .ref x3), (4, .int x4)] []) {s : am_M} {x3 : Nat} {x1 : Int32} {x2 : Int32} {x4 : Int32} (h : p_BA_reckonSums_164 KP119 s x3 x1 x2 x4) : AW l g m_BA_reckonSums 207 ad0 (am_oM (f_BA_reckonSums_164 K119 s x3 x1 x2 x4)) 0 0 207 s 164 [(0, .ref 1), (1, .int x1), (2, .int x2), (3, .ref x3), (4, .int x4)] [] := by
  refine am_iinc (j := 4) (v := (x4 + (1 : Int32))) (lv2 := [(4, .int (x4 + (1 : Int32))), (0, .ref 1), (1, .int x1), (2, .int x2), (3, .ref x3)]) d_BA_reckonSums_164 rfl rfl (by decide) rfl ?_
  refine am_goto (tgt := 119) d_BA_reckonSums_167 (by decide) ?_
  refine am_sub [1, 2, 3, 4, 0] (lv2 := [(0, .ref 1), (1, .int x1), (2, .int x2), (3, .ref x3), (4, .int (x4 + (1 : Int32)))]) rfl ?_
  exact hK119 _ _ _ _ _ h
def f_BA_reckonSums_119  : Nat → am_M → Nat → Int32 → Int32 → Int32 → am_M
  | 0, s, x3, x1, x2, x4 => s
  | n + 1, s, x3, x1, x2, x4 => (if (30 : Int32) ≤ x4 then s else (if (f_RO_has s 8 x1 x4) = 0 then (f_BA_reckonSums_164 (f_BA_reckonSums_119  n) s x3 x1 x2 x4) else (f_BA_reckonSums_164 (f_BA_reckonSums_119  n) (f_RO_set s 8 x1 x4 x2 (f_CB_limited s (s 19 (x4).toNatClampNeg).toInt64)) x3 x1 x2 x4)))
def p_BA_reckonSums_119  : Nat → am_M → Nat → Int32 → Int32 → Int32 → Prop
  | 0, s, x3, x1, x2, x4 => False
  | n + 1, s, x3, x1, x2, x4 => (((30 : Int32) ≤ x4) → True) ∧ (¬ ((30 : Int32) ≤ x4) → p_RO_has s 8 x1 x4 ∧ ((((f_RO_has s 8 x1 x4) = 0) → (p_BA_reckonSums_164 (p_BA_reckonSums_119  n) s x3 x1 x2 x4)) ∧ (¬ ((f_RO_has s 8 x1 x4) = 0) → vp_in x4 30 ∧ (p_RO_set s 8 x1 x4 x2 (f_CB_limited s (s 19 (x4).toNatClampNeg).toInt64) ∧ ((p_BA_reckonSums_164 (p_BA_reckonSums_119  n) (f_RO_set s 8 x1 x4 x2 (f_CB_limited s (s 19 (x4).toNatClampNeg).toInt64)) x3 x1 x2 x4))))))
set_option maxRecDepth 8000 in
theorem w_BA_reckonSums_119 {l : Launch} {g : am_Gl} (hg : g.2.2.2.1 = true) {ad0 : Nat → Nat}   : ∀ (n : Nat) (s : am_M) (x3 : Nat) (x1 : Int32) (x2 : Int32) (x4 : Int32), p_BA_reckonSums_119  n s x3 x1 x2 x4 → AW l g m_BA_reckonSums 207 ad0 (am_oM (f_BA_reckonSums_119  n s x3 x1 x2 x4)) 0 0 207 s 119 [(0, .ref 1), (1, .int x1), (2, .int x2), (3, .ref x3), (4, .int x4)] [] := by
  intro n
  induction n with
  | zero => intro s x3 x1 x2 x4 h; exact h.elim
  | succ n hK119 =>
    intro s x3 x1 x2 x4 h
    refine am_iload (j := 4) d_BA_reckonSums_119 rfl ?_
    refine am_aload_n (j := 0) d_BA_reckonSums_121 rfl rfl ?_
    refine am_getR (t := 19) d_BA_reckonSums_122 fl_BA_64 hg (by decide) sh_1 (by decide) rfl (by decide) lk_1_15 (by decide) ?_
    refine am_alen (v := (30 : Int32)) d_BA_reckonSums_125 (by decide) sh_19 (by decide) (by decide) ?_
    refine aj_ge (F := am_oM) (tgt := 170) d_BA_reckonSums_126 (by decide) (fun c => ?_) (fun c => ?_)
    · have h := h.1 c
      exact am_vret d_BA_reckonSums_170 rfl (by decide) (by decide) am_oM_ok
    · have h := h.2 c
      refine am_aload_n (j := 0) d_BA_reckonSums_129 rfl rfl ?_
      refine am_getR (t := 8) d_BA_reckonSums_130 fl_BA_43 hg (by decide) sh_1 (by decide) rfl (by decide) lk_1_9 (by decide) ?_
      refine am_iload_n (j := 1) d_BA_reckonSums_133 rfl rfl ?_
      refine am_iload (j := 4) d_BA_reckonSums_134 rfl ?_
      obtain ⟨hc, h⟩ := h
      refine ak_VI (as := [.int x1, .int x4]) (rest := []) d_BA_reckonSums_136 cw_BA_reckonSums_136 rfl rfl rfl (ct_RO_has hg hc) rfl rfl (by decide) sh_8 rfl (Nat.le_of_ble_eq_true rfl) (by decide) (by decide) ?_
      refine ai_eq (F := am_oM) (tgt := 164) d_BA_reckonSums_139 (by decide) (fun c => ?_) (fun c => ?_)
      · have h := h.1 c
        exact w_BA_reckonSums_164 hg hK119 h
      · have h := h.2 c
        refine am_aload_n (j := 0) d_BA_reckonSums_142 rfl rfl ?_
        refine am_getR (t := 8) d_BA_reckonSums_143 fl_BA_43 hg (by decide) sh_1 (by decide) rfl (by decide) lk_1_9 (by decide) ?_
        refine am_iload_n (j := 1) d_BA_reckonSums_146 rfl rfl ?_
        refine am_iload (j := 4) d_BA_reckonSums_147 rfl ?_
        refine am_iload_n (j := 2) d_BA_reckonSums_149 rfl rfl ?_
        refine am_aload_n (j := 0) d_BA_reckonSums_150 rfl rfl ?_
        refine am_getR (t := 19) d_BA_reckonSums_151 fl_BA_64 hg (by decide) sh_1 (by decide) rfl (by decide) lk_1_15 (by decide) ?_
        refine am_iload (j := 4) d_BA_reckonSums_154 rfl ?_
        obtain ⟨hv, h⟩ := h
        refine am_iald d_BA_reckonSums_156 (by decide) sh_19 hv ?_
        refine am_i2l d_BA_reckonSums_157 ?_
        refine ak_SNI (as := [.long (s 19 (x4).toNatClampNeg).toInt64]) (rest := [.int x2, .int x4, .int x1, .ref 8]) d_BA_reckonSums_158 cw_BA_reckonSums_158 rfl rfl rfl (ct_CB_limited hg) rfl rfl (Nat.le_of_ble_eq_true rfl) (by decide) (by decide) ?_
        obtain ⟨hc, h⟩ := h
        refine ak_VM (as := [.int x1, .int x4, .int x2, .int (f_CB_limited s (s 19 (x4).toNatClampNeg).toInt64)]) (rest := []) d_BA_reckonSums_161 cw_BA_reckonSums_161 rfl rfl rfl (ct_RO_set hg hc) rfl rfl (by decide) sh_8 rfl (Nat.le_of_ble_eq_true rfl) (by decide) (by decide) ?_
        exact w_BA_reckonSums_164 hg hK119 h
def f_BA_reckonSums_116  (s : am_M) (x3 : Nat) (x1 : Int32) (x2 : Int32) (x4 : Int32) : am_M := (f_BA_reckonSums_119 am_F s x3 x1 x2 (0 : Int32))
def p_BA_reckonSums_116  (s : am_M) (x3 : Nat) (x1 : Int32) (x2 : Int32) (x4 : Int32) : Prop := (p_BA_reckonSums_119 am_F s x3 x1 x2 (0 : Int32))
set_option maxRecDepth 8000 in
theorem w_BA_reckonSums_116 {l : Launch} {g : am_Gl} (hg : g.2.2.2.1 = true) {ad0 : Nat → Nat}  {s : am_M} {x3 : Nat} {x1 : Int32} {x2 : Int32} {x4 : Int32} (h : p_BA_reckonSums_116  s x3 x1 x2 x4) : AW l g m_BA_reckonSums 207 ad0 (am_oM (f_BA_reckonSums_116  s x3 x1 x2 x4)) 0 0 207 s 116 [(0, .ref 1), (1, .int x1), (2, .int x2), (3, .ref x3), (4, .int x4)] [] := by
  refine am_iconst (v := (0 : Int32)) d_BA_reckonSums_116 (by decide) ?_
  refine am_istore (lv2 := [(4, .int (0 : Int32)), (0, .ref 1), (1, .int x1), (2, .int x2), (3, .ref x3)]) d_BA_reckonSums_117 (by decide) rfl ?_
  refine am_sub [1, 2, 3, 4, 0] (lv2 := [(0, .ref 1), (1, .int x1), (2, .int x2), (3, .ref x3), (4, .int (0 : Int32))]) rfl ?_
  exact w_BA_reckonSums_119 hg am_F _ _ _ _ _ h
def f_BA_reckonSums_11  : Nat → am_M → Nat → Int32 → Int32 → Int32 → am_M
  | 0, s, x3, x1, x2, x4 => s
  | n + 1, s, x3, x1, x2, x4 => (if (30 : Int32) ≤ x4 then (f_BA_reckonSums_116 s x3 x1 x2 x4) else (if (f_RO_has s 8 (s x3 10) x4) = 0 then (f_BA_reckonSums_110 (f_BA_reckonSums_11  n) s x3 x1 x2 x4 (f_RO_get s 8 (s x3 10) x4 (s x3 8))) else (if (f_RO_get s 8 (s x3 10) x4 (s x3 8)) < 0 then (f_BA_reckonSums_110 (f_BA_reckonSums_11  n) s x3 x1 x2 x4 (f_RO_get s 8 (s x3 10) x4 (s x3 8))) else (if (30 : Int32) ≤ (f_RO_get s 8 (s x3 10) x4 (s x3 8)) then (f_BA_reckonSums_110 (f_BA_reckonSums_11  n) s x3 x1 x2 x4 (f_RO_get s 8 (s x3 10) x4 (s x3 8))) else (if (s x3 7) = (4 : Int32) then (f_BA_reckonSums_108 (f_BA_reckonSums_11  n) s x3 x1 x2 x4 (f_RO_get s 8 (s x3 10) x4 (s x3 8)) (f_RO_get s 8 (s x3 10) x4 (s x3 8)) (s 19 ((f_RO_get s 8 (s x3 10) x4 (s x3 8))).toNatClampNeg) (1 : Int32)) else (f_BA_reckonSums_108 (f_BA_reckonSums_11  n) s x3 x1 x2 x4 (f_RO_get s 8 (s x3 10) x4 (s x3 8)) (f_RO_get s 8 (s x3 10) x4 (s x3 8)) (s 19 ((f_RO_get s 8 (s x3 10) x4 (s x3 8))).toNatClampNeg) (f_CB_orZero s (f_RO_get s 8 (s x3 10) x4 (s x3 9)))))))))
def p_BA_reckonSums_11  : Nat → am_M → Nat → Int32 → Int32 → Int32 → Prop
  | 0, s, x3, x1, x2, x4 => False
  | n + 1, s, x3, x1, x2, x4 => (((30 : Int32) ≤ x4) → (p_BA_reckonSums_116 s x3 x1 x2 x4)) ∧ (¬ ((30 : Int32) ≤ x4) → (x3 < 207 ∧ am_sh x3 = (0, 3, 11)) ∧ (p_RO_get s 8 (s x3 10) x4 (s x3 8) ∧ (p_RO_has s 8 (s x3 10) x4 ∧ ((((f_RO_has s 8 (s x3 10) x4) = 0) → (p_BA_reckonSums_110 (p_BA_reckonSums_11  n) s x3 x1 x2 x4 (f_RO_get s 8 (s x3 10) x4 (s x3 8)))) ∧ (¬ ((f_RO_has s 8 (s x3 10) x4) = 0) → (((f_RO_get s 8 (s x3 10) x4 (s x3 8)) < 0) → (p_BA_reckonSums_110 (p_BA_reckonSums_11  n) s x3 x1 x2 x4 (f_RO_get s 8 (s x3 10) x4 (s x3 8)))) ∧ (¬ ((f_RO_get s 8 (s x3 10) x4 (s x3 8)) < 0) → (((30 : Int32) ≤ (f_RO_get s 8 (s x3 10) x4 (s x3 8))) → (p_BA_reckonSums_110 (p_BA_reckonSums_11  n) s x3 x1 x2 x4 (f_RO_get s 8 (s x3 10) x4 (s x3 8)))) ∧ (¬ ((30 : Int32) ≤ (f_RO_get s 8 (s x3 10) x4 (s x3 8))) → vp_in (f_RO_get s 8 (s x3 10) x4 (s x3 8)) 30 ∧ ((((s x3 7) = (4 : Int32)) → (p_BA_reckonSums_108 (p_BA_reckonSums_11  n) s x3 x1 x2 x4 (f_RO_get s 8 (s x3 10) x4 (s x3 8)) (f_RO_get s 8 (s x3 10) x4 (s x3 8)) (s 19 ((f_RO_get s 8 (s x3 10) x4 (s x3 8))).toNatClampNeg) (1 : Int32))) ∧ (¬ ((s x3 7) = (4 : Int32)) → p_RO_get s 8 (s x3 10) x4 (s x3 9) ∧ ((p_BA_reckonSums_108 (p_BA_reckonSums_11  n) s x3 x1 x2 x4 (f_RO_get s 8 (s x3 10) x4 (s x3 8)) (f_RO_get s 8 (s x3 10) x4 (s x3 8)) (s 19 ((f_RO_get s 8 (s x3 10) x4 (s x3 8))).toNatClampNeg) (f_CB_orZero s (f_RO_get s 8 (s x3 10) x4 (s x3 9))))))))))))))
set_option maxRecDepth 8000 in
theorem w_BA_reckonSums_11 {l : Launch} {g : am_Gl} (hg : g.2.2.2.1 = true) {ad0 : Nat → Nat}   : ∀ (n : Nat) (s : am_M) (x3 : Nat) (x1 : Int32) (x2 : Int32) (x4 : Int32), p_BA_reckonSums_11  n s x3 x1 x2 x4 → AW l g m_BA_reckonSums 207 ad0 (am_oM (f_BA_reckonSums_11  n s x3 x1 x2 x4)) 0 0 207 s 11 [(0, .ref 1), (1, .int x1), (2, .int x2), (3, .ref x3), (4, .int x4)] [] := by
  intro n
  induction n with
  | zero => intro s x3 x1 x2 x4 h; exact h.elim
  | succ n hK11 =>
    intro s x3 x1 x2 x4 h
    refine am_iload (j := 4) d_BA_reckonSums_11 rfl ?_
    refine am_bipush (v := (30 : Int32)) d_BA_reckonSums_13 (by decide) ?_
    refine aj_ge (F := am_oM) (tgt := 116) d_BA_reckonSums_15 (by decide) (fun c => ?_) (fun c => ?_)
    · have h := h.1 c
      exact w_BA_reckonSums_116 hg h
    · have h := h.2 c
      refine am_aload_n (j := 0) d_BA_reckonSums_18 rfl rfl ?_
      refine am_getR (t := 8) d_BA_reckonSums_19 fl_BA_43 hg (by decide) sh_1 (by decide) rfl (by decide) lk_1_9 (by decide) ?_
      refine am_aload_n (j := 3) d_BA_reckonSums_22 rfl rfl ?_
      obtain ⟨⟨b1, t1⟩, h⟩ := h
      refine am_getI d_BA_reckonSums_23 fl_BA_135 b1 t1 (by decide) rfl ?_
      refine am_iload (j := 4) d_BA_reckonSums_26 rfl ?_
      refine am_aload_n (j := 3) d_BA_reckonSums_28 rfl rfl ?_
      refine am_getI d_BA_reckonSums_29 fl_BA_129 b1 t1 (by decide) rfl ?_
      obtain ⟨hc, h⟩ := h
      refine ak_VI (as := [.int (s x3 10), .int x4, .int (s x3 8)]) (rest := []) d_BA_reckonSums_32 cw_BA_reckonSums_32 rfl rfl rfl (ct_RO_get hg hc) rfl rfl (by decide) sh_8 rfl (Nat.le_of_ble_eq_true rfl) (by decide) (by decide) ?_
      refine am_istore (lv2 := [(5, .int (f_RO_get s 8 (s x3 10) x4 (s x3 8))), (0, .ref 1), (1, .int x1), (2, .int x2), (3, .ref x3), (4, .int x4)]) d_BA_reckonSums_35 (by decide) rfl ?_
      refine am_aload_n (j := 1) d_BA_reckonSums_37 rfl rfl ?_
      refine am_getR (t := 8) d_BA_reckonSums_38 fl_BA_43 hg (by decide) sh_1 (by decide) rfl (by decide) lk_1_9 (by decide) ?_
      refine am_aload_n (j := 4) d_BA_reckonSums_41 rfl rfl ?_
      refine am_getI d_BA_reckonSums_42 fl_BA_135 b1 t1 (by decide) rfl ?_
      refine am_iload (j := 5) d_BA_reckonSums_45 rfl ?_
      obtain ⟨hc, h⟩ := h
      refine ak_VI (as := [.int (s x3 10), .int x4]) (rest := []) d_BA_reckonSums_47 cw_BA_reckonSums_47 rfl rfl rfl (ct_RO_has hg hc) rfl rfl (by decide) sh_8 rfl (Nat.le_of_ble_eq_true rfl) (by decide) (by decide) ?_
      refine ai_eq (F := am_oM) (tgt := 110) d_BA_reckonSums_50 (by decide) (fun c => ?_) (fun c => ?_)
      · have h := h.1 c
        refine am_sub [1, 2, 3, 4, 5, 0] (lv2 := [(0, .ref 1), (1, .int x1), (2, .int x2), (3, .ref x3), (4, .int x4), (5, .int (f_RO_get s 8 (s x3 10) x4 (s x3 8)))]) rfl ?_
        exact w_BA_reckonSums_110 hg hK11 h
      · have h := h.2 c
        refine am_iload (j := 0) d_BA_reckonSums_53 rfl ?_
        refine ai_lt (F := am_oM) (tgt := 110) d_BA_reckonSums_55 (by decide) (fun c => ?_) (fun c => ?_)
        · have h := h.1 c
          refine am_sub [1, 2, 3, 4, 5, 0] (lv2 := [(0, .ref 1), (1, .int x1), (2, .int x2), (3, .ref x3), (4, .int x4), (5, .int (f_RO_get s 8 (s x3 10) x4 (s x3 8)))]) rfl ?_
          exact w_BA_reckonSums_110 hg hK11 h
        · have h := h.2 c
          refine am_iload (j := 0) d_BA_reckonSums_58 rfl ?_
          refine am_aload_n (j := 1) d_BA_reckonSums_60 rfl rfl ?_
          refine am_getR (t := 19) d_BA_reckonSums_61 fl_BA_64 hg (by decide) sh_1 (by decide) rfl (by decide) lk_1_15 (by decide) ?_
          refine am_alen (v := (30 : Int32)) d_BA_reckonSums_64 (by decide) sh_19 (by decide) (by decide) ?_
          refine aj_ge (F := am_oM) (tgt := 110) d_BA_reckonSums_65 (by decide) (fun c => ?_) (fun c => ?_)
          · have h := h.1 c
            refine am_sub [1, 2, 3, 4, 5, 0] (lv2 := [(0, .ref 1), (1, .int x1), (2, .int x2), (3, .ref x3), (4, .int x4), (5, .int (f_RO_get s 8 (s x3 10) x4 (s x3 8)))]) rfl ?_
            exact w_BA_reckonSums_110 hg hK11 h
          · have h := h.2 c
            refine am_aload_n (j := 1) d_BA_reckonSums_68 rfl rfl ?_
            refine am_getR (t := 19) d_BA_reckonSums_69 fl_BA_64 hg (by decide) sh_1 (by decide) rfl (by decide) lk_1_15 (by decide) ?_
            refine am_iload (j := 0) d_BA_reckonSums_72 rfl ?_
            refine am_dup2 d_BA_reckonSums_74 rfl rfl ?_
            obtain ⟨hv, h⟩ := h
            refine am_iald d_BA_reckonSums_75 (by decide) sh_19 hv ?_
            refine am_aload_n (j := 4) d_BA_reckonSums_76 rfl rfl ?_
            refine am_getI d_BA_reckonSums_77 fl_BA_126 b1 t1 (by decide) rfl ?_
            refine am_iconst (v := (4 : Int32)) d_BA_reckonSums_80 (by decide) ?_
            refine aj_ne (F := am_oM) (tgt := 88) d_BA_reckonSums_81 (by decide) (fun c => ?_) (fun c => ?_)
            · have h := h.2 c
              refine am_aload_n (j := 1) d_BA_reckonSums_88 rfl rfl ?_
              refine am_getR (t := 8) d_BA_reckonSums_89 fl_BA_43 hg (by decide) sh_1 (by decide) rfl (by decide) lk_1_9 (by decide) ?_
              refine am_aload_n (j := 4) d_BA_reckonSums_92 rfl rfl ?_
              refine am_getI d_BA_reckonSums_93 fl_BA_135 b1 t1 (by decide) rfl ?_
              refine am_iload (j := 5) d_BA_reckonSums_96 rfl ?_
              refine am_aload_n (j := 4) d_BA_reckonSums_98 rfl rfl ?_
              refine am_getI d_BA_reckonSums_99 fl_BA_132 b1 t1 (by decide) rfl ?_
              obtain ⟨hc, h⟩ := h
              refine ak_VI (as := [.int (s x3 10), .int x4, .int (s x3 9)]) (rest := [.int (s 19 ((f_RO_get s 8 (s x3 10) x4 (s x3 8))).toNatClampNeg), .int (f_RO_get s 8 (s x3 10) x4 (s x3 8)), .ref 19]) d_BA_reckonSums_102 cw_BA_reckonSums_102 rfl rfl rfl (ct_RO_get hg hc) rfl rfl (by decide) sh_8 rfl (Nat.le_of_ble_eq_true rfl) (by decide) (by decide) ?_
              refine ak_SNI (as := [.int (f_RO_get s 8 (s x3 10) x4 (s x3 9))]) (rest := [.int (s 19 ((f_RO_get s 8 (s x3 10) x4 (s x3 8))).toNatClampNeg), .int (f_RO_get s 8 (s x3 10) x4 (s x3 8)), .ref 19]) d_BA_reckonSums_105 cw_BA_reckonSums_105 rfl rfl rfl (ct_CB_orZero hg) rfl rfl (Nat.le_of_ble_eq_true rfl) (by decide) (by decide) ?_
              refine am_sub [1, 2, 3, 4, 5, 0] (lv2 := [(0, .ref 1), (1, .int x1), (2, .int x2), (3, .ref x3), (4, .int x4), (5, .int (f_RO_get s 8 (s x3 10) x4 (s x3 8)))]) rfl ?_
              exact w_BA_reckonSums_108 hg hK11 h
            · have h := h.1 c
              refine am_iconst (v := (1 : Int32)) d_BA_reckonSums_84 (by decide) ?_
              refine am_goto (tgt := 108) d_BA_reckonSums_85 (by decide) ?_
              refine am_sub [1, 2, 3, 4, 5, 0] (lv2 := [(0, .ref 1), (1, .int x1), (2, .int x2), (3, .ref x3), (4, .int x4), (5, .int (f_RO_get s 8 (s x3 10) x4 (s x3 8)))]) rfl ?_
              exact w_BA_reckonSums_108 hg hK11 h
def f_BA_reckonSums  (s : am_M) (x1 : Int32) (x2 : Int32) (x3 : Nat) : am_M := (f_BA_reckonSums_11 am_F (f_JF_fill s 19 (0 : Int32)) x3 x1 x2 (0 : Int32))
def p_BA_reckonSums  (s : am_M) (x1 : Int32) (x2 : Int32) (x3 : Nat) : Prop := p_JF_fill s 19 (0 : Int32) ∧ ((p_BA_reckonSums_11 am_F (f_JF_fill s 19 (0 : Int32)) x3 x1 x2 (0 : Int32)))
set_option maxRecDepth 8000 in
theorem w_BA_reckonSums {l : Launch} {g : am_Gl} (hg : g.2.2.2.1 = true) {ad0 : Nat → Nat} {s : am_M} {x1 : Int32} {x2 : Int32} {x3 : Nat} (h : p_BA_reckonSums s x1 x2 x3) : AW l g m_BA_reckonSums 207 ad0 (am_oM (f_BA_reckonSums s x1 x2 x3)) 0 0 207 s 0 [(0, .ref 1), (1, .int x1), (2, .int x2), (3, .ref x3)] [] := by
  refine am_aload_n (j := 0) d_BA_reckonSums_0 rfl rfl ?_
  refine am_getR (t := 19) d_BA_reckonSums_1 fl_BA_64 hg (by decide) sh_1 (by decide) rfl (by decide) lk_1_15 (by decide) ?_
  refine am_iconst (v := (0 : Int32)) d_BA_reckonSums_4 (by decide) ?_
  obtain ⟨hc, h⟩ := h
  refine ak_SM (as := [.ref 19, .int (0 : Int32)]) (rest := []) d_BA_reckonSums_5 cw_BA_reckonSums_5 rfl rfl rfl (ct_JF_fill hg hc) rfl rfl (Nat.le_of_ble_eq_true rfl) (by decide) (by decide) ?_
  refine am_iconst (v := (0 : Int32)) d_BA_reckonSums_8 (by decide) ?_
  refine am_istore (lv2 := [(4, .int (0 : Int32)), (0, .ref 1), (1, .int x1), (2, .int x2), (3, .ref x3)]) d_BA_reckonSums_9 (by decide) rfl ?_
  refine am_sub [1, 2, 3, 4, 0] (lv2 := [(0, .ref 1), (1, .int x1), (2, .int x2), (3, .ref x3), (4, .int (0 : Int32))]) rfl ?_
  exact w_BA_reckonSums_11 hg am_F _ _ _ _ _ h
theorem ct_BA_reckonSums {l : Launch} {g : am_Gl} (hg : g.2.2.2.1 = true) {s : am_M} {x1 : Int32} {x2 : Int32} {x3 : Nat} (h : p_BA_reckonSums s x1 x2 x3) : AC l g m_BA_reckonSums 207 s [.ref 1, .int x1, .int x2, .ref x3] (am_oM (f_BA_reckonSums s x1 x2 x3)) := am_enter ok_BA_reckonSums rfl (Nat.le_of_ble_eq_true rfl) rfl (fun ad0 => w_BA_reckonSums hg h)
theorem cw_BA_reckonCell_10 : am_cv m_BA_reckonCell m_RO_get 159 3 := ⟨⟨ok_RO_get, rfl, by decide +kernel, by decide, by decide⟩, aw_2_179, aw_2_180, aw_2_181⟩
theorem cw_BA_reckonCell_82 : am_cv m_BA_reckonCell m_RO_get 159 3 := ⟨⟨ok_RO_get, rfl, by decide +kernel, by decide, by decide⟩, aw_2_179, aw_2_180, aw_2_181⟩
theorem cw_BA_reckonCell_128 : am_sn m_BA_reckonCell m_CB_limited 217 1 := ⟨⟨ok_CB_limited, rfl, by decide +kernel, by decide, by decide⟩, by decide +kernel, aw_2_191⟩
theorem cw_BA_reckonCell_29 : am_cv m_BA_reckonCell m_BA_column 79 2 := ⟨⟨ok_BA_column, rfl, by decide +kernel, by decide, by decide⟩, aw_2_93, aw_2_94, aw_2_95⟩
theorem cw_BA_reckonCell_45 : am_cv m_BA_reckonCell m_RO_has 155 2 := ⟨⟨ok_RO_has, rfl, by decide +kernel, by decide, by decide⟩, aw_2_183, aw_2_184, aw_2_185⟩
theorem cw_BA_reckonCell_63 : am_cv m_BA_reckonCell m_RO_get 159 3 := ⟨⟨ok_RO_get, rfl, by decide +kernel, by decide, by decide⟩, aw_2_179, aw_2_180, aw_2_181⟩
def f_BA_reckonCell  (s : am_M) (x1 : Int32) (x2 : Int32) (x3 : Nat) : Int32 := (if (s x3 7) = (2 : Int32) then (if (f_RO_has s 8 (s (f_BA_column s x1 (s x3 8)) 3) (f_RO_get s 8 x1 x2 (s x3 8))) = 0 then (-1000000 : Int32) else (f_RO_get s 8 (s (f_BA_column s x1 (s x3 8)) 3) (f_RO_get s 8 x1 x2 (s x3 8)) (s x3 9))) else (if (f_RO_get s 8 x1 x2 (s x3 8)) = (-1000000 : Int32) then (-1000000 : Int32) else (if (f_RO_get s 8 x1 x2 (s x3 9)) = (-1000000 : Int32) then (-1000000 : Int32) else (if (s x3 7) = 0 then (f_CB_limited s ((f_RO_get s 8 x1 x2 (s x3 8)).toInt64 + (f_RO_get s 8 x1 x2 (s x3 9)).toInt64)) else (f_CB_limited s ((f_RO_get s 8 x1 x2 (s x3 8)).toInt64 * (f_RO_get s 8 x1 x2 (s x3 9)).toInt64))))))
def p_BA_reckonCell  (s : am_M) (x1 : Int32) (x2 : Int32) (x3 : Nat) : Prop := (x3 < 207 ∧ am_sh x3 = (0, 3, 11)) ∧ (p_RO_get s 8 x1 x2 (s x3 8) ∧ ((((s x3 7) = (2 : Int32)) → p_BA_column s x1 (s x3 8) ∧ (((f_BA_column s x1 (s x3 8)) < 207 ∧ am_sh (f_BA_column s x1 (s x3 8)) = (0, 3, 11)) ∧ (p_RO_has s 8 (s (f_BA_column s x1 (s x3 8)) 3) (f_RO_get s 8 x1 x2 (s x3 8)) ∧ ((((f_RO_has s 8 (s (f_BA_column s x1 (s x3 8)) 3) (f_RO_get s 8 x1 x2 (s x3 8))) = 0) → True) ∧ (¬ ((f_RO_has s 8 (s (f_BA_column s x1 (s x3 8)) 3) (f_RO_get s 8 x1 x2 (s x3 8))) = 0) → p_RO_get s 8 (s (f_BA_column s x1 (s x3 8)) 3) (f_RO_get s 8 x1 x2 (s x3 8)) (s x3 9) ∧ (True)))))) ∧ (¬ ((s x3 7) = (2 : Int32)) → p_RO_get s 8 x1 x2 (s x3 9) ∧ ((((f_RO_get s 8 x1 x2 (s x3 8)) = (-1000000 : Int32)) → True) ∧ (¬ ((f_RO_get s 8 x1 x2 (s x3 8)) = (-1000000 : Int32)) → (((f_RO_get s 8 x1 x2 (s x3 9)) = (-1000000 : Int32)) → True) ∧ (¬ ((f_RO_get s 8 x1 x2 (s x3 9)) = (-1000000 : Int32)) → (((s x3 7) = 0) → True) ∧ (¬ ((s x3 7) = 0) → True)))))))
set_option maxRecDepth 8000 in
theorem w_BA_reckonCell {l : Launch} {g : am_Gl} (hg : g.2.2.2.1 = true) {ad0 : Nat → Nat} {s : am_M} {x1 : Int32} {x2 : Int32} {x3 : Nat} (h : p_BA_reckonCell s x1 x2 x3) : AW l g m_BA_reckonCell 207 ad0 ((am_oI s) (f_BA_reckonCell s x1 x2 x3)) 0 0 207 s 0 [(0, .ref 1), (1, .int x1), (2, .int x2), (3, .ref x3)] [] := by
  refine am_aload_n (j := 0) d_BA_reckonCell_0 rfl rfl ?_
  refine am_getR (t := 8) d_BA_reckonCell_1 fl_BA_43 hg (by decide) sh_1 (by decide) rfl (by decide) lk_1_9 (by decide) ?_
  refine am_iload_n (j := 1) d_BA_reckonCell_4 rfl rfl ?_
  refine am_iload_n (j := 2) d_BA_reckonCell_5 rfl rfl ?_
  refine am_aload_n (j := 3) d_BA_reckonCell_6 rfl rfl ?_
  obtain ⟨⟨b1, t1⟩, h⟩ := h
  refine am_getI d_BA_reckonCell_7 fl_BA_129 b1 t1 (by decide) rfl ?_
  obtain ⟨hc, h⟩ := h
  refine ak_VI (as := [.int x1, .int x2, .int (s x3 8)]) (rest := []) d_BA_reckonCell_10 cw_BA_reckonCell_10 rfl rfl rfl (ct_RO_get hg hc) rfl rfl (by decide) sh_8 rfl (Nat.le_of_ble_eq_true rfl) (by decide) (by decide) ?_
  refine am_istore (lv2 := [(4, .int (f_RO_get s 8 x1 x2 (s x3 8))), (0, .ref 1), (1, .int x1), (2, .int x2), (3, .ref x3)]) d_BA_reckonCell_13 (by decide) rfl ?_
  refine am_aload_n (j := 4) d_BA_reckonCell_15 rfl rfl ?_
  refine am_getI d_BA_reckonCell_16 fl_BA_126 b1 t1 (by decide) rfl ?_
  refine am_iconst (v := (2 : Int32)) d_BA_reckonCell_19 (by decide) ?_
  refine aj_ne (F := (am_oI s)) (tgt := 72) d_BA_reckonCell_20 (by decide) (fun c => ?_) (fun c => ?_)
  · have h := h.2 c
    refine am_aload_n (j := 1) d_BA_reckonCell_72 rfl rfl ?_
    refine am_getR (t := 8) d_BA_reckonCell_73 fl_BA_43 hg (by decide) sh_1 (by decide) rfl (by decide) lk_1_9 (by decide) ?_
    refine am_iload_n (j := 2) d_BA_reckonCell_76 rfl rfl ?_
    refine am_iload_n (j := 3) d_BA_reckonCell_77 rfl rfl ?_
    refine am_aload_n (j := 4) d_BA_reckonCell_78 rfl rfl ?_
    refine am_getI d_BA_reckonCell_79 fl_BA_132 b1 t1 (by decide) rfl ?_
    obtain ⟨hc, h⟩ := h
    refine ak_VI (as := [.int x1, .int x2, .int (s x3 9)]) (rest := []) d_BA_reckonCell_82 cw_BA_reckonCell_82 rfl rfl rfl (ct_RO_get hg hc) rfl rfl (by decide) sh_8 rfl (Nat.le_of_ble_eq_true rfl) (by decide) (by decide) ?_
    refine am_istore (lv2 := [(5, .int (f_RO_get s 8 x1 x2 (s x3 9))), (4, .int (f_RO_get s 8 x1 x2 (s x3 8))), (0, .ref 1), (1, .int x1), (2, .int x2), (3, .ref x3)]) d_BA_reckonCell_85 (by decide) rfl ?_
    refine am_iload (j := 1) d_BA_reckonCell_87 rfl ?_
    refine am_ldc (v := (-1000000 : Int32)) d_BA_reckonCell_89 aw_2_161 ?_
    refine aj_eq (F := (am_oI s)) (tgt := 101) d_BA_reckonCell_91 (by decide) (fun c => ?_) (fun c => ?_)
    · have h := h.1 c
      refine am_ldc (v := (-1000000 : Int32)) d_BA_reckonCell_101 aw_2_161 ?_
      exact am_iret d_BA_reckonCell_103 rfl rfl (by decide) (by decide) am_oI_ok
    · have h := h.2 c
      refine am_iload (j := 0) d_BA_reckonCell_94 rfl ?_
      refine am_ldc (v := (-1000000 : Int32)) d_BA_reckonCell_96 aw_2_161 ?_
      refine aj_ne (F := (am_oI s)) (tgt := 104) d_BA_reckonCell_98 (by decide) (fun c => ?_) (fun c => ?_)
      · have h := h.2 c
        refine am_aload_n (j := 5) d_BA_reckonCell_104 rfl rfl ?_
        refine am_getI d_BA_reckonCell_105 fl_BA_126 b1 t1 (by decide) rfl ?_
        refine ai_ne (F := (am_oI s)) (tgt := 121) d_BA_reckonCell_108 (by decide) (fun c => ?_) (fun c => ?_)
        · have h := h.2 c
          refine am_iload (j := 1) d_BA_reckonCell_121 rfl ?_
          refine am_i2l d_BA_reckonCell_123 ?_
          refine am_iload (j := 0) d_BA_reckonCell_124 rfl ?_
          refine am_i2l d_BA_reckonCell_126 ?_
          refine am_lmul d_BA_reckonCell_127 ?_
          refine ak_SNI (as := [.long ((f_RO_get s 8 x1 x2 (s x3 8)).toInt64 * (f_RO_get s 8 x1 x2 (s x3 9)).toInt64)]) (rest := []) d_BA_reckonCell_128 cw_BA_reckonCell_128 rfl rfl rfl (ct_CB_limited hg) rfl rfl (Nat.le_of_ble_eq_true rfl) (by decide) (by decide) ?_
          exact am_iret d_BA_reckonCell_131 rfl rfl (by decide) (by decide) am_oI_ok
        · have h := h.1 c
          refine am_iload (j := 1) d_BA_reckonCell_111 rfl ?_
          refine am_i2l d_BA_reckonCell_113 ?_
          refine am_iload (j := 0) d_BA_reckonCell_114 rfl ?_
          refine am_i2l d_BA_reckonCell_116 ?_
          refine am_ladd d_BA_reckonCell_117 ?_
          refine am_goto (tgt := 128) d_BA_reckonCell_118 (by decide) ?_
          refine ak_SNI (as := [.long ((f_RO_get s 8 x1 x2 (s x3 8)).toInt64 + (f_RO_get s 8 x1 x2 (s x3 9)).toInt64)]) (rest := []) d_BA_reckonCell_128 cw_BA_reckonCell_128 rfl rfl rfl (ct_CB_limited hg) rfl rfl (Nat.le_of_ble_eq_true rfl) (by decide) (by decide) ?_
          exact am_iret d_BA_reckonCell_131 rfl rfl (by decide) (by decide) am_oI_ok
      · have h := h.1 c
        refine am_ldc (v := (-1000000 : Int32)) d_BA_reckonCell_101 aw_2_161 ?_
        exact am_iret d_BA_reckonCell_103 rfl rfl (by decide) (by decide) am_oI_ok
  · have h := h.1 c
    refine am_aload_n (j := 1) d_BA_reckonCell_23 rfl rfl ?_
    refine am_iload_n (j := 2) d_BA_reckonCell_24 rfl rfl ?_
    refine am_aload_n (j := 4) d_BA_reckonCell_25 rfl rfl ?_
    refine am_getI d_BA_reckonCell_26 fl_BA_129 b1 t1 (by decide) rfl ?_
    obtain ⟨hc, h⟩ := h
    refine ak_VR (as := [.int x1, .int (s x3 8)]) (rest := []) d_BA_reckonCell_29 cw_BA_reckonCell_29 rfl rfl rfl (ct_BA_column hg hc) rfl rfl (by decide) sh_1 rfl (Nat.le_of_ble_eq_true rfl) (by decide) (by decide) ?_
    obtain ⟨⟨b2, t2⟩, h⟩ := h
    refine am_getI d_BA_reckonCell_32 fl_BA_111 b2 t2 (by decide) rfl ?_
    refine am_istore (lv2 := [(5, .int (s (f_BA_column s x1 (s x3 8)) 3)), (4, .int (f_RO_get s 8 x1 x2 (s x3 8))), (0, .ref 1), (1, .int x1), (2, .int x2), (3, .ref x3)]) d_BA_reckonCell_35 (by decide) rfl ?_
    refine am_aload_n (j := 2) d_BA_reckonCell_37 rfl rfl ?_
    refine am_getR (t := 8) d_BA_reckonCell_38 fl_BA_43 hg (by decide) sh_1 (by decide) rfl (by decide) lk_1_9 (by decide) ?_
    refine am_iload (j := 0) d_BA_reckonCell_41 rfl ?_
    refine am_iload (j := 1) d_BA_reckonCell_43 rfl ?_
    obtain ⟨hc, h⟩ := h
    refine ak_VI (as := [.int (s (f_BA_column s x1 (s x3 8)) 3), .int (f_RO_get s 8 x1 x2 (s x3 8))]) (rest := []) d_BA_reckonCell_45 cw_BA_reckonCell_45 rfl rfl rfl (ct_RO_has hg hc) rfl rfl (by decide) sh_8 rfl (Nat.le_of_ble_eq_true rfl) (by decide) (by decide) ?_
    refine ai_eq (F := (am_oI s)) (tgt := 69) d_BA_reckonCell_48 (by decide) (fun c => ?_) (fun c => ?_)
    · have h := h.1 c
      refine am_ldc (v := (-1000000 : Int32)) d_BA_reckonCell_69 aw_2_161 ?_
      exact am_iret d_BA_reckonCell_71 rfl rfl (by decide) (by decide) am_oI_ok
    · have h := h.2 c
      refine am_aload_n (j := 2) d_BA_reckonCell_51 rfl rfl ?_
      refine am_getR (t := 8) d_BA_reckonCell_52 fl_BA_43 hg (by decide) sh_1 (by decide) rfl (by decide) lk_1_9 (by decide) ?_
      refine am_iload (j := 0) d_BA_reckonCell_55 rfl ?_
      refine am_iload (j := 1) d_BA_reckonCell_57 rfl ?_
      refine am_aload_n (j := 5) d_BA_reckonCell_59 rfl rfl ?_
      refine am_getI d_BA_reckonCell_60 fl_BA_132 b1 t1 (by decide) rfl ?_
      obtain ⟨hc, h⟩ := h
      refine ak_VI (as := [.int (s (f_BA_column s x1 (s x3 8)) 3), .int (f_RO_get s 8 x1 x2 (s x3 8)), .int (s x3 9)]) (rest := []) d_BA_reckonCell_63 cw_BA_reckonCell_63 rfl rfl rfl (ct_RO_get hg hc) rfl rfl (by decide) sh_8 rfl (Nat.le_of_ble_eq_true rfl) (by decide) (by decide) ?_
      refine am_goto (tgt := 71) d_BA_reckonCell_66 (by decide) ?_
      exact am_iret d_BA_reckonCell_71 rfl rfl (by decide) (by decide) am_oI_ok
theorem ct_BA_reckonCell {l : Launch} {g : am_Gl} (hg : g.2.2.2.1 = true) {s : am_M} {x1 : Int32} {x2 : Int32} {x3 : Nat} (h : p_BA_reckonCell s x1 x2 x3) : AC l g m_BA_reckonCell 207 s [.ref 1, .int x1, .int x2, .ref x3] ((am_oI s) (f_BA_reckonCell s x1 x2 x3)) := am_enter ok_BA_reckonCell rfl (Nat.le_of_ble_eq_true rfl) rfl (fun ad0 => w_BA_reckonCell hg h)
theorem cw_BA_reckon_42 : am_cv m_BA_reckon m_BA_column 79 2 := ⟨⟨ok_BA_column, rfl, by decide +kernel, by decide, by decide⟩, aw_2_93, aw_2_94, aw_2_95⟩
theorem cw_BA_reckon_70 : am_cv m_BA_reckon m_BA_reckonSums 209 3 := ⟨⟨ok_BA_reckonSums, rfl, by decide +kernel, by decide, by decide⟩, aw_2_174, aw_2_176, as_0_11⟩
theorem cw_BA_reckon_93 : am_cv m_BA_reckon m_RO_has 155 2 := ⟨⟨ok_RO_has, rfl, by decide +kernel, by decide, by decide⟩, aw_2_183, aw_2_184, aw_2_185⟩
theorem cw_BA_reckon_113 : am_cv m_BA_reckon m_BA_reckonCell 213 3 := ⟨⟨ok_BA_reckonCell, rfl, by decide +kernel, by decide, by decide⟩, aw_2_195, aw_2_197, as_0_12⟩
theorem cw_BA_reckon_116 : am_cv m_BA_reckon m_RO_set 166 4 := ⟨⟨ok_RO_set, rfl, by decide +kernel, by decide, by decide⟩, aw_2_162, aw_2_163, aw_2_164⟩
def f_BA_reckon_125 (K2 : am_M → Int32 → am_M) (s : am_M) (x1 : Int32) (x2 : Int32) (x3 : Int32) (x4 : Nat) : am_M := (K2 s (x1 + (1 : Int32)))
def p_BA_reckon_125 (KP2 : am_M → Int32 → Prop) (s : am_M) (x1 : Int32) (x2 : Int32) (x3 : Int32) (x4 : Nat) : Prop := (KP2 s (x1 + (1 : Int32)))
set_option maxRecDepth 8000 in
theorem w_BA_reckon_125 {l : Launch} {g : am_Gl} (hg : g.2.2.2.1 = true) {ad0 : Nat → Nat} {K2 : am_M → Int32 → am_M} {KP2 : am_M → Int32 → Prop} (hK2 : ∀ (s : am_M) (x1 : Int32), KP2 s x1 → AW l g m_BA_reckon 207 ad0 (am_oM (K2 s x1)) 0 0 207 s 2 [(0, .ref 1), (1, .int x1)] []) {s : am_M} {x1 : Int32} {x2 : Int32} {x3 : Int32} {x4 : Nat} (h : p_BA_reckon_125 KP2 s x1 x2 x3 x4) : AW l g m_BA_reckon 207 ad0 (am_oM (f_BA_reckon_125 K2 s x1 x2 x3 x4)) 0 0 207 s 125 [(0, .ref 1), (1, .int x1), (2, .int x2), (3, .int x3), (4, .ref x4)] [] := by
  refine am_iinc (j := 1) (v := (x1 + (1 : Int32))) (lv2 := [(1, .int (x1 + (1 : Int32))), (0, .ref 1), (2, .int x2), (3, .int x3), (4, .ref x4)]) d_BA_reckon_125 rfl rfl (by decide) rfl ?_
  refine am_goto (tgt := 2) d_BA_reckon_128 (by decide) ?_
  refine am_sub [1, 0] (lv2 := [(0, .ref 1), (1, .int (x1 + (1 : Int32)))]) rfl ?_
  exact hK2 _ _ h
def f_BA_reckon_65 (K2 : am_M → Int32 → am_M) (s : am_M) (x1 : Int32) (x2 : Int32) (x3 : Int32) (x4 : Nat) : am_M := (f_BA_reckon_125 K2 (f_BA_reckonSums s x2 x3 x4) x1 x2 x3 x4)
def p_BA_reckon_65 (KP2 : am_M → Int32 → Prop) (s : am_M) (x1 : Int32) (x2 : Int32) (x3 : Int32) (x4 : Nat) : Prop := p_BA_reckonSums s x2 x3 x4 ∧ ((p_BA_reckon_125 KP2 (f_BA_reckonSums s x2 x3 x4) x1 x2 x3 x4))
set_option maxRecDepth 8000 in
theorem w_BA_reckon_65 {l : Launch} {g : am_Gl} (hg : g.2.2.2.1 = true) {ad0 : Nat → Nat} {K2 : am_M → Int32 → am_M} {KP2 : am_M → Int32 → Prop} (hK2 : ∀ (s : am_M) (x1 : Int32), KP2 s x1 → AW l g m_BA_reckon 207 ad0 (am_oM (K2 s x1)) 0 0 207 s 2 [(0, .ref 1), (1, .int x1)] []) {s : am_M} {x1 : Int32} {x2 : Int32} {x3 : Int32} {x4 : Nat} (h : p_BA_reckon_65 KP2 s x1 x2 x3 x4) : AW l g m_BA_reckon 207 ad0 (am_oM (f_BA_reckon_65 K2 s x1 x2 x3 x4)) 0 0 207 s 65 [(0, .ref 1), (1, .int x1), (2, .int x2), (3, .int x3), (4, .ref x4)] [] := by
  refine am_aload_n (j := 0) d_BA_reckon_65 rfl rfl ?_
  refine am_iload_n (j := 2) d_BA_reckon_66 rfl rfl ?_
  refine am_iload_n (j := 3) d_BA_reckon_67 rfl rfl ?_
  refine am_aload (j := 4) d_BA_reckon_68 rfl ?_
  obtain ⟨hc, h⟩ := h
  refine ak_VM (as := [.int x2, .int x3, .ref x4]) (rest := []) d_BA_reckon_70 cw_BA_reckon_70 rfl rfl rfl (ct_BA_reckonSums hg hc) rfl rfl (by decide) sh_1 rfl (Nat.le_of_ble_eq_true rfl) (by decide) (by decide) ?_
  refine am_goto (tgt := 125) d_BA_reckon_73 (by decide) ?_
  exact w_BA_reckon_125 hg hK2 h
def f_BA_reckon_119 (K2 : am_M → Int32 → am_M) (K79 : am_M → Int32 → Int32 → Int32 → Nat → Int32 → am_M) (s : am_M) (x1 : Int32) (x2 : Int32) (x3 : Int32) (x4 : Nat) (x5 : Int32) : am_M := (K79 s x1 x2 x3 x4 (x5 + (1 : Int32)))
def p_BA_reckon_119 (KP2 : am_M → Int32 → Prop) (KP79 : am_M → Int32 → Int32 → Int32 → Nat → Int32 → Prop) (s : am_M) (x1 : Int32) (x2 : Int32) (x3 : Int32) (x4 : Nat) (x5 : Int32) : Prop := (KP79 s x1 x2 x3 x4 (x5 + (1 : Int32)))
set_option maxRecDepth 8000 in
theorem w_BA_reckon_119 {l : Launch} {g : am_Gl} (hg : g.2.2.2.1 = true) {ad0 : Nat → Nat} {K2 : am_M → Int32 → am_M} {KP2 : am_M → Int32 → Prop} {K79 : am_M → Int32 → Int32 → Int32 → Nat → Int32 → am_M} {KP79 : am_M → Int32 → Int32 → Int32 → Nat → Int32 → Prop} (hK2 : ∀ (s : am_M) (x1 : Int32), KP2 s x1 → AW l g m_BA_reckon 207 ad0 (am_oM (K2 s x1)) 0 0 207 s 2 [(0, .ref 1), (1, .int x1)] []) (hK79 : ∀ (s : am_M) (x1 : Int32) (x2 : Int32) (x3 : Int32) (x4 : Nat) (x5 : Int32), KP79 s x1 x2 x3 x4 x5 → AW l g m_BA_reckon 207 ad0 (am_oM (K79 s x1 x2 x3 x4 x5)) 0 0 207 s 79 [(0, .ref 1), (1, .int x1), (2, .int x2), (3, .int x3), (4, .ref x4), (5, .int x5)] []) {s : am_M} {x1 : Int32} {x2 : Int32} {x3 : Int32} {x4 : Nat} {x5 : Int32} (h : p_BA_reckon_119 KP2 KP79 s x1 x2 x3 x4 x5) : AW l g m_BA_reckon 207 ad0 (am_oM (f_BA_reckon_119 K2 K79 s x1 x2 x3 x4 x5)) 0 0 207 s 119 [(0, .ref 1), (1, .int x1), (2, .int x2), (3, .int x3), (4, .ref x4), (5, .int x5)] [] := by
  refine am_iinc (j := 5) (v := (x5 + (1 : Int32))) (lv2 := [(5, .int (x5 + (1 : Int32))), (0, .ref 1), (1, .int x1), (2, .int x2), (3, .int x3), (4, .ref x4)]) d_BA_reckon_119 rfl rfl (by decide) rfl ?_
  refine am_goto (tgt := 79) d_BA_reckon_122 (by decide) ?_
  refine am_sub [1, 2, 3, 4, 5, 0] (lv2 := [(0, .ref 1), (1, .int x1), (2, .int x2), (3, .int x3), (4, .ref x4), (5, .int (x5 + (1 : Int32)))]) rfl ?_
  exact hK79 _ _ _ _ _ _ h
def f_BA_reckon_79 (K2 : am_M → Int32 → am_M) : Nat → am_M → Int32 → Int32 → Int32 → Nat → Int32 → am_M
  | 0, s, x1, x2, x3, x4, x5 => s
  | n + 1, s, x1, x2, x3, x4, x5 => (if (30 : Int32) ≤ x5 then (f_BA_reckon_125 K2 s x1 x2 x3 x4) else (if (f_RO_has s 8 x2 x5) = 0 then (f_BA_reckon_119 K2 (f_BA_reckon_79 K2 n) s x1 x2 x3 x4 x5) else (f_BA_reckon_119 K2 (f_BA_reckon_79 K2 n) (f_RO_set s 8 x2 x5 x3 (f_BA_reckonCell s x2 x5 x4)) x1 x2 x3 x4 x5)))
def p_BA_reckon_79 (KP2 : am_M → Int32 → Prop) : Nat → am_M → Int32 → Int32 → Int32 → Nat → Int32 → Prop
  | 0, s, x1, x2, x3, x4, x5 => False
  | n + 1, s, x1, x2, x3, x4, x5 => (((30 : Int32) ≤ x5) → (p_BA_reckon_125 KP2 s x1 x2 x3 x4)) ∧ (¬ ((30 : Int32) ≤ x5) → p_RO_has s 8 x2 x5 ∧ ((((f_RO_has s 8 x2 x5) = 0) → (p_BA_reckon_119 KP2 (p_BA_reckon_79 KP2 n) s x1 x2 x3 x4 x5)) ∧ (¬ ((f_RO_has s 8 x2 x5) = 0) → p_BA_reckonCell s x2 x5 x4 ∧ (p_RO_set s 8 x2 x5 x3 (f_BA_reckonCell s x2 x5 x4) ∧ ((p_BA_reckon_119 KP2 (p_BA_reckon_79 KP2 n) (f_RO_set s 8 x2 x5 x3 (f_BA_reckonCell s x2 x5 x4)) x1 x2 x3 x4 x5))))))
set_option maxRecDepth 8000 in
theorem w_BA_reckon_79 {l : Launch} {g : am_Gl} (hg : g.2.2.2.1 = true) {ad0 : Nat → Nat} {K2 : am_M → Int32 → am_M} {KP2 : am_M → Int32 → Prop}  (hK2 : ∀ (s : am_M) (x1 : Int32), KP2 s x1 → AW l g m_BA_reckon 207 ad0 (am_oM (K2 s x1)) 0 0 207 s 2 [(0, .ref 1), (1, .int x1)] []) : ∀ (n : Nat) (s : am_M) (x1 : Int32) (x2 : Int32) (x3 : Int32) (x4 : Nat) (x5 : Int32), p_BA_reckon_79 KP2 n s x1 x2 x3 x4 x5 → AW l g m_BA_reckon 207 ad0 (am_oM (f_BA_reckon_79 K2 n s x1 x2 x3 x4 x5)) 0 0 207 s 79 [(0, .ref 1), (1, .int x1), (2, .int x2), (3, .int x3), (4, .ref x4), (5, .int x5)] [] := by
  intro n
  induction n with
  | zero => intro s x1 x2 x3 x4 x5 h; exact h.elim
  | succ n hK79 =>
    intro s x1 x2 x3 x4 x5 h
    refine am_iload (j := 5) d_BA_reckon_79 rfl ?_
    refine am_bipush (v := (30 : Int32)) d_BA_reckon_81 (by decide) ?_
    refine aj_ge (F := am_oM) (tgt := 125) d_BA_reckon_83 (by decide) (fun c => ?_) (fun c => ?_)
    · have h := h.1 c
      refine am_sub [0, 1, 2, 3, 4] (lv2 := [(0, .ref 1), (1, .int x1), (2, .int x2), (3, .int x3), (4, .ref x4)]) rfl ?_
      exact w_BA_reckon_125 hg hK2 h
    · have h := h.2 c
      refine am_aload_n (j := 0) d_BA_reckon_86 rfl rfl ?_
      refine am_getR (t := 8) d_BA_reckon_87 fl_BA_43 hg (by decide) sh_1 (by decide) rfl (by decide) lk_1_9 (by decide) ?_
      refine am_iload_n (j := 2) d_BA_reckon_90 rfl rfl ?_
      refine am_iload (j := 5) d_BA_reckon_91 rfl ?_
      obtain ⟨hc, h⟩ := h
      refine ak_VI (as := [.int x2, .int x5]) (rest := []) d_BA_reckon_93 cw_BA_reckon_93 rfl rfl rfl (ct_RO_has hg hc) rfl rfl (by decide) sh_8 rfl (Nat.le_of_ble_eq_true rfl) (by decide) (by decide) ?_
      refine ai_eq (F := am_oM) (tgt := 119) d_BA_reckon_96 (by decide) (fun c => ?_) (fun c => ?_)
      · have h := h.1 c
        exact w_BA_reckon_119 hg hK2 hK79 h
      · have h := h.2 c
        refine am_aload_n (j := 0) d_BA_reckon_99 rfl rfl ?_
        refine am_getR (t := 8) d_BA_reckon_100 fl_BA_43 hg (by decide) sh_1 (by decide) rfl (by decide) lk_1_9 (by decide) ?_
        refine am_iload_n (j := 2) d_BA_reckon_103 rfl rfl ?_
        refine am_iload (j := 5) d_BA_reckon_104 rfl ?_
        refine am_iload_n (j := 3) d_BA_reckon_106 rfl rfl ?_
        refine am_aload_n (j := 0) d_BA_reckon_107 rfl rfl ?_
        refine am_iload_n (j := 2) d_BA_reckon_108 rfl rfl ?_
        refine am_iload (j := 5) d_BA_reckon_109 rfl ?_
        refine am_aload (j := 4) d_BA_reckon_111 rfl ?_
        obtain ⟨hc, h⟩ := h
        refine ak_VI (as := [.int x2, .int x5, .ref x4]) (rest := [.int x3, .int x5, .int x2, .ref 8]) d_BA_reckon_113 cw_BA_reckon_113 rfl rfl rfl (ct_BA_reckonCell hg hc) rfl rfl (by decide) sh_1 rfl (Nat.le_of_ble_eq_true rfl) (by decide) (by decide) ?_
        obtain ⟨hc, h⟩ := h
        refine ak_VM (as := [.int x2, .int x5, .int x3, .int (f_BA_reckonCell s x2 x5 x4)]) (rest := []) d_BA_reckon_116 cw_BA_reckon_116 rfl rfl rfl (ct_RO_set hg hc) rfl rfl (by decide) sh_8 rfl (Nat.le_of_ble_eq_true rfl) (by decide) (by decide) ?_
        exact w_BA_reckon_119 hg hK2 hK79 h
def f_BA_reckon_2  : Nat → am_M → Int32 → am_M
  | 0, s, x1 => s
  | n + 1, s, x1 => (if (s 1 8) ≤ x1 then s else (if (24 : Int32) ≤ x1 then s else (if (s (f_BA_column s ((s 7 (x1).toNatClampNeg) / (10 : Int32)) ((s 7 (x1).toNatClampNeg) - (s 7 (x1).toNatClampNeg) / (10 : Int32) * (10 : Int32))) 7) = (3 : Int32) then (f_BA_reckon_65 (f_BA_reckon_2  n) s x1 ((s 7 (x1).toNatClampNeg) / (10 : Int32)) ((s 7 (x1).toNatClampNeg) - (s 7 (x1).toNatClampNeg) / (10 : Int32) * (10 : Int32)) (f_BA_column s ((s 7 (x1).toNatClampNeg) / (10 : Int32)) ((s 7 (x1).toNatClampNeg) - (s 7 (x1).toNatClampNeg) / (10 : Int32) * (10 : Int32)))) else (if (s (f_BA_column s ((s 7 (x1).toNatClampNeg) / (10 : Int32)) ((s 7 (x1).toNatClampNeg) - (s 7 (x1).toNatClampNeg) / (10 : Int32) * (10 : Int32))) 7) = (4 : Int32) then (f_BA_reckon_65 (f_BA_reckon_2  n) s x1 ((s 7 (x1).toNatClampNeg) / (10 : Int32)) ((s 7 (x1).toNatClampNeg) - (s 7 (x1).toNatClampNeg) / (10 : Int32) * (10 : Int32)) (f_BA_column s ((s 7 (x1).toNatClampNeg) / (10 : Int32)) ((s 7 (x1).toNatClampNeg) - (s 7 (x1).toNatClampNeg) / (10 : Int32) * (10 : Int32)))) else (f_BA_reckon_79 (f_BA_reckon_2  n) am_F s x1 ((s 7 (x1).toNatClampNeg) / (10 : Int32)) ((s 7 (x1).toNatClampNeg) - (s 7 (x1).toNatClampNeg) / (10 : Int32) * (10 : Int32)) (f_BA_column s ((s 7 (x1).toNatClampNeg) / (10 : Int32)) ((s 7 (x1).toNatClampNeg) - (s 7 (x1).toNatClampNeg) / (10 : Int32) * (10 : Int32))) (0 : Int32))))))
def p_BA_reckon_2  : Nat → am_M → Int32 → Prop
  | 0, s, x1 => False
  | n + 1, s, x1 => (((s 1 8) ≤ x1) → True) ∧ (¬ ((s 1 8) ≤ x1) → (((24 : Int32) ≤ x1) → True) ∧ (¬ ((24 : Int32) ≤ x1) → vp_in x1 24 ∧ (vp_in x1 24 ∧ (p_BA_column s ((s 7 (x1).toNatClampNeg) / (10 : Int32)) ((s 7 (x1).toNatClampNeg) - (s 7 (x1).toNatClampNeg) / (10 : Int32) * (10 : Int32)) ∧ (((f_BA_column s ((s 7 (x1).toNatClampNeg) / (10 : Int32)) ((s 7 (x1).toNatClampNeg) - (s 7 (x1).toNatClampNeg) / (10 : Int32) * (10 : Int32))) < 207 ∧ am_sh (f_BA_column s ((s 7 (x1).toNatClampNeg) / (10 : Int32)) ((s 7 (x1).toNatClampNeg) - (s 7 (x1).toNatClampNeg) / (10 : Int32) * (10 : Int32))) = (0, 3, 11)) ∧ ((((s (f_BA_column s ((s 7 (x1).toNatClampNeg) / (10 : Int32)) ((s 7 (x1).toNatClampNeg) - (s 7 (x1).toNatClampNeg) / (10 : Int32) * (10 : Int32))) 7) = (3 : Int32)) → (p_BA_reckon_65 (p_BA_reckon_2  n) s x1 ((s 7 (x1).toNatClampNeg) / (10 : Int32)) ((s 7 (x1).toNatClampNeg) - (s 7 (x1).toNatClampNeg) / (10 : Int32) * (10 : Int32)) (f_BA_column s ((s 7 (x1).toNatClampNeg) / (10 : Int32)) ((s 7 (x1).toNatClampNeg) - (s 7 (x1).toNatClampNeg) / (10 : Int32) * (10 : Int32))))) ∧ (¬ ((s (f_BA_column s ((s 7 (x1).toNatClampNeg) / (10 : Int32)) ((s 7 (x1).toNatClampNeg) - (s 7 (x1).toNatClampNeg) / (10 : Int32) * (10 : Int32))) 7) = (3 : Int32)) → (((s (f_BA_column s ((s 7 (x1).toNatClampNeg) / (10 : Int32)) ((s 7 (x1).toNatClampNeg) - (s 7 (x1).toNatClampNeg) / (10 : Int32) * (10 : Int32))) 7) = (4 : Int32)) → (p_BA_reckon_65 (p_BA_reckon_2  n) s x1 ((s 7 (x1).toNatClampNeg) / (10 : Int32)) ((s 7 (x1).toNatClampNeg) - (s 7 (x1).toNatClampNeg) / (10 : Int32) * (10 : Int32)) (f_BA_column s ((s 7 (x1).toNatClampNeg) / (10 : Int32)) ((s 7 (x1).toNatClampNeg) - (s 7 (x1).toNatClampNeg) / (10 : Int32) * (10 : Int32))))) ∧ (¬ ((s (f_BA_column s ((s 7 (x1).toNatClampNeg) / (10 : Int32)) ((s 7 (x1).toNatClampNeg) - (s 7 (x1).toNatClampNeg) / (10 : Int32) * (10 : Int32))) 7) = (4 : Int32)) → (p_BA_reckon_79 (p_BA_reckon_2  n) am_F s x1 ((s 7 (x1).toNatClampNeg) / (10 : Int32)) ((s 7 (x1).toNatClampNeg) - (s 7 (x1).toNatClampNeg) / (10 : Int32) * (10 : Int32)) (f_BA_column s ((s 7 (x1).toNatClampNeg) / (10 : Int32)) ((s 7 (x1).toNatClampNeg) - (s 7 (x1).toNatClampNeg) / (10 : Int32) * (10 : Int32))) (0 : Int32))))))))))
set_option maxRecDepth 8000 in
theorem w_BA_reckon_2 {l : Launch} {g : am_Gl} (hg : g.2.2.2.1 = true) {ad0 : Nat → Nat}   : ∀ (n : Nat) (s : am_M) (x1 : Int32), p_BA_reckon_2  n s x1 → AW l g m_BA_reckon 207 ad0 (am_oM (f_BA_reckon_2  n s x1)) 0 0 207 s 2 [(0, .ref 1), (1, .int x1)] [] := by
  intro n
  induction n with
  | zero => intro s x1 h; exact h.elim
  | succ n hK2 =>
    intro s x1 h
    refine am_iload_n (j := 1) d_BA_reckon_2 rfl rfl ?_
    refine am_aload_n (j := 0) d_BA_reckon_3 rfl rfl ?_
    refine am_getI d_BA_reckon_4 fl_BA_195 (by decide) sh_1 (by decide) rfl ?_
    refine aj_ge (F := am_oM) (tgt := 131) d_BA_reckon_7 (by decide) (fun c => ?_) (fun c => ?_)
    · have h := h.1 c
      exact am_vret d_BA_reckon_131 rfl (by decide) (by decide) am_oM_ok
    · have h := h.2 c
      refine am_iload_n (j := 1) d_BA_reckon_10 rfl rfl ?_
      refine am_aload_n (j := 0) d_BA_reckon_11 rfl rfl ?_
      refine am_getR (t := 7) d_BA_reckon_12 fl_BA_37 hg (by decide) sh_1 (by decide) rfl (by decide) lk_1_7 (by decide) ?_
      refine am_alen (v := (24 : Int32)) d_BA_reckon_15 (by decide) sh_7 (by decide) (by decide) ?_
      refine aj_ge (F := am_oM) (tgt := 131) d_BA_reckon_16 (by decide) (fun c => ?_) (fun c => ?_)
      · have h := h.1 c
        exact am_vret d_BA_reckon_131 rfl (by decide) (by decide) am_oM_ok
      · have h := h.2 c
        refine am_aload_n (j := 0) d_BA_reckon_19 rfl rfl ?_
        refine am_getR (t := 7) d_BA_reckon_20 fl_BA_37 hg (by decide) sh_1 (by decide) rfl (by decide) lk_1_7 (by decide) ?_
        refine am_iload_n (j := 1) d_BA_reckon_23 rfl rfl ?_
        obtain ⟨hv, h⟩ := h
        refine am_iald d_BA_reckon_24 (by decide) sh_7 hv ?_
        refine am_bipush (v := (10 : Int32)) d_BA_reckon_25 (by decide) ?_
        refine am_idiv d_BA_reckon_27 (by decide) ?_
        refine am_istore_n (lv2 := [(2, .int ((s 7 (x1).toNatClampNeg) / (10 : Int32))), (0, .ref 1), (1, .int x1)]) d_BA_reckon_28 rfl (by decide) rfl ?_
        refine am_aload_n (j := 1) d_BA_reckon_29 rfl rfl ?_
        refine am_getR (t := 7) d_BA_reckon_30 fl_BA_37 hg (by decide) sh_1 (by decide) rfl (by decide) lk_1_7 (by decide) ?_
        refine am_iload_n (j := 2) d_BA_reckon_33 rfl rfl ?_
        obtain ⟨hv, h⟩ := h
        refine am_iald d_BA_reckon_34 (by decide) sh_7 hv ?_
        refine am_bipush (v := (10 : Int32)) d_BA_reckon_35 (by decide) ?_
        refine am_irem d_BA_reckon_37 (by decide) ?_
        refine am_istore_n (lv2 := [(3, .int ((s 7 (x1).toNatClampNeg) - (s 7 (x1).toNatClampNeg) / (10 : Int32) * (10 : Int32))), (2, .int ((s 7 (x1).toNatClampNeg) / (10 : Int32))), (0, .ref 1), (1, .int x1)]) d_BA_reckon_38 rfl (by decide) rfl ?_
        refine am_aload_n (j := 2) d_BA_reckon_39 rfl rfl ?_
        refine am_iload_n (j := 1) d_BA_reckon_40 rfl rfl ?_
        refine am_iload_n (j := 0) d_BA_reckon_41 rfl rfl ?_
        obtain ⟨hc, h⟩ := h
        refine ak_VR (as := [.int ((s 7 (x1).toNatClampNeg) / (10 : Int32)), .int ((s 7 (x1).toNatClampNeg) - (s 7 (x1).toNatClampNeg) / (10 : Int32) * (10 : Int32))]) (rest := []) d_BA_reckon_42 cw_BA_reckon_42 rfl rfl rfl (ct_BA_column hg hc) rfl rfl (by decide) sh_1 rfl (Nat.le_of_ble_eq_true rfl) (by decide) (by decide) ?_
        refine am_astore (lv2 := [(4, .ref (f_BA_column s ((s 7 (x1).toNatClampNeg) / (10 : Int32)) ((s 7 (x1).toNatClampNeg) - (s 7 (x1).toNatClampNeg) / (10 : Int32) * (10 : Int32)))), (3, .int ((s 7 (x1).toNatClampNeg) - (s 7 (x1).toNatClampNeg) / (10 : Int32) * (10 : Int32))), (2, .int ((s 7 (x1).toNatClampNeg) / (10 : Int32))), (0, .ref 1), (1, .int x1)]) d_BA_reckon_45 (by decide) rfl ?_
        refine am_aload (j := 0) d_BA_reckon_47 rfl ?_
        obtain ⟨⟨b1, t1⟩, h⟩ := h
        refine am_getI d_BA_reckon_49 fl_BA_126 b1 t1 (by decide) rfl ?_
        refine am_iconst (v := (3 : Int32)) d_BA_reckon_52 (by decide) ?_
        refine aj_eq (F := am_oM) (tgt := 65) d_BA_reckon_53 (by decide) (fun c => ?_) (fun c => ?_)
        · have h := h.1 c
          refine am_sub [3, 4, 2, 1, 0] (lv2 := [(0, .ref 1), (1, .int x1), (2, .int ((s 7 (x1).toNatClampNeg) / (10 : Int32))), (3, .int ((s 7 (x1).toNatClampNeg) - (s 7 (x1).toNatClampNeg) / (10 : Int32) * (10 : Int32))), (4, .ref (f_BA_column s ((s 7 (x1).toNatClampNeg) / (10 : Int32)) ((s 7 (x1).toNatClampNeg) - (s 7 (x1).toNatClampNeg) / (10 : Int32) * (10 : Int32))))]) rfl ?_
          exact w_BA_reckon_65 hg hK2 h
        · have h := h.2 c
          refine am_aload (j := 0) d_BA_reckon_56 rfl ?_
          refine am_getI d_BA_reckon_58 fl_BA_126 b1 t1 (by decide) rfl ?_
          refine am_iconst (v := (4 : Int32)) d_BA_reckon_61 (by decide) ?_
          refine aj_ne (F := am_oM) (tgt := 76) d_BA_reckon_62 (by decide) (fun c => ?_) (fun c => ?_)
          · have h := h.2 c
            refine am_iconst (v := (0 : Int32)) d_BA_reckon_76 (by decide) ?_
            refine am_istore (lv2 := [(5, .int (0 : Int32)), (4, .ref (f_BA_column s ((s 7 (x1).toNatClampNeg) / (10 : Int32)) ((s 7 (x1).toNatClampNeg) - (s 7 (x1).toNatClampNeg) / (10 : Int32) * (10 : Int32)))), (3, .int ((s 7 (x1).toNatClampNeg) - (s 7 (x1).toNatClampNeg) / (10 : Int32) * (10 : Int32))), (2, .int ((s 7 (x1).toNatClampNeg) / (10 : Int32))), (0, .ref 1), (1, .int x1)]) d_BA_reckon_77 (by decide) rfl ?_
            refine am_sub [4, 5, 3, 2, 1, 0] (lv2 := [(0, .ref 1), (1, .int x1), (2, .int ((s 7 (x1).toNatClampNeg) / (10 : Int32))), (3, .int ((s 7 (x1).toNatClampNeg) - (s 7 (x1).toNatClampNeg) / (10 : Int32) * (10 : Int32))), (4, .ref (f_BA_column s ((s 7 (x1).toNatClampNeg) / (10 : Int32)) ((s 7 (x1).toNatClampNeg) - (s 7 (x1).toNatClampNeg) / (10 : Int32) * (10 : Int32)))), (5, .int (0 : Int32))]) rfl ?_
            exact w_BA_reckon_79 hg hK2 am_F _ _ _ _ _ _ h
          · have h := h.1 c
            refine am_sub [3, 4, 2, 1, 0] (lv2 := [(0, .ref 1), (1, .int x1), (2, .int ((s 7 (x1).toNatClampNeg) / (10 : Int32))), (3, .int ((s 7 (x1).toNatClampNeg) - (s 7 (x1).toNatClampNeg) / (10 : Int32) * (10 : Int32))), (4, .ref (f_BA_column s ((s 7 (x1).toNatClampNeg) / (10 : Int32)) ((s 7 (x1).toNatClampNeg) - (s 7 (x1).toNatClampNeg) / (10 : Int32) * (10 : Int32))))]) rfl ?_
            exact w_BA_reckon_65 hg hK2 h
def f_BA_reckon  (s : am_M)  : am_M := (f_BA_reckon_2 am_F s (0 : Int32))
def p_BA_reckon  (s : am_M)  : Prop := (p_BA_reckon_2 am_F s (0 : Int32))
set_option maxRecDepth 8000 in
theorem w_BA_reckon {l : Launch} {g : am_Gl} (hg : g.2.2.2.1 = true) {ad0 : Nat → Nat} {s : am_M}  (h : p_BA_reckon s ) : AW l g m_BA_reckon 207 ad0 (am_oM (f_BA_reckon s )) 0 0 207 s 0 [(0, .ref 1)] [] := by
  refine am_iconst (v := (0 : Int32)) d_BA_reckon_0 (by decide) ?_
  refine am_istore_n (lv2 := [(1, .int (0 : Int32)), (0, .ref 1)]) d_BA_reckon_1 rfl (by decide) rfl ?_
  refine am_sub [1, 0] (lv2 := [(0, .ref 1), (1, .int (0 : Int32))]) rfl ?_
  exact w_BA_reckon_2 hg am_F _ _ h
theorem ct_BA_reckon {l : Launch} {g : am_Gl} (hg : g.2.2.2.1 = true) {s : am_M}  (h : p_BA_reckon s ) : AC l g m_BA_reckon 207 s [.ref 1] (am_oM (f_BA_reckon s )) := am_enter ok_BA_reckon rfl (Nat.le_of_ble_eq_true rfl) rfl (fun ad0 => w_BA_reckon hg h)
def f_BA_widthOf  (s : am_M) (x1 : Int32) : Int32 := (if x1 < 0 then (0 : Int32) else (if x1 < (4 : Int32) then (s 4 (x1).toNatClampNeg) else (0 : Int32)))
def p_BA_widthOf  (s : am_M) (x1 : Int32) : Prop := ((x1 < 0) → True) ∧ (¬ (x1 < 0) → ((x1 < (4 : Int32)) → vp_in x1 4 ∧ (True)) ∧ (¬ (x1 < (4 : Int32)) → True))
set_option maxRecDepth 8000 in
theorem w_BA_widthOf {l : Launch} {g : am_Gl} (hg : g.2.2.2.1 = true) {ad0 : Nat → Nat} {s : am_M} {x1 : Int32} (h : p_BA_widthOf s x1) : AW l g m_BA_widthOf 207 ad0 ((am_oI s) (f_BA_widthOf s x1)) 0 0 207 s 0 [(0, .ref 1), (1, .int x1)] [] := by
  refine am_iload_n (j := 1) d_BA_widthOf_0 rfl rfl ?_
  refine ai_lt (F := (am_oI s)) (tgt := 9) d_BA_widthOf_1 (by decide) (fun c => ?_) (fun c => ?_)
  · have h := h.1 c
    refine am_iconst (v := (0 : Int32)) d_BA_widthOf_9 (by decide) ?_
    refine am_goto (tgt := 19) d_BA_widthOf_10 (by decide) ?_
    exact am_iret d_BA_widthOf_19 rfl rfl (by decide) (by decide) am_oI_ok
  · have h := h.2 c
    refine am_iload_n (j := 1) d_BA_widthOf_4 rfl rfl ?_
    refine am_iconst (v := (4 : Int32)) d_BA_widthOf_5 (by decide) ?_
    refine aj_lt (F := (am_oI s)) (tgt := 13) d_BA_widthOf_6 (by decide) (fun c => ?_) (fun c => ?_)
    · have h := h.1 c
      refine am_aload_n (j := 0) d_BA_widthOf_13 rfl rfl ?_
      refine am_getR (t := 4) d_BA_widthOf_14 fl_BA_22 hg (by decide) sh_1 (by decide) rfl (by decide) lk_1_2 (by decide) ?_
      refine am_iload_n (j := 1) d_BA_widthOf_17 rfl rfl ?_
      obtain ⟨hv, h⟩ := h
      refine am_iald d_BA_widthOf_18 (by decide) sh_4 hv ?_
      exact am_iret d_BA_widthOf_19 rfl rfl (by decide) (by decide) am_oI_ok
    · have h := h.2 c
      refine am_iconst (v := (0 : Int32)) d_BA_widthOf_9 (by decide) ?_
      refine am_goto (tgt := 19) d_BA_widthOf_10 (by decide) ?_
      exact am_iret d_BA_widthOf_19 rfl rfl (by decide) (by decide) am_oI_ok
theorem ct_BA_widthOf {l : Launch} {g : am_Gl} (hg : g.2.2.2.1 = true) {s : am_M} {x1 : Int32} (h : p_BA_widthOf s x1) : AC l g m_BA_widthOf 207 s [.ref 1, .int x1] ((am_oI s) (f_BA_widthOf s x1)) := am_enter ok_BA_widthOf rfl (Nat.le_of_ble_eq_true rfl) rfl (fun ad0 => w_BA_widthOf hg h)
def f_BA_isOutside  (s : am_M) (x1 : Int32) (x2 : Int32) (x3 : Int32) : Int32 := (if x1 = (-1000000 : Int32) then (0 : Int32) else (if x1 < x2 then (1 : Int32) else (if x1 ≤ x3 then (0 : Int32) else (1 : Int32))))
def p_BA_isOutside  (s : am_M) (x1 : Int32) (x2 : Int32) (x3 : Int32) : Prop := ((x1 = (-1000000 : Int32)) → True) ∧ (¬ (x1 = (-1000000 : Int32)) → ((x1 < x2) → True) ∧ (¬ (x1 < x2) → ((x1 ≤ x3) → True) ∧ (¬ (x1 ≤ x3) → True)))
set_option maxRecDepth 8000 in
theorem w_BA_isOutside {l : Launch} {g : am_Gl} (hg : g.2.2.2.1 = true) {ad0 : Nat → Nat} {s : am_M} {x1 : Int32} {x2 : Int32} {x3 : Int32} : AW l g m_BA_isOutside 207 ad0 ((am_oI s) (f_BA_isOutside s x1 x2 x3)) 0 0 207 s 0 [(0, .ref 1), (1, .int x1), (2, .int x2), (3, .int x3)] [] := by
  have h : p_BA_isOutside s x1 x2 x3 := by
    unfold p_BA_isOutside
    first | exact trivial | simp
  refine am_iload_n (j := 1) d_BA_isOutside_0 rfl rfl ?_
  refine am_ldc (v := (-1000000 : Int32)) d_BA_isOutside_1 aw_2_161 ?_
  refine aj_eq (F := (am_oI s)) (tgt := 20) d_BA_isOutside_3 (by decide) (fun c => ?_) (fun c => ?_)
  · have h := h.1 c
    refine am_iconst (v := (0 : Int32)) d_BA_isOutside_20 (by decide) ?_
    exact am_iret d_BA_isOutside_21 rfl (am_bool (Or.inl rfl)).1 (by decide) (by decide) am_oI_ok
  · have h := h.2 c
    refine am_iload_n (j := 1) d_BA_isOutside_6 rfl rfl ?_
    refine am_iload_n (j := 2) d_BA_isOutside_7 rfl rfl ?_
    refine aj_lt (F := (am_oI s)) (tgt := 16) d_BA_isOutside_8 (by decide) (fun c => ?_) (fun c => ?_)
    · have h := h.1 c
      refine am_iconst (v := (1 : Int32)) d_BA_isOutside_16 (by decide) ?_
      refine am_goto (tgt := 21) d_BA_isOutside_17 (by decide) ?_
      exact am_iret d_BA_isOutside_21 rfl (am_bool (Or.inr rfl)).1 (by decide) (by decide) am_oI_ok
    · have h := h.2 c
      refine am_iload_n (j := 1) d_BA_isOutside_11 rfl rfl ?_
      refine am_iload_n (j := 3) d_BA_isOutside_12 rfl rfl ?_
      refine aj_le (F := (am_oI s)) (tgt := 20) d_BA_isOutside_13 (by decide) (fun c => ?_) (fun c => ?_)
      · have h := h.1 c
        refine am_iconst (v := (0 : Int32)) d_BA_isOutside_20 (by decide) ?_
        exact am_iret d_BA_isOutside_21 rfl (am_bool (Or.inl rfl)).1 (by decide) (by decide) am_oI_ok
      · have h := h.2 c
        refine am_iconst (v := (1 : Int32)) d_BA_isOutside_16 (by decide) ?_
        refine am_goto (tgt := 21) d_BA_isOutside_17 (by decide) ?_
        exact am_iret d_BA_isOutside_21 rfl (am_bool (Or.inr rfl)).1 (by decide) (by decide) am_oI_ok
theorem ct_BA_isOutside {l : Launch} {g : am_Gl} (hg : g.2.2.2.1 = true) {s : am_M} {x1 : Int32} {x2 : Int32} {x3 : Int32} : AC l g m_BA_isOutside 207 s [.ref 1, .int x1, .int x2, .int x3] ((am_oI s) (f_BA_isOutside s x1 x2 x3)) := am_enter ok_BA_isOutside rfl (Nat.le_of_ble_eq_true rfl) rfl (fun ad0 => w_BA_isOutside hg)
theorem cw_BA_brokenInCell_3 : am_cv m_BA_brokenInCell m_BA_column 79 2 := ⟨⟨ok_BA_column, rfl, by decide +kernel, by decide, by decide⟩, aw_2_93, aw_2_94, aw_2_95⟩
theorem cw_BA_brokenInCell_15 : am_cv m_BA_brokenInCell m_RO_get 159 3 := ⟨⟨ok_RO_get, rfl, by decide +kernel, by decide, by decide⟩, aw_2_179, aw_2_180, aw_2_181⟩
theorem cw_BA_brokenInCell_45 : am_cv m_BA_brokenInCell m_BA_isOutside 163 3 := ⟨⟨ok_BA_isOutside, rfl, by decide +kernel, by decide, by decide⟩, aw_2_219, aw_2_221, as_0_14⟩
theorem cw_BA_brokenInCell_59 : am_cv m_BA_brokenInCell m_RE_setFirst 239 4 := ⟨⟨ok_RE_setFirst, rfl, by decide +kernel, by decide, by decide⟩, aw_2_223, aw_2_212, aw_2_213⟩
theorem cw_BA_brokenInCell_88 : am_cv m_BA_brokenInCell m_RE_setFirst 239 4 := ⟨⟨ok_RE_setFirst, rfl, by decide +kernel, by decide, by decide⟩, aw_2_223, aw_2_212, aw_2_213⟩
theorem cw_BA_brokenInCell_116 : am_cv m_BA_brokenInCell m_RO_repeats 242 3 := ⟨⟨ok_RO_repeats, rfl, by decide +kernel, by decide, by decide⟩, aw_2_224, aw_2_225, aw_2_226⟩
theorem cw_BA_brokenInCell_130 : am_cv m_BA_brokenInCell m_RE_setFirst 239 4 := ⟨⟨ok_RE_setFirst, rfl, by decide +kernel, by decide, by decide⟩, aw_2_223, aw_2_212, aw_2_213⟩
theorem cw_BA_brokenInCell_163 : am_cv m_BA_brokenInCell m_RO_has 155 2 := ⟨⟨ok_RO_has, rfl, by decide +kernel, by decide, by decide⟩, aw_2_183, aw_2_184, aw_2_185⟩
theorem cw_BA_brokenInCell_177 : am_cv m_BA_brokenInCell m_RE_setFirst 239 4 := ⟨⟨ok_RE_setFirst, rfl, by decide +kernel, by decide, by decide⟩, aw_2_223, aw_2_212, aw_2_213⟩
def f_BA_brokenInCell_136  (s : am_M) (x1 : Int32) (x2 : Int32) (x3 : Int32) (x4 : Nat) (x5 : Int32) (x6 : Int32) : Int32 × am_M := (if (s x4 0) = (2 : Int32) then (if x5 = (-1000000 : Int32) then (x6, s) else (if (f_RO_has s 8 (s x4 3) x5) = 0 then ((x6 + (1 : Int32)), (f_RE_setFirst s 16 (4 : Int32) x1 x2 x3)) else (x6, s))) else (x6, s))
def p_BA_brokenInCell_136  (s : am_M) (x1 : Int32) (x2 : Int32) (x3 : Int32) (x4 : Nat) (x5 : Int32) (x6 : Int32) : Prop := (x4 < 207 ∧ am_sh x4 = (0, 3, 11)) ∧ ((((s x4 0) = (2 : Int32)) → ((x5 = (-1000000 : Int32)) → True) ∧ (¬ (x5 = (-1000000 : Int32)) → p_RO_has s 8 (s x4 3) x5 ∧ ((((f_RO_has s 8 (s x4 3) x5) = 0) → p_RE_setFirst s 16 (4 : Int32) x1 x2 x3 ∧ (True)) ∧ (¬ ((f_RO_has s 8 (s x4 3) x5) = 0) → True)))) ∧ (¬ ((s x4 0) = (2 : Int32)) → True))
set_option maxRecDepth 8000 in
theorem w_BA_brokenInCell_136 {l : Launch} {g : am_Gl} (hg : g.2.2.2.1 = true) {ad0 : Nat → Nat}  {s : am_M} {x1 : Int32} {x2 : Int32} {x3 : Int32} {x4 : Nat} {x5 : Int32} {x6 : Int32} (h : p_BA_brokenInCell_136  s x1 x2 x3 x4 x5 x6) : AW l g m_BA_brokenInCell 207 ad0 (am_oC (f_BA_brokenInCell_136  s x1 x2 x3 x4 x5 x6)) 0 0 207 s 136 [(0, .ref 1), (1, .int x1), (2, .int x2), (3, .int x3), (4, .ref x4), (5, .int x5), (6, .int x6)] [] := by
  refine am_aload (j := 4) d_BA_brokenInCell_136 rfl ?_
  obtain ⟨⟨b1, t1⟩, h⟩ := h
  refine am_getI d_BA_brokenInCell_138 fl_BA_98 b1 t1 (by decide) rfl ?_
  refine am_iconst (v := (2 : Int32)) d_BA_brokenInCell_141 (by decide) ?_
  refine aj_ne (F := am_oC) (tgt := 183) d_BA_brokenInCell_142 (by decide) (fun c => ?_) (fun c => ?_)
  · have h := h.2 c
    refine am_iload (j := 6) d_BA_brokenInCell_183 rfl ?_
    exact am_iret d_BA_brokenInCell_185 rfl rfl (by decide) (by decide) am_oC_ok
  · have h := h.1 c
    refine am_iload (j := 5) d_BA_brokenInCell_145 rfl ?_
    refine am_ldc (v := (-1000000 : Int32)) d_BA_brokenInCell_147 aw_2_161 ?_
    refine aj_eq (F := am_oC) (tgt := 183) d_BA_brokenInCell_149 (by decide) (fun c => ?_) (fun c => ?_)
    · have h := h.1 c
      refine am_iload (j := 6) d_BA_brokenInCell_183 rfl ?_
      exact am_iret d_BA_brokenInCell_185 rfl rfl (by decide) (by decide) am_oC_ok
    · have h := h.2 c
      refine am_aload_n (j := 0) d_BA_brokenInCell_152 rfl rfl ?_
      refine am_getR (t := 8) d_BA_brokenInCell_153 fl_BA_43 hg (by decide) sh_1 (by decide) rfl (by decide) lk_1_9 (by decide) ?_
      refine am_aload (j := 4) d_BA_brokenInCell_156 rfl ?_
      refine am_getI d_BA_brokenInCell_158 fl_BA_111 b1 t1 (by decide) rfl ?_
      refine am_iload (j := 5) d_BA_brokenInCell_161 rfl ?_
      obtain ⟨hc, h⟩ := h
      refine ak_VI (as := [.int (s x4 3), .int x5]) (rest := []) d_BA_brokenInCell_163 cw_BA_brokenInCell_163 rfl rfl rfl (ct_RO_has hg hc) rfl rfl (by decide) sh_8 rfl (Nat.le_of_ble_eq_true rfl) (by decide) (by decide) ?_
      refine ai_ne (F := am_oC) (tgt := 183) d_BA_brokenInCell_166 (by decide) (fun c => ?_) (fun c => ?_)
      · have h := h.2 c
        refine am_iload (j := 6) d_BA_brokenInCell_183 rfl ?_
        exact am_iret d_BA_brokenInCell_185 rfl rfl (by decide) (by decide) am_oC_ok
      · have h := h.1 c
        refine am_aload_n (j := 0) d_BA_brokenInCell_169 rfl rfl ?_
        refine am_getR (t := 16) d_BA_brokenInCell_170 fl_BA_53 hg (by decide) sh_1 (by decide) rfl (by decide) lk_1_11 (by decide) ?_
        refine am_iconst (v := (4 : Int32)) d_BA_brokenInCell_173 (by decide) ?_
        refine am_iload_n (j := 1) d_BA_brokenInCell_174 rfl rfl ?_
        refine am_iload_n (j := 2) d_BA_brokenInCell_175 rfl rfl ?_
        refine am_iload_n (j := 3) d_BA_brokenInCell_176 rfl rfl ?_
        obtain ⟨hc, h⟩ := h
        refine ak_VM (as := [.int (4 : Int32), .int x1, .int x2, .int x3]) (rest := []) d_BA_brokenInCell_177 cw_BA_brokenInCell_177 rfl rfl rfl (ct_RE_setFirst hg hc) rfl rfl (by decide) sh_16 rfl (Nat.le_of_ble_eq_true rfl) (by decide) (by decide) ?_
        refine am_iinc (j := 6) (v := (x6 + (1 : Int32))) (lv2 := [(6, .int (x6 + (1 : Int32))), (0, .ref 1), (1, .int x1), (2, .int x2), (3, .int x3), (4, .ref x4), (5, .int x5)]) d_BA_brokenInCell_180 rfl rfl (by decide) rfl ?_
        refine am_iload (j := 0) d_BA_brokenInCell_183 rfl ?_
        exact am_iret d_BA_brokenInCell_185 rfl rfl (by decide) (by decide) am_oC_ok
def f_BA_brokenInCell_94  (s : am_M) (x1 : Int32) (x2 : Int32) (x3 : Int32) (x4 : Nat) (x5 : Int32) (x6 : Int32) : Int32 × am_M := (if (s x4 6) = 0 then (f_BA_brokenInCell_136 s x1 x2 x3 x4 x5 x6) else (if x5 = (-1000000 : Int32) then (f_BA_brokenInCell_136 s x1 x2 x3 x4 x5 x6) else (if (f_RO_repeats s 8 x1 x2 x3) = 0 then (f_BA_brokenInCell_136 s x1 x2 x3 x4 x5 x6) else (f_BA_brokenInCell_136 (f_RE_setFirst s 16 (3 : Int32) x1 x2 x3) x1 x2 x3 x4 x5 (x6 + (1 : Int32))))))
def p_BA_brokenInCell_94  (s : am_M) (x1 : Int32) (x2 : Int32) (x3 : Int32) (x4 : Nat) (x5 : Int32) (x6 : Int32) : Prop := (x4 < 207 ∧ am_sh x4 = (0, 3, 11)) ∧ ((((s x4 6) = 0) → (p_BA_brokenInCell_136 s x1 x2 x3 x4 x5 x6)) ∧ (¬ ((s x4 6) = 0) → ((x5 = (-1000000 : Int32)) → (p_BA_brokenInCell_136 s x1 x2 x3 x4 x5 x6)) ∧ (¬ (x5 = (-1000000 : Int32)) → p_RO_repeats s 8 x1 x2 x3 ∧ ((((f_RO_repeats s 8 x1 x2 x3) = 0) → (p_BA_brokenInCell_136 s x1 x2 x3 x4 x5 x6)) ∧ (¬ ((f_RO_repeats s 8 x1 x2 x3) = 0) → p_RE_setFirst s 16 (3 : Int32) x1 x2 x3 ∧ ((p_BA_brokenInCell_136 (f_RE_setFirst s 16 (3 : Int32) x1 x2 x3) x1 x2 x3 x4 x5 (x6 + (1 : Int32)))))))))
set_option maxRecDepth 8000 in
theorem w_BA_brokenInCell_94 {l : Launch} {g : am_Gl} (hg : g.2.2.2.1 = true) {ad0 : Nat → Nat}  {s : am_M} {x1 : Int32} {x2 : Int32} {x3 : Int32} {x4 : Nat} {x5 : Int32} {x6 : Int32} (h : p_BA_brokenInCell_94  s x1 x2 x3 x4 x5 x6) : AW l g m_BA_brokenInCell 207 ad0 (am_oC (f_BA_brokenInCell_94  s x1 x2 x3 x4 x5 x6)) 0 0 207 s 94 [(0, .ref 1), (1, .int x1), (2, .int x2), (3, .int x3), (4, .ref x4), (5, .int x5), (6, .int x6)] [] := by
  refine am_aload (j := 4) d_BA_brokenInCell_94 rfl ?_
  obtain ⟨⟨b1, t1⟩, h⟩ := h
  refine am_getI d_BA_brokenInCell_96 fl_BA_151 b1 t1 (by decide) rfl ?_
  refine ai_eq (F := am_oC) (tgt := 136) d_BA_brokenInCell_99 (by decide) (fun c => ?_) (fun c => ?_)
  · have h := h.1 c
    exact w_BA_brokenInCell_136 hg h
  · have h := h.2 c
    refine am_iload (j := 5) d_BA_brokenInCell_102 rfl ?_
    refine am_ldc (v := (-1000000 : Int32)) d_BA_brokenInCell_104 aw_2_161 ?_
    refine aj_eq (F := am_oC) (tgt := 136) d_BA_brokenInCell_106 (by decide) (fun c => ?_) (fun c => ?_)
    · have h := h.1 c
      exact w_BA_brokenInCell_136 hg h
    · have h := h.2 c
      refine am_aload_n (j := 0) d_BA_brokenInCell_109 rfl rfl ?_
      refine am_getR (t := 8) d_BA_brokenInCell_110 fl_BA_43 hg (by decide) sh_1 (by decide) rfl (by decide) lk_1_9 (by decide) ?_
      refine am_iload_n (j := 1) d_BA_brokenInCell_113 rfl rfl ?_
      refine am_iload_n (j := 2) d_BA_brokenInCell_114 rfl rfl ?_
      refine am_iload_n (j := 3) d_BA_brokenInCell_115 rfl rfl ?_
      obtain ⟨hc, h⟩ := h
      refine ak_VI (as := [.int x1, .int x2, .int x3]) (rest := []) d_BA_brokenInCell_116 cw_BA_brokenInCell_116 rfl rfl rfl (ct_RO_repeats hg hc) rfl rfl (by decide) sh_8 rfl (Nat.le_of_ble_eq_true rfl) (by decide) (by decide) ?_
      refine ai_eq (F := am_oC) (tgt := 136) d_BA_brokenInCell_119 (by decide) (fun c => ?_) (fun c => ?_)
      · have h := h.1 c
        exact w_BA_brokenInCell_136 hg h
      · have h := h.2 c
        refine am_aload_n (j := 0) d_BA_brokenInCell_122 rfl rfl ?_
        refine am_getR (t := 16) d_BA_brokenInCell_123 fl_BA_53 hg (by decide) sh_1 (by decide) rfl (by decide) lk_1_11 (by decide) ?_
        refine am_iconst (v := (3 : Int32)) d_BA_brokenInCell_126 (by decide) ?_
        refine am_iload_n (j := 1) d_BA_brokenInCell_127 rfl rfl ?_
        refine am_iload_n (j := 2) d_BA_brokenInCell_128 rfl rfl ?_
        refine am_iload_n (j := 3) d_BA_brokenInCell_129 rfl rfl ?_
        obtain ⟨hc, h⟩ := h
        refine ak_VM (as := [.int (3 : Int32), .int x1, .int x2, .int x3]) (rest := []) d_BA_brokenInCell_130 cw_BA_brokenInCell_130 rfl rfl rfl (ct_RE_setFirst hg hc) rfl rfl (by decide) sh_16 rfl (Nat.le_of_ble_eq_true rfl) (by decide) (by decide) ?_
        refine am_iinc (j := 6) (v := (x6 + (1 : Int32))) (lv2 := [(6, .int (x6 + (1 : Int32))), (0, .ref 1), (1, .int x1), (2, .int x2), (3, .int x3), (4, .ref x4), (5, .int x5)]) d_BA_brokenInCell_133 rfl rfl (by decide) rfl ?_
        refine am_sub [1, 2, 3, 4, 5, 6, 0] (lv2 := [(0, .ref 1), (1, .int x1), (2, .int x2), (3, .int x3), (4, .ref x4), (5, .int x5), (6, .int (x6 + (1 : Int32)))]) rfl ?_
        exact w_BA_brokenInCell_136 hg h
def f_BA_brokenInCell_65  (s : am_M) (x1 : Int32) (x2 : Int32) (x3 : Int32) (x4 : Nat) (x5 : Int32) (x6 : Int32) : Int32 × am_M := (if (s x4 5) = 0 then (f_BA_brokenInCell_94 s x1 x2 x3 x4 x5 x6) else (if x5 = (-1000000 : Int32) then (f_BA_brokenInCell_94 (f_RE_setFirst s 16 (2 : Int32) x1 x2 x3) x1 x2 x3 x4 x5 (x6 + (1 : Int32))) else (f_BA_brokenInCell_94 s x1 x2 x3 x4 x5 x6)))
def p_BA_brokenInCell_65  (s : am_M) (x1 : Int32) (x2 : Int32) (x3 : Int32) (x4 : Nat) (x5 : Int32) (x6 : Int32) : Prop := (x4 < 207 ∧ am_sh x4 = (0, 3, 11)) ∧ ((((s x4 5) = 0) → (p_BA_brokenInCell_94 s x1 x2 x3 x4 x5 x6)) ∧ (¬ ((s x4 5) = 0) → ((x5 = (-1000000 : Int32)) → p_RE_setFirst s 16 (2 : Int32) x1 x2 x3 ∧ ((p_BA_brokenInCell_94 (f_RE_setFirst s 16 (2 : Int32) x1 x2 x3) x1 x2 x3 x4 x5 (x6 + (1 : Int32))))) ∧ (¬ (x5 = (-1000000 : Int32)) → (p_BA_brokenInCell_94 s x1 x2 x3 x4 x5 x6))))
set_option maxRecDepth 8000 in
theorem w_BA_brokenInCell_65 {l : Launch} {g : am_Gl} (hg : g.2.2.2.1 = true) {ad0 : Nat → Nat}  {s : am_M} {x1 : Int32} {x2 : Int32} {x3 : Int32} {x4 : Nat} {x5 : Int32} {x6 : Int32} (h : p_BA_brokenInCell_65  s x1 x2 x3 x4 x5 x6) : AW l g m_BA_brokenInCell 207 ad0 (am_oC (f_BA_brokenInCell_65  s x1 x2 x3 x4 x5 x6)) 0 0 207 s 65 [(0, .ref 1), (1, .int x1), (2, .int x2), (3, .int x3), (4, .ref x4), (5, .int x5), (6, .int x6)] [] := by
  refine am_aload (j := 4) d_BA_brokenInCell_65 rfl ?_
  obtain ⟨⟨b1, t1⟩, h⟩ := h
  refine am_getI d_BA_brokenInCell_67 fl_BA_148 b1 t1 (by decide) rfl ?_
  refine ai_eq (F := am_oC) (tgt := 94) d_BA_brokenInCell_70 (by decide) (fun c => ?_) (fun c => ?_)
  · have h := h.1 c
    exact w_BA_brokenInCell_94 hg h
  · have h := h.2 c
    refine am_iload (j := 5) d_BA_brokenInCell_73 rfl ?_
    refine am_ldc (v := (-1000000 : Int32)) d_BA_brokenInCell_75 aw_2_161 ?_
    refine aj_ne (F := am_oC) (tgt := 94) d_BA_brokenInCell_77 (by decide) (fun c => ?_) (fun c => ?_)
    · have h := h.2 c
      exact w_BA_brokenInCell_94 hg h
    · have h := h.1 c
      refine am_aload_n (j := 0) d_BA_brokenInCell_80 rfl rfl ?_
      refine am_getR (t := 16) d_BA_brokenInCell_81 fl_BA_53 hg (by decide) sh_1 (by decide) rfl (by decide) lk_1_11 (by decide) ?_
      refine am_iconst (v := (2 : Int32)) d_BA_brokenInCell_84 (by decide) ?_
      refine am_iload_n (j := 1) d_BA_brokenInCell_85 rfl rfl ?_
      refine am_iload_n (j := 2) d_BA_brokenInCell_86 rfl rfl ?_
      refine am_iload_n (j := 3) d_BA_brokenInCell_87 rfl rfl ?_
      obtain ⟨hc, h⟩ := h
      refine ak_VM (as := [.int (2 : Int32), .int x1, .int x2, .int x3]) (rest := []) d_BA_brokenInCell_88 cw_BA_brokenInCell_88 rfl rfl rfl (ct_RE_setFirst hg hc) rfl rfl (by decide) sh_16 rfl (Nat.le_of_ble_eq_true rfl) (by decide) (by decide) ?_
      refine am_iinc (j := 6) (v := (x6 + (1 : Int32))) (lv2 := [(6, .int (x6 + (1 : Int32))), (0, .ref 1), (1, .int x1), (2, .int x2), (3, .int x3), (4, .ref x4), (5, .int x5)]) d_BA_brokenInCell_91 rfl rfl (by decide) rfl ?_
      refine am_sub [1, 2, 3, 4, 5, 6, 0] (lv2 := [(0, .ref 1), (1, .int x1), (2, .int x2), (3, .int x3), (4, .ref x4), (5, .int x5), (6, .int (x6 + (1 : Int32)))]) rfl ?_
      exact w_BA_brokenInCell_94 hg h
def f_BA_brokenInCell  (s : am_M) (x1 : Int32) (x2 : Int32) (x3 : Int32) : Int32 × am_M := (if (s (f_BA_column s x1 x3) 0) = (1 : Int32) then (if (f_BA_isOutside s (f_RO_get s 8 x1 x2 x3) (s (f_BA_column s x1 x3) 1) (s (f_BA_column s x1 x3) 2)) = 0 then (f_BA_brokenInCell_65 s x1 x2 x3 (f_BA_column s x1 x3) (f_RO_get s 8 x1 x2 x3) (0 : Int32)) else (f_BA_brokenInCell_65 (f_RE_setFirst s 16 (1 : Int32) x1 x2 x3) x1 x2 x3 (f_BA_column s x1 x3) (f_RO_get s 8 x1 x2 x3) ((0 : Int32) + (1 : Int32)))) else (f_BA_brokenInCell_65 s x1 x2 x3 (f_BA_column s x1 x3) (f_RO_get s 8 x1 x2 x3) (0 : Int32)))
def p_BA_brokenInCell  (s : am_M) (x1 : Int32) (x2 : Int32) (x3 : Int32) : Prop := p_BA_column s x1 x3 ∧ (p_RO_get s 8 x1 x2 x3 ∧ (((f_BA_column s x1 x3) < 207 ∧ am_sh (f_BA_column s x1 x3) = (0, 3, 11)) ∧ ((((s (f_BA_column s x1 x3) 0) = (1 : Int32)) → (((f_BA_isOutside s (f_RO_get s 8 x1 x2 x3) (s (f_BA_column s x1 x3) 1) (s (f_BA_column s x1 x3) 2)) = 0) → (p_BA_brokenInCell_65 s x1 x2 x3 (f_BA_column s x1 x3) (f_RO_get s 8 x1 x2 x3) (0 : Int32))) ∧ (¬ ((f_BA_isOutside s (f_RO_get s 8 x1 x2 x3) (s (f_BA_column s x1 x3) 1) (s (f_BA_column s x1 x3) 2)) = 0) → p_RE_setFirst s 16 (1 : Int32) x1 x2 x3 ∧ ((p_BA_brokenInCell_65 (f_RE_setFirst s 16 (1 : Int32) x1 x2 x3) x1 x2 x3 (f_BA_column s x1 x3) (f_RO_get s 8 x1 x2 x3) ((0 : Int32) + (1 : Int32)))))) ∧ (¬ ((s (f_BA_column s x1 x3) 0) = (1 : Int32)) → (p_BA_brokenInCell_65 s x1 x2 x3 (f_BA_column s x1 x3) (f_RO_get s 8 x1 x2 x3) (0 : Int32))))))
set_option maxRecDepth 8000 in
theorem w_BA_brokenInCell {l : Launch} {g : am_Gl} (hg : g.2.2.2.1 = true) {ad0 : Nat → Nat} {s : am_M} {x1 : Int32} {x2 : Int32} {x3 : Int32} (h : p_BA_brokenInCell s x1 x2 x3) : AW l g m_BA_brokenInCell 207 ad0 (am_oC (f_BA_brokenInCell s x1 x2 x3)) 0 0 207 s 0 [(0, .ref 1), (1, .int x1), (2, .int x2), (3, .int x3)] [] := by
  refine am_aload_n (j := 0) d_BA_brokenInCell_0 rfl rfl ?_
  refine am_iload_n (j := 1) d_BA_brokenInCell_1 rfl rfl ?_
  refine am_iload_n (j := 3) d_BA_brokenInCell_2 rfl rfl ?_
  obtain ⟨hc, h⟩ := h
  refine ak_VR (as := [.int x1, .int x3]) (rest := []) d_BA_brokenInCell_3 cw_BA_brokenInCell_3 rfl rfl rfl (ct_BA_column hg hc) rfl rfl (by decide) sh_1 rfl (Nat.le_of_ble_eq_true rfl) (by decide) (by decide) ?_
  refine am_astore (lv2 := [(4, .ref (f_BA_column s x1 x3)), (0, .ref 1), (1, .int x1), (2, .int x2), (3, .int x3)]) d_BA_brokenInCell_6 (by decide) rfl ?_
  refine am_aload_n (j := 1) d_BA_brokenInCell_8 rfl rfl ?_
  refine am_getR (t := 8) d_BA_brokenInCell_9 fl_BA_43 hg (by decide) sh_1 (by decide) rfl (by decide) lk_1_9 (by decide) ?_
  refine am_iload_n (j := 2) d_BA_brokenInCell_12 rfl rfl ?_
  refine am_iload_n (j := 3) d_BA_brokenInCell_13 rfl rfl ?_
  refine am_iload_n (j := 4) d_BA_brokenInCell_14 rfl rfl ?_
  obtain ⟨hc, h⟩ := h
  refine ak_VI (as := [.int x1, .int x2, .int x3]) (rest := []) d_BA_brokenInCell_15 cw_BA_brokenInCell_15 rfl rfl rfl (ct_RO_get hg hc) rfl rfl (by decide) sh_8 rfl (Nat.le_of_ble_eq_true rfl) (by decide) (by decide) ?_
  refine am_istore (lv2 := [(5, .int (f_RO_get s 8 x1 x2 x3)), (4, .ref (f_BA_column s x1 x3)), (0, .ref 1), (1, .int x1), (2, .int x2), (3, .int x3)]) d_BA_brokenInCell_18 (by decide) rfl ?_
  refine am_iconst (v := (0 : Int32)) d_BA_brokenInCell_20 (by decide) ?_
  refine am_istore (lv2 := [(6, .int (0 : Int32)), (5, .int (f_RO_get s 8 x1 x2 x3)), (4, .ref (f_BA_column s x1 x3)), (0, .ref 1), (1, .int x1), (2, .int x2), (3, .int x3)]) d_BA_brokenInCell_21 (by decide) rfl ?_
  refine am_aload (j := 2) d_BA_brokenInCell_23 rfl ?_
  obtain ⟨⟨b1, t1⟩, h⟩ := h
  refine am_getI d_BA_brokenInCell_25 fl_BA_98 b1 t1 (by decide) rfl ?_
  refine am_iconst (v := (1 : Int32)) d_BA_brokenInCell_28 (by decide) ?_
  refine aj_ne (F := am_oC) (tgt := 65) d_BA_brokenInCell_29 (by decide) (fun c => ?_) (fun c => ?_)
  · have h := h.2 c
    refine am_sub [3, 4, 5, 6, 2, 1, 0] (lv2 := [(0, .ref 1), (1, .int x1), (2, .int x2), (3, .int x3), (4, .ref (f_BA_column s x1 x3)), (5, .int (f_RO_get s 8 x1 x2 x3)), (6, .int (0 : Int32))]) rfl ?_
    exact w_BA_brokenInCell_65 hg h
  · have h := h.1 c
    refine am_aload_n (j := 3) d_BA_brokenInCell_32 rfl rfl ?_
    refine am_iload (j := 1) d_BA_brokenInCell_33 rfl ?_
    refine am_aload (j := 2) d_BA_brokenInCell_35 rfl ?_
    refine am_getI d_BA_brokenInCell_37 fl_BA_105 b1 t1 (by decide) rfl ?_
    refine am_aload (j := 2) d_BA_brokenInCell_40 rfl ?_
    refine am_getI d_BA_brokenInCell_42 fl_BA_108 b1 t1 (by decide) rfl ?_
    refine ak_VI (as := [.int (f_RO_get s 8 x1 x2 x3), .int (s (f_BA_column s x1 x3) 1), .int (s (f_BA_column s x1 x3) 2)]) (rest := []) d_BA_brokenInCell_45 cw_BA_brokenInCell_45 rfl rfl rfl (ct_BA_isOutside hg) rfl rfl (by decide) sh_1 rfl (Nat.le_of_ble_eq_true rfl) (by decide) (by decide) ?_
    refine ai_eq (F := am_oC) (tgt := 65) d_BA_brokenInCell_48 (by decide) (fun c => ?_) (fun c => ?_)
    · have h := h.1 c
      refine am_sub [3, 4, 5, 6, 2, 1, 0] (lv2 := [(0, .ref 1), (1, .int x1), (2, .int x2), (3, .int x3), (4, .ref (f_BA_column s x1 x3)), (5, .int (f_RO_get s 8 x1 x2 x3)), (6, .int (0 : Int32))]) rfl ?_
      exact w_BA_brokenInCell_65 hg h
    · have h := h.2 c
      refine am_aload_n (j := 3) d_BA_brokenInCell_51 rfl rfl ?_
      refine am_getR (t := 16) d_BA_brokenInCell_52 fl_BA_53 hg (by decide) sh_1 (by decide) rfl (by decide) lk_1_11 (by decide) ?_
      refine am_iconst (v := (1 : Int32)) d_BA_brokenInCell_55 (by decide) ?_
      refine am_iload_n (j := 4) d_BA_brokenInCell_56 rfl rfl ?_
      refine am_iload_n (j := 5) d_BA_brokenInCell_57 rfl rfl ?_
      refine am_iload_n (j := 6) d_BA_brokenInCell_58 rfl rfl ?_
      obtain ⟨hc, h⟩ := h
      refine ak_VM (as := [.int (1 : Int32), .int x1, .int x2, .int x3]) (rest := []) d_BA_brokenInCell_59 cw_BA_brokenInCell_59 rfl rfl rfl (ct_RE_setFirst hg hc) rfl rfl (by decide) sh_16 rfl (Nat.le_of_ble_eq_true rfl) (by decide) (by decide) ?_
      refine am_iinc (j := 0) (v := ((0 : Int32) + (1 : Int32))) (lv2 := [(6, .int ((0 : Int32) + (1 : Int32))), (5, .int (f_RO_get s 8 x1 x2 x3)), (4, .ref (f_BA_column s x1 x3)), (0, .ref 1), (1, .int x1), (2, .int x2), (3, .int x3)]) d_BA_brokenInCell_62 rfl rfl (by decide) rfl ?_
      refine am_sub [3, 4, 5, 6, 2, 1, 0] (lv2 := [(0, .ref 1), (1, .int x1), (2, .int x2), (3, .int x3), (4, .ref (f_BA_column s x1 x3)), (5, .int (f_RO_get s 8 x1 x2 x3)), (6, .int ((0 : Int32) + (1 : Int32)))]) rfl ?_
      exact w_BA_brokenInCell_65 hg h
theorem ct_BA_brokenInCell {l : Launch} {g : am_Gl} (hg : g.2.2.2.1 = true) {s : am_M} {x1 : Int32} {x2 : Int32} {x3 : Int32} (h : p_BA_brokenInCell s x1 x2 x3) : AC l g m_BA_brokenInCell 207 s [.ref 1, .int x1, .int x2, .int x3] (am_oC (f_BA_brokenInCell s x1 x2 x3)) := am_enter ok_BA_brokenInCell rfl (Nat.le_of_ble_eq_true rfl) rfl (fun ad0 => w_BA_brokenInCell hg h)
theorem cw_BA_brokenRules_60 : am_cv m_BA_brokenRules m_RO_get 159 3 := ⟨⟨ok_RO_get, rfl, by decide +kernel, by decide, by decide⟩, aw_2_179, aw_2_180, aw_2_181⟩
theorem cw_BA_brokenRules_74 : am_cv m_BA_brokenRules m_RO_get 159 3 := ⟨⟨ok_RO_get, rfl, by decide +kernel, by decide, by decide⟩, aw_2_179, aw_2_180, aw_2_181⟩
theorem cw_BA_brokenRules_77 : am_cv m_BA_brokenRules m_RU_holds 245 2 := ⟨⟨ok_RU_holds, rfl, by decide +kernel, by decide, by decide⟩, aw_2_232, aw_2_233, aw_2_234⟩
theorem cw_BA_brokenRules_92 : am_cv m_BA_brokenRules m_RE_setFirst 239 4 := ⟨⟨ok_RE_setFirst, rfl, by decide +kernel, by decide, by decide⟩, aw_2_223, aw_2_212, aw_2_213⟩
def f_BA_brokenRules_98 (K5 : am_M → Int32 → Int32 → Int32 → Int32 → Int32 × am_M) (s : am_M) (x1 : Int32) (x2 : Int32) (x3 : Int32) (x4 : Int32) (x5 : Nat) : Int32 × am_M := (K5 s x1 x2 x3 (x4 + (1 : Int32)))
def p_BA_brokenRules_98 (KP5 : am_M → Int32 → Int32 → Int32 → Int32 → Prop) (s : am_M) (x1 : Int32) (x2 : Int32) (x3 : Int32) (x4 : Int32) (x5 : Nat) : Prop := (KP5 s x1 x2 x3 (x4 + (1 : Int32)))
set_option maxRecDepth 8000 in
theorem w_BA_brokenRules_98 {l : Launch} {g : am_Gl} (hg : g.2.2.2.1 = true) {ad0 : Nat → Nat} {K5 : am_M → Int32 → Int32 → Int32 → Int32 → Int32 × am_M} {KP5 : am_M → Int32 → Int32 → Int32 → Int32 → Prop} (hK5 : ∀ (s : am_M) (x1 : Int32) (x2 : Int32) (x3 : Int32) (x4 : Int32), KP5 s x1 x2 x3 x4 → AW l g m_BA_brokenRules 207 ad0 (am_oC (K5 s x1 x2 x3 x4)) 0 0 207 s 5 [(0, .ref 1), (1, .int x1), (2, .int x2), (3, .int x3), (4, .int x4)] []) {s : am_M} {x1 : Int32} {x2 : Int32} {x3 : Int32} {x4 : Int32} {x5 : Nat} (h : p_BA_brokenRules_98 KP5 s x1 x2 x3 x4 x5) : AW l g m_BA_brokenRules 207 ad0 (am_oC (f_BA_brokenRules_98 K5 s x1 x2 x3 x4 x5)) 0 0 207 s 98 [(0, .ref 1), (1, .int x1), (2, .int x2), (3, .int x3), (4, .int x4), (5, .ref x5)] [] := by
  refine am_iinc (j := 4) (v := (x4 + (1 : Int32))) (lv2 := [(4, .int (x4 + (1 : Int32))), (0, .ref 1), (1, .int x1), (2, .int x2), (3, .int x3), (5, .ref x5)]) d_BA_brokenRules_98 rfl rfl (by decide) rfl ?_
  refine am_goto (tgt := 5) d_BA_brokenRules_101 (by decide) ?_
  refine am_sub [1, 2, 3, 4, 0] (lv2 := [(0, .ref 1), (1, .int x1), (2, .int x2), (3, .int x3), (4, .int (x4 + (1 : Int32)))]) rfl ?_
  exact hK5 _ _ _ _ _ h
def f_BA_brokenRules_5  : Nat → am_M → Int32 → Int32 → Int32 → Int32 → Int32 × am_M
  | 0, s, x1, x2, x3, x4 => (0, s)
  | n + 1, s, x1, x2, x3, x4 => (if (s 1 6) ≤ x4 then (x3, s) else (if (8 : Int32) ≤ x4 then (x3, s) else (if (s (am_lk 5 (x4).toNatClampNeg) 5) = 0 then (if (s (am_lk 5 (x4).toNatClampNeg) 0) = x1 then (if (f_RU_holds s (am_lk 5 (x4).toNatClampNeg) (f_RO_get s 8 x1 x2 (s (am_lk 5 (x4).toNatClampNeg) 1)) (f_RO_get s 8 x1 x2 (s (am_lk 5 (x4).toNatClampNeg) 3))) = 0 then (f_BA_brokenRules_98 (f_BA_brokenRules_5  n) (f_RE_setFirst s 16 (5 : Int32) x1 x2 x4) x1 x2 (x3 + (1 : Int32)) x4 (am_lk 5 (x4).toNatClampNeg)) else (f_BA_brokenRules_98 (f_BA_brokenRules_5  n) s x1 x2 x3 x4 (am_lk 5 (x4).toNatClampNeg))) else (f_BA_brokenRules_98 (f_BA_brokenRules_5  n) s x1 x2 x3 x4 (am_lk 5 (x4).toNatClampNeg))) else (f_BA_brokenRules_98 (f_BA_brokenRules_5  n) s x1 x2 x3 x4 (am_lk 5 (x4).toNatClampNeg)))))
def p_BA_brokenRules_5  : Nat → am_M → Int32 → Int32 → Int32 → Int32 → Prop
  | 0, s, x1, x2, x3, x4 => False
  | n + 1, s, x1, x2, x3, x4 => (((s 1 6) ≤ x4) → True) ∧ (¬ ((s 1 6) ≤ x4) → (((8 : Int32) ≤ x4) → True) ∧ (¬ ((8 : Int32) ≤ x4) → vp_in x4 8 ∧ (((am_lk 5 (x4).toNatClampNeg) < 207 ∧ am_sh (am_lk 5 (x4).toNatClampNeg) = (0, 7, 6)) ∧ ((((s (am_lk 5 (x4).toNatClampNeg) 5) = 0) → (((s (am_lk 5 (x4).toNatClampNeg) 0) = x1) → p_RO_get s 8 x1 x2 (s (am_lk 5 (x4).toNatClampNeg) 1) ∧ (p_RO_get s 8 x1 x2 (s (am_lk 5 (x4).toNatClampNeg) 3) ∧ (p_RU_holds s (am_lk 5 (x4).toNatClampNeg) (f_RO_get s 8 x1 x2 (s (am_lk 5 (x4).toNatClampNeg) 1)) (f_RO_get s 8 x1 x2 (s (am_lk 5 (x4).toNatClampNeg) 3)) ∧ ((((f_RU_holds s (am_lk 5 (x4).toNatClampNeg) (f_RO_get s 8 x1 x2 (s (am_lk 5 (x4).toNatClampNeg) 1)) (f_RO_get s 8 x1 x2 (s (am_lk 5 (x4).toNatClampNeg) 3))) = 0) → p_RE_setFirst s 16 (5 : Int32) x1 x2 x4 ∧ ((p_BA_brokenRules_98 (p_BA_brokenRules_5  n) (f_RE_setFirst s 16 (5 : Int32) x1 x2 x4) x1 x2 (x3 + (1 : Int32)) x4 (am_lk 5 (x4).toNatClampNeg)))) ∧ (¬ ((f_RU_holds s (am_lk 5 (x4).toNatClampNeg) (f_RO_get s 8 x1 x2 (s (am_lk 5 (x4).toNatClampNeg) 1)) (f_RO_get s 8 x1 x2 (s (am_lk 5 (x4).toNatClampNeg) 3))) = 0) → (p_BA_brokenRules_98 (p_BA_brokenRules_5  n) s x1 x2 x3 x4 (am_lk 5 (x4).toNatClampNeg))))))) ∧ (¬ ((s (am_lk 5 (x4).toNatClampNeg) 0) = x1) → (p_BA_brokenRules_98 (p_BA_brokenRules_5  n) s x1 x2 x3 x4 (am_lk 5 (x4).toNatClampNeg)))) ∧ (¬ ((s (am_lk 5 (x4).toNatClampNeg) 5) = 0) → (p_BA_brokenRules_98 (p_BA_brokenRules_5  n) s x1 x2 x3 x4 (am_lk 5 (x4).toNatClampNeg)))))))
set_option maxRecDepth 8000 in
theorem w_BA_brokenRules_5 {l : Launch} {g : am_Gl} (hg : g.2.2.2.1 = true) {ad0 : Nat → Nat}   : ∀ (n : Nat) (s : am_M) (x1 : Int32) (x2 : Int32) (x3 : Int32) (x4 : Int32), p_BA_brokenRules_5  n s x1 x2 x3 x4 → AW l g m_BA_brokenRules 207 ad0 (am_oC (f_BA_brokenRules_5  n s x1 x2 x3 x4)) 0 0 207 s 5 [(0, .ref 1), (1, .int x1), (2, .int x2), (3, .int x3), (4, .int x4)] [] := by
  intro n
  induction n with
  | zero => intro s x1 x2 x3 x4 h; exact h.elim
  | succ n hK5 =>
    intro s x1 x2 x3 x4 h
    refine am_iload (j := 4) d_BA_brokenRules_5 rfl ?_
    refine am_aload_n (j := 0) d_BA_brokenRules_7 rfl rfl ?_
    refine am_getI d_BA_brokenRules_8 fl_BA_87 (by decide) sh_1 (by decide) rfl ?_
    refine aj_ge (F := am_oC) (tgt := 104) d_BA_brokenRules_11 (by decide) (fun c => ?_) (fun c => ?_)
    · have h := h.1 c
      refine am_iload_n (j := 3) d_BA_brokenRules_104 rfl rfl ?_
      exact am_iret d_BA_brokenRules_105 rfl rfl (by decide) (by decide) am_oC_ok
    · have h := h.2 c
      refine am_iload (j := 4) d_BA_brokenRules_14 rfl ?_
      refine am_bipush (v := (8 : Int32)) d_BA_brokenRules_16 (by decide) ?_
      refine aj_ge (F := am_oC) (tgt := 104) d_BA_brokenRules_18 (by decide) (fun c => ?_) (fun c => ?_)
      · have h := h.1 c
        refine am_iload_n (j := 3) d_BA_brokenRules_104 rfl rfl ?_
        exact am_iret d_BA_brokenRules_105 rfl rfl (by decide) (by decide) am_oC_ok
      · have h := h.2 c
        refine am_aload_n (j := 0) d_BA_brokenRules_21 rfl rfl ?_
        refine am_getR (t := 5) d_BA_brokenRules_22 fl_BA_28 hg (by decide) sh_1 (by decide) rfl (by decide) lk_1_4 (by decide) ?_
        refine am_iload (j := 4) d_BA_brokenRules_25 rfl ?_
        obtain ⟨hv, h⟩ := h
        obtain ⟨⟨b1, t1⟩, h⟩ := h
        refine am_aalL d_BA_brokenRules_27 hg (by decide) sh_5 (by decide) (by decide) hv rfl b1 ?_
        refine am_astore (lv2 := [(5, .ref (am_lk 5 (x4).toNatClampNeg)), (0, .ref 1), (1, .int x1), (2, .int x2), (3, .int x3), (4, .int x4)]) d_BA_brokenRules_28 (by decide) rfl ?_
        refine am_aload (j := 0) d_BA_brokenRules_30 rfl ?_
        refine am_getI d_BA_brokenRules_32 fl_BA_90 b1 t1 (by decide) rfl ?_
        refine ai_ne (F := am_oC) (tgt := 98) d_BA_brokenRules_35 (by decide) (fun c => ?_) (fun c => ?_)
        · have h := h.2 c
          refine am_sub [1, 2, 3, 4, 5, 0] (lv2 := [(0, .ref 1), (1, .int x1), (2, .int x2), (3, .int x3), (4, .int x4), (5, .ref (am_lk 5 (x4).toNatClampNeg))]) rfl ?_
          exact w_BA_brokenRules_98 hg hK5 h
        · have h := h.1 c
          refine am_aload (j := 0) d_BA_brokenRules_38 rfl ?_
          refine am_getI d_BA_brokenRules_40 fl_BA_171 b1 t1 (by decide) rfl ?_
          refine am_iload_n (j := 2) d_BA_brokenRules_43 rfl rfl ?_
          refine aj_ne (F := am_oC) (tgt := 98) d_BA_brokenRules_44 (by decide) (fun c => ?_) (fun c => ?_)
          · have h := h.2 c
            refine am_sub [1, 2, 3, 4, 5, 0] (lv2 := [(0, .ref 1), (1, .int x1), (2, .int x2), (3, .int x3), (4, .int x4), (5, .ref (am_lk 5 (x4).toNatClampNeg))]) rfl ?_
            exact w_BA_brokenRules_98 hg hK5 h
          · have h := h.1 c
            refine am_aload (j := 0) d_BA_brokenRules_47 rfl ?_
            refine am_aload_n (j := 1) d_BA_brokenRules_49 rfl rfl ?_
            refine am_getR (t := 8) d_BA_brokenRules_50 fl_BA_43 hg (by decide) sh_1 (by decide) rfl (by decide) lk_1_9 (by decide) ?_
            refine am_iload_n (j := 2) d_BA_brokenRules_53 rfl rfl ?_
            refine am_iload_n (j := 3) d_BA_brokenRules_54 rfl rfl ?_
            refine am_aload (j := 0) d_BA_brokenRules_55 rfl ?_
            refine am_getI d_BA_brokenRules_57 fl_BA_174 b1 t1 (by decide) rfl ?_
            obtain ⟨hc, h⟩ := h
            refine ak_VI (as := [.int x1, .int x2, .int (s (am_lk 5 (x4).toNatClampNeg) 1)]) (rest := [.ref (am_lk 5 (x4).toNatClampNeg)]) d_BA_brokenRules_60 cw_BA_brokenRules_60 rfl rfl rfl (ct_RO_get hg hc) rfl rfl (by decide) sh_8 rfl (Nat.le_of_ble_eq_true rfl) (by decide) (by decide) ?_
            refine am_aload_n (j := 1) d_BA_brokenRules_63 rfl rfl ?_
            refine am_getR (t := 8) d_BA_brokenRules_64 fl_BA_43 hg (by decide) sh_1 (by decide) rfl (by decide) lk_1_9 (by decide) ?_
            refine am_iload_n (j := 2) d_BA_brokenRules_67 rfl rfl ?_
            refine am_iload_n (j := 3) d_BA_brokenRules_68 rfl rfl ?_
            refine am_aload (j := 0) d_BA_brokenRules_69 rfl ?_
            refine am_getI d_BA_brokenRules_71 fl_BA_178 b1 t1 (by decide) rfl ?_
            obtain ⟨hc, h⟩ := h
            refine ak_VI (as := [.int x1, .int x2, .int (s (am_lk 5 (x4).toNatClampNeg) 3)]) (rest := [.int (f_RO_get s 8 x1 x2 (s (am_lk 5 (x4).toNatClampNeg) 1)), .ref (am_lk 5 (x4).toNatClampNeg)]) d_BA_brokenRules_74 cw_BA_brokenRules_74 rfl rfl rfl (ct_RO_get hg hc) rfl rfl (by decide) sh_8 rfl (Nat.le_of_ble_eq_true rfl) (by decide) (by decide) ?_
            obtain ⟨hc, h⟩ := h
            refine ak_VI (as := [.int (f_RO_get s 8 x1 x2 (s (am_lk 5 (x4).toNatClampNeg) 1)), .int (f_RO_get s 8 x1 x2 (s (am_lk 5 (x4).toNatClampNeg) 3))]) (rest := []) d_BA_brokenRules_77 cw_BA_brokenRules_77 rfl rfl rfl (ct_RU_holds hg hc) rfl rfl b1 t1 rfl (Nat.le_of_ble_eq_true rfl) (by decide) (by decide) ?_
            refine ai_ne (F := am_oC) (tgt := 98) d_BA_brokenRules_80 (by decide) (fun c => ?_) (fun c => ?_)
            · have h := h.2 c
              refine am_sub [1, 2, 3, 4, 5, 0] (lv2 := [(0, .ref 1), (1, .int x1), (2, .int x2), (3, .int x3), (4, .int x4), (5, .ref (am_lk 5 (x4).toNatClampNeg))]) rfl ?_
              exact w_BA_brokenRules_98 hg hK5 h
            · have h := h.1 c
              refine am_aload_n (j := 1) d_BA_brokenRules_83 rfl rfl ?_
              refine am_getR (t := 16) d_BA_brokenRules_84 fl_BA_53 hg (by decide) sh_1 (by decide) rfl (by decide) lk_1_11 (by decide) ?_
              refine am_iconst (v := (5 : Int32)) d_BA_brokenRules_87 (by decide) ?_
              refine am_iload_n (j := 2) d_BA_brokenRules_88 rfl rfl ?_
              refine am_iload_n (j := 3) d_BA_brokenRules_89 rfl rfl ?_
              refine am_iload (j := 5) d_BA_brokenRules_90 rfl ?_
              obtain ⟨hc, h⟩ := h
              refine ak_VM (as := [.int (5 : Int32), .int x1, .int x2, .int x4]) (rest := []) d_BA_brokenRules_92 cw_BA_brokenRules_92 rfl rfl rfl (ct_RE_setFirst hg hc) rfl rfl (by decide) sh_16 rfl (Nat.le_of_ble_eq_true rfl) (by decide) (by decide) ?_
              refine am_iinc (j := 4) (v := (x3 + (1 : Int32))) (lv2 := [(3, .int (x3 + (1 : Int32))), (5, .ref (am_lk 5 (x4).toNatClampNeg)), (0, .ref 1), (1, .int x1), (2, .int x2), (4, .int x4)]) d_BA_brokenRules_95 rfl rfl (by decide) rfl ?_
              refine am_sub [2, 3, 4, 0, 5, 1] (lv2 := [(0, .ref 1), (1, .int x1), (2, .int x2), (3, .int (x3 + (1 : Int32))), (4, .int x4), (5, .ref (am_lk 5 (x4).toNatClampNeg))]) rfl ?_
              exact w_BA_brokenRules_98 hg hK5 h
def f_BA_brokenRules  (s : am_M) (x1 : Int32) (x2 : Int32) : Int32 × am_M := (f_BA_brokenRules_5 am_F s x1 x2 (0 : Int32) (0 : Int32))
def p_BA_brokenRules  (s : am_M) (x1 : Int32) (x2 : Int32) : Prop := (p_BA_brokenRules_5 am_F s x1 x2 (0 : Int32) (0 : Int32))
set_option maxRecDepth 8000 in
theorem w_BA_brokenRules {l : Launch} {g : am_Gl} (hg : g.2.2.2.1 = true) {ad0 : Nat → Nat} {s : am_M} {x1 : Int32} {x2 : Int32} (h : p_BA_brokenRules s x1 x2) : AW l g m_BA_brokenRules 207 ad0 (am_oC (f_BA_brokenRules s x1 x2)) 0 0 207 s 0 [(0, .ref 1), (1, .int x1), (2, .int x2)] [] := by
  refine am_iconst (v := (0 : Int32)) d_BA_brokenRules_0 (by decide) ?_
  refine am_istore_n (lv2 := [(3, .int (0 : Int32)), (0, .ref 1), (1, .int x1), (2, .int x2)]) d_BA_brokenRules_1 rfl (by decide) rfl ?_
  refine am_iconst (v := (0 : Int32)) d_BA_brokenRules_2 (by decide) ?_
  refine am_istore (lv2 := [(4, .int (0 : Int32)), (3, .int (0 : Int32)), (0, .ref 1), (1, .int x1), (2, .int x2)]) d_BA_brokenRules_3 (by decide) rfl ?_
  refine am_sub [2, 3, 4, 1, 0] (lv2 := [(0, .ref 1), (1, .int x1), (2, .int x2), (3, .int (0 : Int32)), (4, .int (0 : Int32))]) rfl ?_
  exact w_BA_brokenRules_5 hg am_F _ _ _ _ _ h
theorem ct_BA_brokenRules {l : Launch} {g : am_Gl} (hg : g.2.2.2.1 = true) {s : am_M} {x1 : Int32} {x2 : Int32} (h : p_BA_brokenRules s x1 x2) : AC l g m_BA_brokenRules 207 s [.ref 1, .int x1, .int x2] (am_oC (f_BA_brokenRules s x1 x2)) := am_enter ok_BA_brokenRules rfl (Nat.le_of_ble_eq_true rfl) rfl (fun ad0 => w_BA_brokenRules hg h)
theorem cw_BA_countBroken_6 : am_cv m_BA_countBroken m_RE_clear 230 0 := ⟨⟨ok_RE_clear, rfl, by decide +kernel, by decide, by decide⟩, aw_2_203, aw_2_204, aw_2_205⟩
theorem cw_BA_countBroken_44 : am_cv m_BA_countBroken m_RO_has 155 2 := ⟨⟨ok_RO_has, rfl, by decide +kernel, by decide, by decide⟩, aw_2_183, aw_2_184, aw_2_185⟩
theorem cw_BA_countBroken_57 : am_cv m_BA_countBroken m_BA_widthOf 75 1 := ⟨⟨ok_BA_widthOf, rfl, by decide +kernel, by decide, by decide⟩, aw_2_92, aw_2_81, aw_2_82⟩
theorem cw_BA_countBroken_70 : am_cv m_BA_countBroken m_BA_brokenInCell 233 3 := ⟨⟨ok_BA_brokenInCell, rfl, by decide +kernel, by decide, by decide⟩, aw_2_215, aw_2_217, as_0_13⟩
theorem cw_BA_countBroken_86 : am_cv m_BA_countBroken m_BA_brokenRules 236 2 := ⟨⟨ok_BA_brokenRules, rfl, by decide +kernel, by decide, by decide⟩, aw_2_228, aw_2_230, as_0_15⟩
def f_BA_countBroken_91 (K11 : am_M → Int32 → Int32 → Int32 → Int32 × am_M) (K22 : am_M → Int32 → Int32 → Int32 → Int32 → Int32 × am_M) (s : am_M) (x1 : Int32) (x2 : Int32) (x3 : Int32) (x4 : Int32) : Int32 × am_M := (K22 s x1 x2 x3 (x4 + (1 : Int32)))
def p_BA_countBroken_91 (KP11 : am_M → Int32 → Int32 → Int32 → Prop) (KP22 : am_M → Int32 → Int32 → Int32 → Int32 → Prop) (s : am_M) (x1 : Int32) (x2 : Int32) (x3 : Int32) (x4 : Int32) : Prop := (KP22 s x1 x2 x3 (x4 + (1 : Int32)))
set_option maxRecDepth 8000 in
theorem w_BA_countBroken_91 {l : Launch} {g : am_Gl} (hg : g.2.2.2.1 = true) {ad0 : Nat → Nat} {K11 : am_M → Int32 → Int32 → Int32 → Int32 × am_M} {KP11 : am_M → Int32 → Int32 → Int32 → Prop} {K22 : am_M → Int32 → Int32 → Int32 → Int32 → Int32 × am_M} {KP22 : am_M → Int32 → Int32 → Int32 → Int32 → Prop} (hK11 : ∀ (s : am_M) (x1 : Int32) (x2 : Int32) (x3 : Int32), KP11 s x1 x2 x3 → AW l g m_BA_countBroken 207 ad0 (am_oC (K11 s x1 x2 x3)) 0 0 207 s 11 [(0, .ref 1), (1, .int x1), (2, .int x2), (3, .int x3)] []) (hK22 : ∀ (s : am_M) (x1 : Int32) (x2 : Int32) (x3 : Int32) (x4 : Int32), KP22 s x1 x2 x3 x4 → AW l g m_BA_countBroken 207 ad0 (am_oC (K22 s x1 x2 x3 x4)) 0 0 207 s 22 [(0, .ref 1), (1, .int x1), (2, .int x2), (3, .int x3), (4, .int x4)] []) {s : am_M} {x1 : Int32} {x2 : Int32} {x3 : Int32} {x4 : Int32} (h : p_BA_countBroken_91 KP11 KP22 s x1 x2 x3 x4) : AW l g m_BA_countBroken 207 ad0 (am_oC (f_BA_countBroken_91 K11 K22 s x1 x2 x3 x4)) 0 0 207 s 91 [(0, .ref 1), (1, .int x1), (2, .int x2), (3, .int x3), (4, .int x4)] [] := by
  refine am_iinc (j := 4) (v := (x4 + (1 : Int32))) (lv2 := [(4, .int (x4 + (1 : Int32))), (0, .ref 1), (1, .int x1), (2, .int x2), (3, .int x3)]) d_BA_countBroken_91 rfl rfl (by decide) rfl ?_
  refine am_goto (tgt := 22) d_BA_countBroken_94 (by decide) ?_
  refine am_sub [1, 2, 3, 4, 0] (lv2 := [(0, .ref 1), (1, .int x1), (2, .int x2), (3, .int x3), (4, .int (x4 + (1 : Int32)))]) rfl ?_
  exact hK22 _ _ _ _ _ h
def f_BA_countBroken_81 (K11 : am_M → Int32 → Int32 → Int32 → Int32 × am_M) (K22 : am_M → Int32 → Int32 → Int32 → Int32 → Int32 × am_M) (s : am_M) (x1 : Int32) (x2 : Int32) (x3 : Int32) (x4 : Int32) (x5 : Int32) : Int32 × am_M := (f_BA_countBroken_91 K11 K22 (f_BA_brokenRules s x3 x4).2 x1 (x2 + (f_BA_brokenRules s x3 x4).1) x3 x4)
def p_BA_countBroken_81 (KP11 : am_M → Int32 → Int32 → Int32 → Prop) (KP22 : am_M → Int32 → Int32 → Int32 → Int32 → Prop) (s : am_M) (x1 : Int32) (x2 : Int32) (x3 : Int32) (x4 : Int32) (x5 : Int32) : Prop := p_BA_brokenRules s x3 x4 ∧ ((p_BA_countBroken_91 KP11 KP22 (f_BA_brokenRules s x3 x4).2 x1 (x2 + (f_BA_brokenRules s x3 x4).1) x3 x4))
set_option maxRecDepth 8000 in
theorem w_BA_countBroken_81 {l : Launch} {g : am_Gl} (hg : g.2.2.2.1 = true) {ad0 : Nat → Nat} {K11 : am_M → Int32 → Int32 → Int32 → Int32 × am_M} {KP11 : am_M → Int32 → Int32 → Int32 → Prop} {K22 : am_M → Int32 → Int32 → Int32 → Int32 → Int32 × am_M} {KP22 : am_M → Int32 → Int32 → Int32 → Int32 → Prop} (hK11 : ∀ (s : am_M) (x1 : Int32) (x2 : Int32) (x3 : Int32), KP11 s x1 x2 x3 → AW l g m_BA_countBroken 207 ad0 (am_oC (K11 s x1 x2 x3)) 0 0 207 s 11 [(0, .ref 1), (1, .int x1), (2, .int x2), (3, .int x3)] []) (hK22 : ∀ (s : am_M) (x1 : Int32) (x2 : Int32) (x3 : Int32) (x4 : Int32), KP22 s x1 x2 x3 x4 → AW l g m_BA_countBroken 207 ad0 (am_oC (K22 s x1 x2 x3 x4)) 0 0 207 s 22 [(0, .ref 1), (1, .int x1), (2, .int x2), (3, .int x3), (4, .int x4)] []) {s : am_M} {x1 : Int32} {x2 : Int32} {x3 : Int32} {x4 : Int32} {x5 : Int32} (h : p_BA_countBroken_81 KP11 KP22 s x1 x2 x3 x4 x5) : AW l g m_BA_countBroken 207 ad0 (am_oC (f_BA_countBroken_81 K11 K22 s x1 x2 x3 x4 x5)) 0 0 207 s 81 [(0, .ref 1), (1, .int x1), (2, .int x2), (3, .int x3), (4, .int x4), (5, .int x5)] [] := by
  refine am_iload_n (j := 2) d_BA_countBroken_81 rfl rfl ?_
  refine am_aload_n (j := 0) d_BA_countBroken_82 rfl rfl ?_
  refine am_iload_n (j := 3) d_BA_countBroken_83 rfl rfl ?_
  refine am_iload (j := 4) d_BA_countBroken_84 rfl ?_
  obtain ⟨hc, h⟩ := h
  refine ak_VC (as := [.int x3, .int x4]) (rest := [.int x2]) d_BA_countBroken_86 cw_BA_countBroken_86 rfl rfl rfl (ct_BA_brokenRules hg hc) rfl rfl (by decide) sh_1 rfl (Nat.le_of_ble_eq_true rfl) (by decide) (by decide) ?_
  refine am_iadd d_BA_countBroken_89 ?_
  refine am_istore_n (lv2 := [(2, .int (x2 + (f_BA_brokenRules s x3 x4).1)), (0, .ref 1), (1, .int x1), (3, .int x3), (4, .int x4), (5, .int x5)]) d_BA_countBroken_90 rfl (by decide) rfl ?_
  refine am_sub [1, 2, 0, 3, 4] (lv2 := [(0, .ref 1), (1, .int x1), (2, .int (x2 + (f_BA_brokenRules s x3 x4).1)), (3, .int x3), (4, .int x4)]) rfl ?_
  exact w_BA_countBroken_91 hg hK11 hK22 h
def f_BA_countBroken_53 (K11 : am_M → Int32 → Int32 → Int32 → Int32 × am_M) (K22 : am_M → Int32 → Int32 → Int32 → Int32 → Int32 × am_M) : Nat → am_M → Int32 → Int32 → Int32 → Int32 → Int32 → Int32 × am_M
  | 0, s, x1, x2, x3, x4, x5 => (0, s)
  | n + 1, s, x1, x2, x3, x4, x5 => (if (f_BA_widthOf s x3) ≤ x5 then (f_BA_countBroken_81 K11 K22 s x1 x2 x3 x4 x5) else ((f_BA_countBroken_53 K11 K22 n) (f_BA_brokenInCell s x3 x4 x5).2 x1 (x2 + (f_BA_brokenInCell s x3 x4 x5).1) x3 x4 (x5 + (1 : Int32))))
def p_BA_countBroken_53 (KP11 : am_M → Int32 → Int32 → Int32 → Prop) (KP22 : am_M → Int32 → Int32 → Int32 → Int32 → Prop) : Nat → am_M → Int32 → Int32 → Int32 → Int32 → Int32 → Prop
  | 0, s, x1, x2, x3, x4, x5 => False
  | n + 1, s, x1, x2, x3, x4, x5 => p_BA_widthOf s x3 ∧ ((((f_BA_widthOf s x3) ≤ x5) → (p_BA_countBroken_81 KP11 KP22 s x1 x2 x3 x4 x5)) ∧ (¬ ((f_BA_widthOf s x3) ≤ x5) → p_BA_brokenInCell s x3 x4 x5 ∧ (((p_BA_countBroken_53 KP11 KP22 n) (f_BA_brokenInCell s x3 x4 x5).2 x1 (x2 + (f_BA_brokenInCell s x3 x4 x5).1) x3 x4 (x5 + (1 : Int32))))))
set_option maxRecDepth 8000 in
theorem w_BA_countBroken_53 {l : Launch} {g : am_Gl} (hg : g.2.2.2.1 = true) {ad0 : Nat → Nat} {K11 : am_M → Int32 → Int32 → Int32 → Int32 × am_M} {KP11 : am_M → Int32 → Int32 → Int32 → Prop} {K22 : am_M → Int32 → Int32 → Int32 → Int32 → Int32 × am_M} {KP22 : am_M → Int32 → Int32 → Int32 → Int32 → Prop}  (hK11 : ∀ (s : am_M) (x1 : Int32) (x2 : Int32) (x3 : Int32), KP11 s x1 x2 x3 → AW l g m_BA_countBroken 207 ad0 (am_oC (K11 s x1 x2 x3)) 0 0 207 s 11 [(0, .ref 1), (1, .int x1), (2, .int x2), (3, .int x3)] []) (hK22 : ∀ (s : am_M) (x1 : Int32) (x2 : Int32) (x3 : Int32) (x4 : Int32), KP22 s x1 x2 x3 x4 → AW l g m_BA_countBroken 207 ad0 (am_oC (K22 s x1 x2 x3 x4)) 0 0 207 s 22 [(0, .ref 1), (1, .int x1), (2, .int x2), (3, .int x3), (4, .int x4)] []) : ∀ (n : Nat) (s : am_M) (x1 : Int32) (x2 : Int32) (x3 : Int32) (x4 : Int32) (x5 : Int32), p_BA_countBroken_53 KP11 KP22 n s x1 x2 x3 x4 x5 → AW l g m_BA_countBroken 207 ad0 (am_oC (f_BA_countBroken_53 K11 K22 n s x1 x2 x3 x4 x5)) 0 0 207 s 53 [(0, .ref 1), (1, .int x1), (2, .int x2), (3, .int x3), (4, .int x4), (5, .int x5)] [] := by
  intro n
  induction n with
  | zero => intro s x1 x2 x3 x4 x5 h; exact h.elim
  | succ n hK53 =>
    intro s x1 x2 x3 x4 x5 h
    refine am_iload (j := 5) d_BA_countBroken_53 rfl ?_
    refine am_aload_n (j := 0) d_BA_countBroken_55 rfl rfl ?_
    refine am_iload_n (j := 3) d_BA_countBroken_56 rfl rfl ?_
    obtain ⟨hc, h⟩ := h
    refine ak_VI (as := [.int x3]) (rest := [.int x5]) d_BA_countBroken_57 cw_BA_countBroken_57 rfl rfl rfl (ct_BA_widthOf hg hc) rfl rfl (by decide) sh_1 rfl (Nat.le_of_ble_eq_true rfl) (by decide) (by decide) ?_
    refine aj_ge (F := am_oC) (tgt := 81) d_BA_countBroken_60 (by decide) (fun c => ?_) (fun c => ?_)
    · have h := h.1 c
      exact w_BA_countBroken_81 hg hK11 hK22 h
    · have h := h.2 c
      refine am_iload_n (j := 2) d_BA_countBroken_63 rfl rfl ?_
      refine am_aload_n (j := 0) d_BA_countBroken_64 rfl rfl ?_
      refine am_iload_n (j := 3) d_BA_countBroken_65 rfl rfl ?_
      refine am_iload (j := 4) d_BA_countBroken_66 rfl ?_
      refine am_iload (j := 5) d_BA_countBroken_68 rfl ?_
      obtain ⟨hc, h⟩ := h
      refine ak_VC (as := [.int x3, .int x4, .int x5]) (rest := [.int x2]) d_BA_countBroken_70 cw_BA_countBroken_70 rfl rfl rfl (ct_BA_brokenInCell hg hc) rfl rfl (by decide) sh_1 rfl (Nat.le_of_ble_eq_true rfl) (by decide) (by decide) ?_
      refine am_iadd d_BA_countBroken_73 ?_
      refine am_istore_n (lv2 := [(2, .int (x2 + (f_BA_brokenInCell s x3 x4 x5).1)), (0, .ref 1), (1, .int x1), (3, .int x3), (4, .int x4), (5, .int x5)]) d_BA_countBroken_74 rfl (by decide) rfl ?_
      refine am_iinc (j := 5) (v := (x5 + (1 : Int32))) (lv2 := [(5, .int (x5 + (1 : Int32))), (2, .int (x2 + (f_BA_brokenInCell s x3 x4 x5).1)), (0, .ref 1), (1, .int x1), (3, .int x3), (4, .int x4)]) d_BA_countBroken_75 rfl rfl (by decide) rfl ?_
      refine am_goto (tgt := 53) d_BA_countBroken_78 (by decide) ?_
      refine am_sub [2, 3, 1, 4, 5, 0] (lv2 := [(0, .ref 1), (1, .int x1), (2, .int (x2 + (f_BA_brokenInCell s x3 x4 x5).1)), (3, .int x3), (4, .int x4), (5, .int (x5 + (1 : Int32)))]) rfl ?_
      exact hK53 _ _ _ _ _ _ h
def f_BA_countBroken_37 (K11 : am_M → Int32 → Int32 → Int32 → Int32 × am_M) (K22 : am_M → Int32 → Int32 → Int32 → Int32 → Int32 × am_M) (s : am_M) (x1 : Int32) (x2 : Int32) (x3 : Int32) (x4 : Int32) : Int32 × am_M := (if (f_RO_has s 8 x3 x4) = 0 then (f_BA_countBroken_91 K11 K22 s x1 x2 x3 x4) else (f_BA_countBroken_53 K11 K22 am_F s x1 x2 x3 x4 (0 : Int32)))
def p_BA_countBroken_37 (KP11 : am_M → Int32 → Int32 → Int32 → Prop) (KP22 : am_M → Int32 → Int32 → Int32 → Int32 → Prop) (s : am_M) (x1 : Int32) (x2 : Int32) (x3 : Int32) (x4 : Int32) : Prop := p_RO_has s 8 x3 x4 ∧ ((((f_RO_has s 8 x3 x4) = 0) → (p_BA_countBroken_91 KP11 KP22 s x1 x2 x3 x4)) ∧ (¬ ((f_RO_has s 8 x3 x4) = 0) → (p_BA_countBroken_53 KP11 KP22 am_F s x1 x2 x3 x4 (0 : Int32))))
set_option maxRecDepth 8000 in
theorem w_BA_countBroken_37 {l : Launch} {g : am_Gl} (hg : g.2.2.2.1 = true) {ad0 : Nat → Nat} {K11 : am_M → Int32 → Int32 → Int32 → Int32 × am_M} {KP11 : am_M → Int32 → Int32 → Int32 → Prop} {K22 : am_M → Int32 → Int32 → Int32 → Int32 → Int32 × am_M} {KP22 : am_M → Int32 → Int32 → Int32 → Int32 → Prop} (hK11 : ∀ (s : am_M) (x1 : Int32) (x2 : Int32) (x3 : Int32), KP11 s x1 x2 x3 → AW l g m_BA_countBroken 207 ad0 (am_oC (K11 s x1 x2 x3)) 0 0 207 s 11 [(0, .ref 1), (1, .int x1), (2, .int x2), (3, .int x3)] []) (hK22 : ∀ (s : am_M) (x1 : Int32) (x2 : Int32) (x3 : Int32) (x4 : Int32), KP22 s x1 x2 x3 x4 → AW l g m_BA_countBroken 207 ad0 (am_oC (K22 s x1 x2 x3 x4)) 0 0 207 s 22 [(0, .ref 1), (1, .int x1), (2, .int x2), (3, .int x3), (4, .int x4)] []) {s : am_M} {x1 : Int32} {x2 : Int32} {x3 : Int32} {x4 : Int32} (h : p_BA_countBroken_37 KP11 KP22 s x1 x2 x3 x4) : AW l g m_BA_countBroken 207 ad0 (am_oC (f_BA_countBroken_37 K11 K22 s x1 x2 x3 x4)) 0 0 207 s 37 [(0, .ref 1), (1, .int x1), (2, .int x2), (3, .int x3), (4, .int x4)] [] := by
  refine am_aload_n (j := 0) d_BA_countBroken_37 rfl rfl ?_
  refine am_getR (t := 8) d_BA_countBroken_38 fl_BA_43 hg (by decide) sh_1 (by decide) rfl (by decide) lk_1_9 (by decide) ?_
  refine am_iload_n (j := 3) d_BA_countBroken_41 rfl rfl ?_
  refine am_iload (j := 4) d_BA_countBroken_42 rfl ?_
  obtain ⟨hc, h⟩ := h
  refine ak_VI (as := [.int x3, .int x4]) (rest := []) d_BA_countBroken_44 cw_BA_countBroken_44 rfl rfl rfl (ct_RO_has hg hc) rfl rfl (by decide) sh_8 rfl (Nat.le_of_ble_eq_true rfl) (by decide) (by decide) ?_
  refine ai_eq (F := am_oC) (tgt := 91) d_BA_countBroken_47 (by decide) (fun c => ?_) (fun c => ?_)
  · have h := h.1 c
    exact w_BA_countBroken_91 hg hK11 hK22 h
  · have h := h.2 c
    refine am_iconst (v := (0 : Int32)) d_BA_countBroken_50 (by decide) ?_
    refine am_istore (lv2 := [(5, .int (0 : Int32)), (0, .ref 1), (1, .int x1), (2, .int x2), (3, .int x3), (4, .int x4)]) d_BA_countBroken_51 (by decide) rfl ?_
    refine am_sub [1, 2, 3, 4, 5, 0] (lv2 := [(0, .ref 1), (1, .int x1), (2, .int x2), (3, .int x3), (4, .int x4), (5, .int (0 : Int32))]) rfl ?_
    exact w_BA_countBroken_53 hg hK11 hK22 am_F _ _ _ _ _ _ h
def f_BA_countBroken_97 (K11 : am_M → Int32 → Int32 → Int32 → Int32 × am_M) (s : am_M) (x1 : Int32) (x2 : Int32) (x3 : Int32) (x4 : Int32) : Int32 × am_M := (K11 s x1 x2 (x3 + (1 : Int32)))
def p_BA_countBroken_97 (KP11 : am_M → Int32 → Int32 → Int32 → Prop) (s : am_M) (x1 : Int32) (x2 : Int32) (x3 : Int32) (x4 : Int32) : Prop := (KP11 s x1 x2 (x3 + (1 : Int32)))
set_option maxRecDepth 8000 in
theorem w_BA_countBroken_97 {l : Launch} {g : am_Gl} (hg : g.2.2.2.1 = true) {ad0 : Nat → Nat} {K11 : am_M → Int32 → Int32 → Int32 → Int32 × am_M} {KP11 : am_M → Int32 → Int32 → Int32 → Prop} (hK11 : ∀ (s : am_M) (x1 : Int32) (x2 : Int32) (x3 : Int32), KP11 s x1 x2 x3 → AW l g m_BA_countBroken 207 ad0 (am_oC (K11 s x1 x2 x3)) 0 0 207 s 11 [(0, .ref 1), (1, .int x1), (2, .int x2), (3, .int x3)] []) {s : am_M} {x1 : Int32} {x2 : Int32} {x3 : Int32} {x4 : Int32} (h : p_BA_countBroken_97 KP11 s x1 x2 x3 x4) : AW l g m_BA_countBroken 207 ad0 (am_oC (f_BA_countBroken_97 K11 s x1 x2 x3 x4)) 0 0 207 s 97 [(0, .ref 1), (1, .int x1), (2, .int x2), (3, .int x3), (4, .int x4)] [] := by
  refine am_iinc (j := 3) (v := (x3 + (1 : Int32))) (lv2 := [(3, .int (x3 + (1 : Int32))), (0, .ref 1), (1, .int x1), (2, .int x2), (4, .int x4)]) d_BA_countBroken_97 rfl rfl (by decide) rfl ?_
  refine am_goto (tgt := 11) d_BA_countBroken_100 (by decide) ?_
  refine am_sub [1, 2, 3, 0] (lv2 := [(0, .ref 1), (1, .int x1), (2, .int x2), (3, .int (x3 + (1 : Int32)))]) rfl ?_
  exact hK11 _ _ _ _ h
def f_BA_countBroken_22 (K11 : am_M → Int32 → Int32 → Int32 → Int32 × am_M) : Nat → am_M → Int32 → Int32 → Int32 → Int32 → Int32 × am_M
  | 0, s, x1, x2, x3, x4 => (0, s)
  | n + 1, s, x1, x2, x3, x4 => (if (30 : Int32) ≤ x4 then (f_BA_countBroken_97 K11 s x1 x2 x3 x4) else (if x1 = 0 then (if x2 = 0 then (f_BA_countBroken_37 K11 (f_BA_countBroken_22 K11 n) s x1 x2 x3 x4) else (f_BA_countBroken_97 K11 s x1 x2 x3 x4)) else (f_BA_countBroken_37 K11 (f_BA_countBroken_22 K11 n) s x1 x2 x3 x4)))
def p_BA_countBroken_22 (KP11 : am_M → Int32 → Int32 → Int32 → Prop) : Nat → am_M → Int32 → Int32 → Int32 → Int32 → Prop
  | 0, s, x1, x2, x3, x4 => False
  | n + 1, s, x1, x2, x3, x4 => (((30 : Int32) ≤ x4) → (p_BA_countBroken_97 KP11 s x1 x2 x3 x4)) ∧ (¬ ((30 : Int32) ≤ x4) → ((x1 = 0) → ((x2 = 0) → (p_BA_countBroken_37 KP11 (p_BA_countBroken_22 KP11 n) s x1 x2 x3 x4)) ∧ (¬ (x2 = 0) → (p_BA_countBroken_97 KP11 s x1 x2 x3 x4))) ∧ (¬ (x1 = 0) → (p_BA_countBroken_37 KP11 (p_BA_countBroken_22 KP11 n) s x1 x2 x3 x4)))
set_option maxRecDepth 8000 in
theorem w_BA_countBroken_22 {l : Launch} {g : am_Gl} (hg : g.2.2.2.1 = true) {ad0 : Nat → Nat} {K11 : am_M → Int32 → Int32 → Int32 → Int32 × am_M} {KP11 : am_M → Int32 → Int32 → Int32 → Prop}  (hK11 : ∀ (s : am_M) (x1 : Int32) (x2 : Int32) (x3 : Int32), KP11 s x1 x2 x3 → AW l g m_BA_countBroken 207 ad0 (am_oC (K11 s x1 x2 x3)) 0 0 207 s 11 [(0, .ref 1), (1, .int x1), (2, .int x2), (3, .int x3)] []) : ∀ (n : Nat) (s : am_M) (x1 : Int32) (x2 : Int32) (x3 : Int32) (x4 : Int32), p_BA_countBroken_22 KP11 n s x1 x2 x3 x4 → AW l g m_BA_countBroken 207 ad0 (am_oC (f_BA_countBroken_22 K11 n s x1 x2 x3 x4)) 0 0 207 s 22 [(0, .ref 1), (1, .int x1), (2, .int x2), (3, .int x3), (4, .int x4)] [] := by
  intro n
  induction n with
  | zero => intro s x1 x2 x3 x4 h; exact h.elim
  | succ n hK22 =>
    intro s x1 x2 x3 x4 h
    refine am_iload (j := 4) d_BA_countBroken_22 rfl ?_
    refine am_bipush (v := (30 : Int32)) d_BA_countBroken_24 (by decide) ?_
    refine aj_ge (F := am_oC) (tgt := 97) d_BA_countBroken_26 (by decide) (fun c => ?_) (fun c => ?_)
    · have h := h.1 c
      exact w_BA_countBroken_97 hg hK11 h
    · have h := h.2 c
      refine am_iload_n (j := 1) d_BA_countBroken_29 rfl rfl ?_
      refine ai_ne (F := am_oC) (tgt := 37) d_BA_countBroken_30 (by decide) (fun c => ?_) (fun c => ?_)
      · have h := h.2 c
        exact w_BA_countBroken_37 hg hK11 hK22 h
      · have h := h.1 c
        refine am_iload_n (j := 2) d_BA_countBroken_33 rfl rfl ?_
        refine ai_ne (F := am_oC) (tgt := 97) d_BA_countBroken_34 (by decide) (fun c => ?_) (fun c => ?_)
        · have h := h.2 c
          exact w_BA_countBroken_97 hg hK11 h
        · have h := h.1 c
          exact w_BA_countBroken_37 hg hK11 hK22 h
def f_BA_countBroken_11  : Nat → am_M → Int32 → Int32 → Int32 → Int32 × am_M
  | 0, s, x1, x2, x3 => (0, s)
  | n + 1, s, x1, x2, x3 => (if (s 1 3) ≤ x3 then (x2, s) else (f_BA_countBroken_22 (f_BA_countBroken_11  n) am_F s x1 x2 x3 (0 : Int32)))
def p_BA_countBroken_11  : Nat → am_M → Int32 → Int32 → Int32 → Prop
  | 0, s, x1, x2, x3 => False
  | n + 1, s, x1, x2, x3 => (((s 1 3) ≤ x3) → True) ∧ (¬ ((s 1 3) ≤ x3) → (p_BA_countBroken_22 (p_BA_countBroken_11  n) am_F s x1 x2 x3 (0 : Int32)))
set_option maxRecDepth 8000 in
theorem w_BA_countBroken_11 {l : Launch} {g : am_Gl} (hg : g.2.2.2.1 = true) {ad0 : Nat → Nat}   : ∀ (n : Nat) (s : am_M) (x1 : Int32) (x2 : Int32) (x3 : Int32), p_BA_countBroken_11  n s x1 x2 x3 → AW l g m_BA_countBroken 207 ad0 (am_oC (f_BA_countBroken_11  n s x1 x2 x3)) 0 0 207 s 11 [(0, .ref 1), (1, .int x1), (2, .int x2), (3, .int x3)] [] := by
  intro n
  induction n with
  | zero => intro s x1 x2 x3 h; exact h.elim
  | succ n hK11 =>
    intro s x1 x2 x3 h
    refine am_iload_n (j := 3) d_BA_countBroken_11 rfl rfl ?_
    refine am_aload_n (j := 0) d_BA_countBroken_12 rfl rfl ?_
    refine am_getI d_BA_countBroken_13 fl_BA_67 (by decide) sh_1 (by decide) rfl ?_
    refine aj_ge (F := am_oC) (tgt := 103) d_BA_countBroken_16 (by decide) (fun c => ?_) (fun c => ?_)
    · have h := h.1 c
      refine am_iload_n (j := 2) d_BA_countBroken_103 rfl rfl ?_
      exact am_iret d_BA_countBroken_104 rfl rfl (by decide) (by decide) am_oC_ok
    · have h := h.2 c
      refine am_iconst (v := (0 : Int32)) d_BA_countBroken_19 (by decide) ?_
      refine am_istore (lv2 := [(4, .int (0 : Int32)), (0, .ref 1), (1, .int x1), (2, .int x2), (3, .int x3)]) d_BA_countBroken_20 (by decide) rfl ?_
      refine am_sub [1, 2, 3, 4, 0] (lv2 := [(0, .ref 1), (1, .int x1), (2, .int x2), (3, .int x3), (4, .int (0 : Int32))]) rfl ?_
      exact w_BA_countBroken_22 hg hK11 am_F _ _ _ _ _ h
def f_BA_countBroken  (s : am_M) (x1 : Int32) : Int32 × am_M := (f_BA_countBroken_11 am_F (f_RE_clear s 16) x1 (0 : Int32) (0 : Int32))
def p_BA_countBroken  (s : am_M) (x1 : Int32) : Prop := p_RE_clear s 16 ∧ ((p_BA_countBroken_11 am_F (f_RE_clear s 16) x1 (0 : Int32) (0 : Int32)))
set_option maxRecDepth 8000 in
theorem w_BA_countBroken {l : Launch} {g : am_Gl} (hg : g.2.2.2.1 = true) {ad0 : Nat → Nat} {s : am_M} {x1 : Int32} (h : p_BA_countBroken s x1) : AW l g m_BA_countBroken 207 ad0 (am_oC (f_BA_countBroken s x1)) 0 0 207 s 0 [(0, .ref 1), (1, .int x1)] [] := by
  refine am_iconst (v := (0 : Int32)) d_BA_countBroken_0 (by decide) ?_
  refine am_istore_n (lv2 := [(2, .int (0 : Int32)), (0, .ref 1), (1, .int x1)]) d_BA_countBroken_1 rfl (by decide) rfl ?_
  refine am_aload_n (j := 1) d_BA_countBroken_2 rfl rfl ?_
  refine am_getR (t := 16) d_BA_countBroken_3 fl_BA_53 hg (by decide) sh_1 (by decide) rfl (by decide) lk_1_11 (by decide) ?_
  obtain ⟨hc, h⟩ := h
  refine ak_VM (as := []) (rest := []) d_BA_countBroken_6 cw_BA_countBroken_6 rfl rfl rfl (ct_RE_clear hg hc) rfl rfl (by decide) sh_16 rfl (Nat.le_of_ble_eq_true rfl) (by decide) (by decide) ?_
  refine am_iconst (v := (0 : Int32)) d_BA_countBroken_9 (by decide) ?_
  refine am_istore_n (lv2 := [(3, .int (0 : Int32)), (2, .int (0 : Int32)), (0, .ref 1), (1, .int x1)]) d_BA_countBroken_10 rfl (by decide) rfl ?_
  refine am_sub [2, 3, 1, 0] (lv2 := [(0, .ref 1), (1, .int x1), (2, .int (0 : Int32)), (3, .int (0 : Int32))]) rfl ?_
  exact w_BA_countBroken_11 hg am_F _ _ _ _ h
theorem ct_BA_countBroken {l : Launch} {g : am_Gl} (hg : g.2.2.2.1 = true) {s : am_M} {x1 : Int32} (h : p_BA_countBroken s x1) : AC l g m_BA_countBroken 207 s [.ref 1, .int x1] (am_oC (f_BA_countBroken s x1)) := am_enter ok_BA_countBroken rfl (Nat.le_of_ble_eq_true rfl) rfl (fun ad0 => w_BA_countBroken hg h)
theorem cw_BA_settle_1 : am_cv m_BA_settle m_BA_reckon 123 0 := ⟨⟨ok_BA_reckon, rfl, by decide +kernel, by decide, by decide⟩, aw_2_170, aw_2_172, as_0_10⟩
theorem cw_BA_settle_6 : am_cv m_BA_settle m_BA_countBroken 252 1 := ⟨⟨ok_BA_countBroken, rfl, by decide +kernel, by decide, by decide⟩, aw_2_199, aw_2_200, aw_2_201⟩
theorem cw_BA_settle_22 : am_cv m_BA_settle m_RO_copyFrom 248 1 := ⟨⟨ok_RO_copyFrom, rfl, by decide +kernel, by decide, by decide⟩, aw_2_146, aw_2_147, aw_2_148⟩
def f_BA_settle  (s : am_M)  : Int32 × am_M := (if (f_BA_countBroken (f_BA_reckon s) (0 : Int32)).1 = 0 then ((1 : Int32), (f_BA_countBroken (f_BA_reckon s) (0 : Int32)).2) else ((0 : Int32), (f_RO_copyFrom (f_BA_countBroken (f_BA_reckon s) (0 : Int32)).2 8 12)))
def p_BA_settle  (s : am_M)  : Prop := p_BA_reckon s ∧ (p_BA_countBroken (f_BA_reckon s) (0 : Int32) ∧ ((((f_BA_countBroken (f_BA_reckon s) (0 : Int32)).1 = 0) → True) ∧ (¬ ((f_BA_countBroken (f_BA_reckon s) (0 : Int32)).1 = 0) → p_RO_copyFrom (f_BA_countBroken (f_BA_reckon s) (0 : Int32)).2 8 12 ∧ (True))))
set_option maxRecDepth 8000 in
theorem w_BA_settle {l : Launch} {g : am_Gl} (hg : g.2.2.2.1 = true) {ad0 : Nat → Nat} {s : am_M}  (h : p_BA_settle s ) : AW l g m_BA_settle 207 ad0 (am_oC (f_BA_settle s )) 0 0 207 s 0 [(0, .ref 1)] [] := by
  refine am_aload_n (j := 0) d_BA_settle_0 rfl rfl ?_
  obtain ⟨hc, h⟩ := h
  refine ak_VM (as := []) (rest := []) d_BA_settle_1 cw_BA_settle_1 rfl rfl rfl (ct_BA_reckon hg hc) rfl rfl (by decide) sh_1 rfl (Nat.le_of_ble_eq_true rfl) (by decide) (by decide) ?_
  refine am_aload_n (j := 0) d_BA_settle_4 rfl rfl ?_
  refine am_iconst (v := (0 : Int32)) d_BA_settle_5 (by decide) ?_
  obtain ⟨hc, h⟩ := h
  refine ak_VC (as := [.int (0 : Int32)]) (rest := []) d_BA_settle_6 cw_BA_settle_6 rfl rfl rfl (ct_BA_countBroken hg hc) rfl rfl (by decide) sh_1 rfl (Nat.le_of_ble_eq_true rfl) (by decide) (by decide) ?_
  refine ai_ne (F := am_oC) (tgt := 14) d_BA_settle_9 (by decide) (fun c => ?_) (fun c => ?_)
  · have h := h.2 c
    refine am_aload_n (j := 0) d_BA_settle_14 rfl rfl ?_
    refine am_getR (t := 8) d_BA_settle_15 fl_BA_43 hg (by decide) sh_1 (by decide) rfl (by decide) lk_1_9 (by decide) ?_
    refine am_aload_n (j := 0) d_BA_settle_18 rfl rfl ?_
    refine am_getR (t := 12) d_BA_settle_19 fl_BA_47 hg (by decide) sh_1 (by decide) rfl (by decide) lk_1_10 (by decide) ?_
    obtain ⟨hc, h⟩ := h
    refine ak_VM (as := [.ref 12]) (rest := []) d_BA_settle_22 cw_BA_settle_22 rfl rfl rfl (ct_RO_copyFrom hg hc) rfl rfl (by decide) sh_8 rfl (Nat.le_of_ble_eq_true rfl) (by decide) (by decide) ?_
    refine am_iconst (v := (0 : Int32)) d_BA_settle_25 (by decide) ?_
    exact am_iret d_BA_settle_26 rfl (am_bool (Or.inl rfl)).1 (by decide) (by decide) am_oC_ok
  · have h := h.1 c
    refine am_iconst (v := (1 : Int32)) d_BA_settle_12 (by decide) ?_
    exact am_iret d_BA_settle_13 rfl (am_bool (Or.inr rfl)).1 (by decide) (by decide) am_oC_ok
theorem ct_BA_settle {l : Launch} {g : am_Gl} (hg : g.2.2.2.1 = true) {s : am_M}  (h : p_BA_settle s ) : AC l g m_BA_settle 207 s [.ref 1] (am_oC (f_BA_settle s )) := am_enter ok_BA_settle rfl (Nat.le_of_ble_eq_true rfl) rfl (fun ad0 => w_BA_settle hg h)
theorem cw_BA_enterRow_5 : am_cv m_BA_enterRow m_RO_isFull 256 1 := ⟨⟨ok_RO_isFull, rfl, by decide +kernel, by decide, by decide⟩, aw_2_141, aw_2_130, aw_2_131⟩
theorem cw_BA_enterRow_14 : am_cv m_BA_enterRow m_BA_keep 138 0 := ⟨⟨ok_BA_keep, rfl, by decide +kernel, by decide, by decide⟩, aw_2_142, aw_2_144, as_0_8⟩
theorem cw_BA_enterRow_36 : am_cv m_BA_enterRow m_RO_make 262 2 := ⟨⟨ok_RO_make, rfl, by decide +kernel, by decide, by decide⟩, aw_2_153, aw_2_154, aw_2_155⟩
theorem cw_BA_enterRow_114 : am_cv m_BA_enterRow m_BA_settle 141 0 := ⟨⟨ok_BA_settle, rfl, by decide +kernel, by decide, by decide⟩, aw_2_166, aw_2_168, as_0_9⟩
theorem cw_BA_enterRow_62 : am_cv m_BA_enterRow m_BA_column 79 2 := ⟨⟨ok_BA_column, rfl, by decide +kernel, by decide, by decide⟩, aw_2_93, aw_2_94, aw_2_95⟩
theorem cw_BA_enterRow_65 : am_cv m_BA_enterRow m_CO_isStored 83 0 := ⟨⟨ok_CO_isStored, rfl, by decide +kernel, by decide, by decide⟩, aw_2_157, aw_2_158, aw_2_159⟩
theorem cw_BA_enterRow_104 : am_cv m_BA_enterRow m_RO_set 166 4 := ⟨⟨ok_RO_set, rfl, by decide +kernel, by decide, by decide⟩, aw_2_162, aw_2_163, aw_2_164⟩
def f_BA_enterRow_104 (K44 : am_M → Nat → Int32 → Int32 → Int32 → Int32 → Int32 → Int32 × am_M) (s : am_M) (x2 : Nat) (x1 : Int32) (x3 : Int32) (x4 : Int32) (x5 : Int32) (x6 : Int32) (x7 : Int32) (y1 : Int32) (y2 : Int32) (y3 : Int32) (y4 : Int32) : Int32 × am_M := (K44 (f_RO_set s 8 y1 y2 y3 y4) x2 x1 x3 x4 x5 (x6 + (1 : Int32)))
def p_BA_enterRow_104 (KP44 : am_M → Nat → Int32 → Int32 → Int32 → Int32 → Int32 → Prop) (s : am_M) (x2 : Nat) (x1 : Int32) (x3 : Int32) (x4 : Int32) (x5 : Int32) (x6 : Int32) (x7 : Int32) (y1 : Int32) (y2 : Int32) (y3 : Int32) (y4 : Int32) : Prop := p_RO_set s 8 y1 y2 y3 y4 ∧ ((KP44 (f_RO_set s 8 y1 y2 y3 y4) x2 x1 x3 x4 x5 (x6 + (1 : Int32))))
set_option maxRecDepth 8000 in
theorem w_BA_enterRow_104 {l : Launch} {g : am_Gl} (hg : g.2.2.2.1 = true) {ad0 : Nat → Nat} {K44 : am_M → Nat → Int32 → Int32 → Int32 → Int32 → Int32 → Int32 × am_M} {KP44 : am_M → Nat → Int32 → Int32 → Int32 → Int32 → Int32 → Prop} (hK44 : ∀ (s : am_M) (x2 : Nat) (x1 : Int32) (x3 : Int32) (x4 : Int32) (x5 : Int32) (x6 : Int32), KP44 s x2 x1 x3 x4 x5 x6 → AW l g m_BA_enterRow 207 ad0 (am_oC (K44 s x2 x1 x3 x4 x5 x6)) 0 0 207 s 44 [(0, .ref 1), (1, .int x1), (2, .ref x2), (3, .int x3), (4, .int x4), (5, .int x5), (6, .int x6)] []) {s : am_M} {x2 : Nat} {x1 : Int32} {x3 : Int32} {x4 : Int32} {x5 : Int32} {x6 : Int32} {x7 : Int32} {y1 : Int32} {y2 : Int32} {y3 : Int32} {y4 : Int32} (h : p_BA_enterRow_104 KP44 s x2 x1 x3 x4 x5 x6 x7 y1 y2 y3 y4) : AW l g m_BA_enterRow 207 ad0 (am_oC (f_BA_enterRow_104 K44 s x2 x1 x3 x4 x5 x6 x7 y1 y2 y3 y4)) 0 0 207 s 104 [(0, .ref 1), (1, .int x1), (2, .ref x2), (3, .int x3), (4, .int x4), (5, .int x5), (6, .int x6), (7, .int x7)] [.int y4, .int y3, .int y2, .int y1, .ref 8] := by
  obtain ⟨hc, h⟩ := h
  refine ak_VM (as := [.int y1, .int y2, .int y3, .int y4]) (rest := []) d_BA_enterRow_104 cw_BA_enterRow_104 rfl rfl rfl (ct_RO_set hg hc) rfl rfl (by decide) sh_8 rfl (Nat.le_of_ble_eq_true rfl) (by decide) (by decide) ?_
  refine am_iinc (j := 6) (v := (x6 + (1 : Int32))) (lv2 := [(6, .int (x6 + (1 : Int32))), (0, .ref 1), (1, .int x1), (2, .ref x2), (3, .int x3), (4, .int x4), (5, .int x5), (7, .int x7)]) d_BA_enterRow_107 rfl rfl (by decide) rfl ?_
  refine am_goto (tgt := 44) d_BA_enterRow_110 (by decide) ?_
  refine am_sub [1, 2, 3, 4, 5, 6, 0] (lv2 := [(0, .ref 1), (1, .int x1), (2, .ref x2), (3, .int x3), (4, .int x4), (5, .int x5), (6, .int (x6 + (1 : Int32)))]) rfl ?_
  exact hK44 _ _ _ _ _ _ _ h
def f_BA_enterRow_44  : Nat → am_M → Nat → Int32 → Int32 → Int32 → Int32 → Int32 → Int32 × am_M
  | 0, s, x2, x1, x3, x4, x5, x6 => (0, s)
  | n + 1, s, x2, x1, x3, x4, x5, x6 => (if (6 : Int32) ≤ x6 then (if (f_BA_settle s).1 = 0 then ((-1 : Int32), (f_BA_settle s).2) else (x5, (f_BA_settle s).2)) else (if (Int32.ofNat (am_sh x2).2.2) ≤ x6 then (if (f_BA_settle s).1 = 0 then ((-1 : Int32), (f_BA_settle s).2) else (x5, (f_BA_settle s).2)) else (if (f_CO_isStored s (f_BA_column s x1 x6)) = 0 then (f_BA_enterRow_104 (f_BA_enterRow_44  n) s x2 x1 x3 x4 x5 x6 (f_CO_isStored s (f_BA_column s x1 x6)) x1 x5 x6 (-1000000 : Int32)) else (if x6 = x3 then (f_BA_enterRow_104 (f_BA_enterRow_44  n) s x2 x1 x3 x4 x5 x6 (f_CO_isStored s (f_BA_column s x1 x6)) x1 x5 x6 x4) else (f_BA_enterRow_104 (f_BA_enterRow_44  n) s x2 x1 x3 x4 x5 x6 (f_CO_isStored s (f_BA_column s x1 x6)) x1 x5 x6 (s x2 (x6).toNatClampNeg))))))
def p_BA_enterRow_44  : Nat → am_M → Nat → Int32 → Int32 → Int32 → Int32 → Int32 → Prop
  | 0, s, x2, x1, x3, x4, x5, x6 => False
  | n + 1, s, x2, x1, x3, x4, x5, x6 => (((6 : Int32) ≤ x6) → p_BA_settle s ∧ ((((f_BA_settle s).1 = 0) → True) ∧ (¬ ((f_BA_settle s).1 = 0) → True))) ∧ (¬ ((6 : Int32) ≤ x6) → (x2 < 207 ∧ am_sh x2 = (1, 0, (am_sh x2).2.2)) ∧ ((((Int32.ofNat (am_sh x2).2.2) ≤ x6) → p_BA_settle s ∧ ((((f_BA_settle s).1 = 0) → True) ∧ (¬ ((f_BA_settle s).1 = 0) → True))) ∧ (¬ ((Int32.ofNat (am_sh x2).2.2) ≤ x6) → p_BA_column s x1 x6 ∧ (p_CO_isStored s (f_BA_column s x1 x6) ∧ (((f_BA_column s x1 x6) < 207 ∧ am_sh (f_BA_column s x1 x6) = (0, 3, 11)) ∧ ((((f_CO_isStored s (f_BA_column s x1 x6)) = 0) → (p_BA_enterRow_104 (p_BA_enterRow_44  n) s x2 x1 x3 x4 x5 x6 (f_CO_isStored s (f_BA_column s x1 x6)) x1 x5 x6 (-1000000 : Int32))) ∧ (¬ ((f_CO_isStored s (f_BA_column s x1 x6)) = 0) → ((x6 = x3) → (p_BA_enterRow_104 (p_BA_enterRow_44  n) s x2 x1 x3 x4 x5 x6 (f_CO_isStored s (f_BA_column s x1 x6)) x1 x5 x6 x4)) ∧ (¬ (x6 = x3) → vp_in x6 (am_sh x2).2.2 ∧ ((p_BA_enterRow_104 (p_BA_enterRow_44  n) s x2 x1 x3 x4 x5 x6 (f_CO_isStored s (f_BA_column s x1 x6)) x1 x5 x6 (s x2 (x6).toNatClampNeg)))))))))))
set_option maxRecDepth 8000 in
theorem w_BA_enterRow_44 {l : Launch} {g : am_Gl} (hg : g.2.2.2.1 = true) {ad0 : Nat → Nat}   : ∀ (n : Nat) (s : am_M) (x2 : Nat) (x1 : Int32) (x3 : Int32) (x4 : Int32) (x5 : Int32) (x6 : Int32), p_BA_enterRow_44  n s x2 x1 x3 x4 x5 x6 → AW l g m_BA_enterRow 207 ad0 (am_oC (f_BA_enterRow_44  n s x2 x1 x3 x4 x5 x6)) 0 0 207 s 44 [(0, .ref 1), (1, .int x1), (2, .ref x2), (3, .int x3), (4, .int x4), (5, .int x5), (6, .int x6)] [] := by
  intro n
  induction n with
  | zero => intro s x2 x1 x3 x4 x5 x6 h; exact h.elim
  | succ n hK44 =>
    intro s x2 x1 x3 x4 x5 x6 h
    refine am_iload (j := 6) d_BA_enterRow_44 rfl ?_
    refine am_bipush (v := (6 : Int32)) d_BA_enterRow_46 (by decide) ?_
    refine aj_ge (F := am_oC) (tgt := 113) d_BA_enterRow_48 (by decide) (fun c => ?_) (fun c => ?_)
    · have h := h.1 c
      refine am_aload_n (j := 0) d_BA_enterRow_113 rfl rfl ?_
      obtain ⟨hc, h⟩ := h
      refine ak_VC (as := []) (rest := []) d_BA_enterRow_114 cw_BA_enterRow_114 rfl rfl rfl (ct_BA_settle hg hc) rfl rfl (by decide) sh_1 rfl (Nat.le_of_ble_eq_true rfl) (by decide) (by decide) ?_
      refine ai_eq (F := am_oC) (tgt := 125) d_BA_enterRow_117 (by decide) (fun c => ?_) (fun c => ?_)
      · have h := h.1 c
        refine am_iconst (v := (-1 : Int32)) d_BA_enterRow_125 (by decide) ?_
        exact am_iret d_BA_enterRow_126 rfl rfl (by decide) (by decide) am_oC_ok
      · have h := h.2 c
        refine am_iload (j := 5) d_BA_enterRow_120 rfl ?_
        refine am_goto (tgt := 126) d_BA_enterRow_122 (by decide) ?_
        exact am_iret d_BA_enterRow_126 rfl rfl (by decide) (by decide) am_oC_ok
    · have h := h.2 c
      refine am_iload (j := 6) d_BA_enterRow_51 rfl ?_
      refine am_aload_n (j := 2) d_BA_enterRow_53 rfl rfl ?_
      obtain ⟨⟨b1, t1⟩, h⟩ := h
      refine am_alen (v := (Int32.ofNat (am_sh x2).2.2)) d_BA_enterRow_54 b1 t1 (by decide) (rfl) ?_
      refine aj_ge (F := am_oC) (tgt := 113) d_BA_enterRow_55 (by decide) (fun c => ?_) (fun c => ?_)
      · have h := h.1 c
        refine am_aload_n (j := 0) d_BA_enterRow_113 rfl rfl ?_
        obtain ⟨hc, h⟩ := h
        refine ak_VC (as := []) (rest := []) d_BA_enterRow_114 cw_BA_enterRow_114 rfl rfl rfl (ct_BA_settle hg hc) rfl rfl (by decide) sh_1 rfl (Nat.le_of_ble_eq_true rfl) (by decide) (by decide) ?_
        refine ai_eq (F := am_oC) (tgt := 125) d_BA_enterRow_117 (by decide) (fun c => ?_) (fun c => ?_)
        · have h := h.1 c
          refine am_iconst (v := (-1 : Int32)) d_BA_enterRow_125 (by decide) ?_
          exact am_iret d_BA_enterRow_126 rfl rfl (by decide) (by decide) am_oC_ok
        · have h := h.2 c
          refine am_iload (j := 5) d_BA_enterRow_120 rfl ?_
          refine am_goto (tgt := 126) d_BA_enterRow_122 (by decide) ?_
          exact am_iret d_BA_enterRow_126 rfl rfl (by decide) (by decide) am_oC_ok
      · have h := h.2 c
        refine am_aload_n (j := 0) d_BA_enterRow_58 rfl rfl ?_
        refine am_iload_n (j := 1) d_BA_enterRow_59 rfl rfl ?_
        refine am_iload (j := 6) d_BA_enterRow_60 rfl ?_
        obtain ⟨hc, h⟩ := h
        refine ak_VR (as := [.int x1, .int x6]) (rest := []) d_BA_enterRow_62 cw_BA_enterRow_62 rfl rfl rfl (ct_BA_column hg hc) rfl rfl (by decide) sh_1 rfl (Nat.le_of_ble_eq_true rfl) (by decide) (by decide) ?_
        obtain ⟨hc, h⟩ := h
        obtain ⟨⟨b2, t2⟩, h⟩ := h
        refine ak_VI (as := []) (rest := []) d_BA_enterRow_65 cw_BA_enterRow_65 rfl rfl rfl (ct_CO_isStored hg hc) rfl rfl b2 t2 rfl (Nat.le_of_ble_eq_true rfl) (by decide) (by decide) ?_
        refine am_istore (lv2 := [(7, .int (f_CO_isStored s (f_BA_column s x1 x6))), (0, .ref 1), (1, .int x1), (2, .ref x2), (3, .int x3), (4, .int x4), (5, .int x5), (6, .int x6)]) d_BA_enterRow_68 (by decide) rfl ?_
        refine am_aload_n (j := 1) d_BA_enterRow_70 rfl rfl ?_
        refine am_getR (t := 8) d_BA_enterRow_71 fl_BA_43 hg (by decide) sh_1 (by decide) rfl (by decide) lk_1_9 (by decide) ?_
        refine am_iload_n (j := 2) d_BA_enterRow_74 rfl rfl ?_
        refine am_iload (j := 6) d_BA_enterRow_75 rfl ?_
        refine am_iload (j := 7) d_BA_enterRow_77 rfl ?_
        refine am_iload (j := 0) d_BA_enterRow_79 rfl ?_
        refine ai_ne (F := am_oC) (tgt := 89) d_BA_enterRow_81 (by decide) (fun c => ?_) (fun c => ?_)
        · have h := h.2 c
          refine am_iload (j := 7) d_BA_enterRow_89 rfl ?_
          refine am_iload_n (j := 4) d_BA_enterRow_91 rfl rfl ?_
          refine aj_ne (F := am_oC) (tgt := 100) d_BA_enterRow_92 (by decide) (fun c => ?_) (fun c => ?_)
          · have h := h.2 c
            refine am_aload_n (j := 3) d_BA_enterRow_100 rfl rfl ?_
            refine am_iload (j := 7) d_BA_enterRow_101 rfl ?_
            obtain ⟨hv, h⟩ := h
            refine am_iald d_BA_enterRow_103 b1 t1 hv ?_
            refine am_sub [1, 2, 3, 4, 5, 6, 7, 0] (lv2 := [(0, .ref 1), (1, .int x1), (2, .ref x2), (3, .int x3), (4, .int x4), (5, .int x5), (6, .int x6), (7, .int (f_CO_isStored s (f_BA_column s x1 x6)))]) rfl ?_
            exact w_BA_enterRow_104 hg hK44 h
          · have h := h.1 c
            refine am_iload (j := 5) d_BA_enterRow_95 rfl ?_
            refine am_goto (tgt := 104) d_BA_enterRow_97 (by decide) ?_
            refine am_sub [1, 2, 3, 4, 5, 6, 7, 0] (lv2 := [(0, .ref 1), (1, .int x1), (2, .ref x2), (3, .int x3), (4, .int x4), (5, .int x5), (6, .int x6), (7, .int (f_CO_isStored s (f_BA_column s x1 x6)))]) rfl ?_
            exact w_BA_enterRow_104 hg hK44 h
        · have h := h.1 c
          refine am_ldc (v := (-1000000 : Int32)) d_BA_enterRow_84 aw_2_161 ?_
          refine am_goto (tgt := 104) d_BA_enterRow_86 (by decide) ?_
          refine am_sub [1, 2, 3, 4, 5, 6, 7, 0] (lv2 := [(0, .ref 1), (1, .int x1), (2, .ref x2), (3, .int x3), (4, .int x4), (5, .int x5), (6, .int x6), (7, .int (f_CO_isStored s (f_BA_column s x1 x6)))]) rfl ?_
          exact w_BA_enterRow_104 hg hK44 h
def f_BA_enterRow  (s : am_M) (x1 : Int32) (x2 : Nat) (x3 : Int32) (x4 : Int32) : Int32 × am_M := (if (f_RO_isFull s 8 x1) = 0 then (f_BA_enterRow_44 am_F (f_RO_make (am_set (f_BA_keep s) 1 12 (((f_BA_keep s) 1 12) + (1 : Int32))) 8 x1 ((am_set (f_BA_keep s) 1 12 (((f_BA_keep s) 1 12) + (1 : Int32))) 1 12)).2 x2 x1 x3 x4 (f_RO_make (am_set (f_BA_keep s) 1 12 (((f_BA_keep s) 1 12) + (1 : Int32))) 8 x1 ((am_set (f_BA_keep s) 1 12 (((f_BA_keep s) 1 12) + (1 : Int32))) 1 12)).1 (0 : Int32)) else ((-1 : Int32), s))
def p_BA_enterRow  (s : am_M) (x1 : Int32) (x2 : Nat) (x3 : Int32) (x4 : Int32) : Prop := p_RO_isFull s 8 x1 ∧ ((((f_RO_isFull s 8 x1) = 0) → p_BA_keep s ∧ (p_RO_make (am_set (f_BA_keep s) 1 12 (((f_BA_keep s) 1 12) + (1 : Int32))) 8 x1 ((am_set (f_BA_keep s) 1 12 (((f_BA_keep s) 1 12) + (1 : Int32))) 1 12) ∧ ((p_BA_enterRow_44 am_F (f_RO_make (am_set (f_BA_keep s) 1 12 (((f_BA_keep s) 1 12) + (1 : Int32))) 8 x1 ((am_set (f_BA_keep s) 1 12 (((f_BA_keep s) 1 12) + (1 : Int32))) 1 12)).2 x2 x1 x3 x4 (f_RO_make (am_set (f_BA_keep s) 1 12 (((f_BA_keep s) 1 12) + (1 : Int32))) 8 x1 ((am_set (f_BA_keep s) 1 12 (((f_BA_keep s) 1 12) + (1 : Int32))) 1 12)).1 (0 : Int32))))) ∧ (¬ ((f_RO_isFull s 8 x1) = 0) → True))
set_option maxRecDepth 8000 in
theorem w_BA_enterRow {l : Launch} {g : am_Gl} (hg : g.2.2.2.1 = true) {ad0 : Nat → Nat} {s : am_M} {x1 : Int32} {x2 : Nat} {x3 : Int32} {x4 : Int32} (h : p_BA_enterRow s x1 x2 x3 x4) : AW l g m_BA_enterRow 207 ad0 (am_oC (f_BA_enterRow s x1 x2 x3 x4)) 0 0 207 s 0 [(0, .ref 1), (1, .int x1), (2, .ref x2), (3, .int x3), (4, .int x4)] [] := by
  refine am_aload_n (j := 0) d_BA_enterRow_0 rfl rfl ?_
  refine am_getR (t := 8) d_BA_enterRow_1 fl_BA_43 hg (by decide) sh_1 (by decide) rfl (by decide) lk_1_9 (by decide) ?_
  refine am_iload_n (j := 1) d_BA_enterRow_4 rfl rfl ?_
  obtain ⟨hc, h⟩ := h
  refine ak_VI (as := [.int x1]) (rest := []) d_BA_enterRow_5 cw_BA_enterRow_5 rfl rfl rfl (ct_RO_isFull hg hc) rfl rfl (by decide) sh_8 rfl (Nat.le_of_ble_eq_true rfl) (by decide) (by decide) ?_
  refine ai_eq (F := am_oC) (tgt := 13) d_BA_enterRow_8 (by decide) (fun c => ?_) (fun c => ?_)
  · have h := h.1 c
    refine am_aload_n (j := 0) d_BA_enterRow_13 rfl rfl ?_
    obtain ⟨hc, h⟩ := h
    refine ak_VM (as := []) (rest := []) d_BA_enterRow_14 cw_BA_enterRow_14 rfl rfl rfl (ct_BA_keep hg hc) rfl rfl (by decide) sh_1 rfl (Nat.le_of_ble_eq_true rfl) (by decide) (by decide) ?_
    refine am_aload_n (j := 0) d_BA_enterRow_17 rfl rfl ?_
    refine am_dup d_BA_enterRow_18 rfl ?_
    refine am_getI d_BA_enterRow_19 fl_BA_259 (by decide) sh_1 (by decide) rfl ?_
    refine am_iconst (v := (1 : Int32)) d_BA_enterRow_22 (by decide) ?_
    refine am_iadd d_BA_enterRow_23 ?_
    refine am_putI (ty := .int) d_BA_enterRow_24 fl_BA_259 ft_2_12 (by decide) sh_1 (by decide) rfl rfl rfl ?_
    refine am_aload_n (j := 0) d_BA_enterRow_27 rfl rfl ?_
    refine am_getR (t := 8) d_BA_enterRow_28 fl_BA_43 hg (by decide) sh_1 (by decide) rfl (by decide) lk_1_9 (by decide) ?_
    refine am_iload_n (j := 1) d_BA_enterRow_31 rfl rfl ?_
    refine am_aload_n (j := 0) d_BA_enterRow_32 rfl rfl ?_
    refine am_getI d_BA_enterRow_33 fl_BA_259 (by decide) sh_1 (by decide) rfl ?_
    obtain ⟨hc, h⟩ := h
    refine ak_VC (as := [.int x1, .int ((am_set (f_BA_keep s) 1 12 (((f_BA_keep s) 1 12) + (1 : Int32))) 1 12)]) (rest := []) d_BA_enterRow_36 cw_BA_enterRow_36 rfl rfl rfl (ct_RO_make hg hc) rfl rfl (by decide) sh_8 rfl (Nat.le_of_ble_eq_true rfl) (by decide) (by decide) ?_
    refine am_istore (lv2 := [(5, .int (f_RO_make (am_set (f_BA_keep s) 1 12 (((f_BA_keep s) 1 12) + (1 : Int32))) 8 x1 ((am_set (f_BA_keep s) 1 12 (((f_BA_keep s) 1 12) + (1 : Int32))) 1 12)).1), (0, .ref 1), (1, .int x1), (2, .ref x2), (3, .int x3), (4, .int x4)]) d_BA_enterRow_39 (by decide) rfl ?_
    refine am_iconst (v := (0 : Int32)) d_BA_enterRow_41 (by decide) ?_
    refine am_istore (lv2 := [(6, .int (0 : Int32)), (5, .int (f_RO_make (am_set (f_BA_keep s) 1 12 (((f_BA_keep s) 1 12) + (1 : Int32))) 8 x1 ((am_set (f_BA_keep s) 1 12 (((f_BA_keep s) 1 12) + (1 : Int32))) 1 12)).1), (0, .ref 1), (1, .int x1), (2, .ref x2), (3, .int x3), (4, .int x4)]) d_BA_enterRow_42 (by decide) rfl ?_
    refine am_sub [2, 3, 4, 5, 6, 1, 0] (lv2 := [(0, .ref 1), (1, .int x1), (2, .ref x2), (3, .int x3), (4, .int x4), (5, .int (f_RO_make (am_set (f_BA_keep s) 1 12 (((f_BA_keep s) 1 12) + (1 : Int32))) 8 x1 ((am_set (f_BA_keep s) 1 12 (((f_BA_keep s) 1 12) + (1 : Int32))) 1 12)).1), (6, .int (0 : Int32))]) rfl ?_
    exact w_BA_enterRow_44 hg am_F _ _ _ _ _ _ _ h
  · have h := h.2 c
    refine am_iconst (v := (-1 : Int32)) d_BA_enterRow_11 (by decide) ?_
    exact am_iret d_BA_enterRow_12 rfl rfl (by decide) (by decide) am_oC_ok
theorem ct_BA_enterRow {l : Launch} {g : am_Gl} (hg : g.2.2.2.1 = true) {s : am_M} {x1 : Int32} {x2 : Nat} {x3 : Int32} {x4 : Int32} (h : p_BA_enterRow s x1 x2 x3 x4) : AC l g m_BA_enterRow 207 s [.ref 1, .int x1, .ref x2, .int x3, .int x4] (am_oC (f_BA_enterRow s x1 x2 x3 x4)) := am_enter ok_BA_enterRow rfl (Nat.le_of_ble_eq_true rfl) rfl (fun ad0 => w_BA_enterRow hg h)
def f_BA_hasTable  (s : am_M) (x1 : Int32) : Int32 := (if x1 < 0 then (0 : Int32) else (if (s 1 3) ≤ x1 then (0 : Int32) else (1 : Int32)))
def p_BA_hasTable  (s : am_M) (x1 : Int32) : Prop := ((x1 < 0) → True) ∧ (¬ (x1 < 0) → (((s 1 3) ≤ x1) → True) ∧ (¬ ((s 1 3) ≤ x1) → True))
set_option maxRecDepth 8000 in
theorem w_BA_hasTable {l : Launch} {g : am_Gl} (hg : g.2.2.2.1 = true) {ad0 : Nat → Nat} {s : am_M} {x1 : Int32} : AW l g m_BA_hasTable 207 ad0 ((am_oI s) (f_BA_hasTable s x1)) 0 0 207 s 0 [(0, .ref 1), (1, .int x1)] [] := by
  have h : p_BA_hasTable s x1 := by
    unfold p_BA_hasTable
    first | exact trivial | simp
  refine am_iload_n (j := 1) d_BA_hasTable_0 rfl rfl ?_
  refine ai_lt (F := (am_oI s)) (tgt := 16) d_BA_hasTable_1 (by decide) (fun c => ?_) (fun c => ?_)
  · have h := h.1 c
    refine am_iconst (v := (0 : Int32)) d_BA_hasTable_16 (by decide) ?_
    exact am_iret d_BA_hasTable_17 rfl (am_bool (Or.inl rfl)).1 (by decide) (by decide) am_oI_ok
  · have h := h.2 c
    refine am_iload_n (j := 1) d_BA_hasTable_4 rfl rfl ?_
    refine am_aload_n (j := 0) d_BA_hasTable_5 rfl rfl ?_
    refine am_getI d_BA_hasTable_6 fl_BA_67 (by decide) sh_1 (by decide) rfl ?_
    refine aj_ge (F := (am_oI s)) (tgt := 16) d_BA_hasTable_9 (by decide) (fun c => ?_) (fun c => ?_)
    · have h := h.1 c
      refine am_iconst (v := (0 : Int32)) d_BA_hasTable_16 (by decide) ?_
      exact am_iret d_BA_hasTable_17 rfl (am_bool (Or.inl rfl)).1 (by decide) (by decide) am_oI_ok
    · have h := h.2 c
      refine am_iconst (v := (1 : Int32)) d_BA_hasTable_12 (by decide) ?_
      refine am_goto (tgt := 17) d_BA_hasTable_13 (by decide) ?_
      exact am_iret d_BA_hasTable_17 rfl (am_bool (Or.inr rfl)).1 (by decide) (by decide) am_oI_ok
theorem ct_BA_hasTable {l : Launch} {g : am_Gl} (hg : g.2.2.2.1 = true) {s : am_M} {x1 : Int32} : AC l g m_BA_hasTable 207 s [.ref 1, .int x1] ((am_oI s) (f_BA_hasTable s x1)) := am_enter ok_BA_hasTable rfl (Nat.le_of_ble_eq_true rfl) rfl (fun ad0 => w_BA_hasTable hg)
theorem cw_BA_makeColumn_2 : am_cv m_BA_makeColumn m_BA_widthOf 75 1 := ⟨⟨ok_BA_widthOf, rfl, by decide +kernel, by decide, by decide⟩, aw_2_92, aw_2_81, aw_2_82⟩
def f_BA_makeColumn  (s : am_M) (x1 : Int32) (x2 : Int32) : Int32 × am_M := (if x1 < 0 then ((f_BA_widthOf s x1), s) else (if (4 : Int32) ≤ x1 then ((f_BA_widthOf s x1), s) else (if (6 : Int32) ≤ (f_BA_widthOf s x1) then ((f_BA_widthOf s x1), s) else ((f_BA_widthOf s x1), (am_set (am_set s 4 (x1).toNatClampNeg ((f_BA_widthOf s x1) + (1 : Int32))) (am_lk 2 (((x1 * (6 : Int32)) + (f_BA_widthOf s x1))).toNatClampNeg) 0 x2)))))
def p_BA_makeColumn  (s : am_M) (x1 : Int32) (x2 : Int32) : Prop := p_BA_widthOf s x1 ∧ (((x1 < 0) → True) ∧ (¬ (x1 < 0) → (((4 : Int32) ≤ x1) → True) ∧ (¬ ((4 : Int32) ≤ x1) → (((6 : Int32) ≤ (f_BA_widthOf s x1)) → True) ∧ (¬ ((6 : Int32) ≤ (f_BA_widthOf s x1)) → vp_in x1 4 ∧ (vp_in ((x1 * (6 : Int32)) + (f_BA_widthOf s x1)) 24 ∧ (((am_lk 2 (((x1 * (6 : Int32)) + (f_BA_widthOf s x1))).toNatClampNeg) < 207 ∧ am_sh (am_lk 2 (((x1 * (6 : Int32)) + (f_BA_widthOf s x1))).toNatClampNeg) = (0, 3, 11)) ∧ (True)))))))
set_option maxRecDepth 8000 in
theorem w_BA_makeColumn {l : Launch} {g : am_Gl} (hg : g.2.2.2.1 = true) {ad0 : Nat → Nat} {s : am_M} {x1 : Int32} {x2 : Int32} (h : p_BA_makeColumn s x1 x2) : AW l g m_BA_makeColumn 207 ad0 (am_oC (f_BA_makeColumn s x1 x2)) 0 0 207 s 0 [(0, .ref 1), (1, .int x1), (2, .int x2)] [] := by
  refine am_aload_n (j := 0) d_BA_makeColumn_0 rfl rfl ?_
  refine am_iload_n (j := 1) d_BA_makeColumn_1 rfl rfl ?_
  obtain ⟨hc, h⟩ := h
  refine ak_VI (as := [.int x1]) (rest := []) d_BA_makeColumn_2 cw_BA_makeColumn_2 rfl rfl rfl (ct_BA_widthOf hg hc) rfl rfl (by decide) sh_1 rfl (Nat.le_of_ble_eq_true rfl) (by decide) (by decide) ?_
  refine am_istore_n (lv2 := [(3, .int (f_BA_widthOf s x1)), (0, .ref 1), (1, .int x1), (2, .int x2)]) d_BA_makeColumn_5 rfl (by decide) rfl ?_
  refine am_iload_n (j := 2) d_BA_makeColumn_6 rfl rfl ?_
  refine ai_lt (F := am_oC) (tgt := 45) d_BA_makeColumn_7 (by decide) (fun c => ?_) (fun c => ?_)
  · have h := h.1 c
    refine am_iload_n (j := 0) d_BA_makeColumn_45 rfl rfl ?_
    exact am_iret d_BA_makeColumn_46 rfl rfl (by decide) (by decide) am_oC_ok
  · have h := h.2 c
    refine am_iload_n (j := 2) d_BA_makeColumn_10 rfl rfl ?_
    refine am_iconst (v := (4 : Int32)) d_BA_makeColumn_11 (by decide) ?_
    refine aj_ge (F := am_oC) (tgt := 45) d_BA_makeColumn_12 (by decide) (fun c => ?_) (fun c => ?_)
    · have h := h.1 c
      refine am_iload_n (j := 0) d_BA_makeColumn_45 rfl rfl ?_
      exact am_iret d_BA_makeColumn_46 rfl rfl (by decide) (by decide) am_oC_ok
    · have h := h.2 c
      refine am_iload_n (j := 0) d_BA_makeColumn_15 rfl rfl ?_
      refine am_bipush (v := (6 : Int32)) d_BA_makeColumn_16 (by decide) ?_
      refine aj_ge (F := am_oC) (tgt := 45) d_BA_makeColumn_18 (by decide) (fun c => ?_) (fun c => ?_)
      · have h := h.1 c
        refine am_iload_n (j := 0) d_BA_makeColumn_45 rfl rfl ?_
        exact am_iret d_BA_makeColumn_46 rfl rfl (by decide) (by decide) am_oC_ok
      · have h := h.2 c
        refine am_aload_n (j := 1) d_BA_makeColumn_21 rfl rfl ?_
        refine am_getR (t := 4) d_BA_makeColumn_22 fl_BA_22 hg (by decide) sh_1 (by decide) rfl (by decide) lk_1_2 (by decide) ?_
        refine am_iload_n (j := 2) d_BA_makeColumn_25 rfl rfl ?_
        refine am_iload_n (j := 0) d_BA_makeColumn_26 rfl rfl ?_
        refine am_iconst (v := (1 : Int32)) d_BA_makeColumn_27 (by decide) ?_
        refine am_iadd d_BA_makeColumn_28 ?_
        obtain ⟨hv, h⟩ := h
        refine am_iast d_BA_makeColumn_29 (by decide) sh_4 hv ?_
        refine am_aload_n (j := 1) d_BA_makeColumn_30 rfl rfl ?_
        refine am_getR (t := 2) d_BA_makeColumn_31 fl_BA_11 hg (by decide) sh_1 (by decide) rfl (by decide) lk_1_0 (by decide) ?_
        refine am_iload_n (j := 2) d_BA_makeColumn_34 rfl rfl ?_
        refine am_bipush (v := (6 : Int32)) d_BA_makeColumn_35 (by decide) ?_
        refine am_imul d_BA_makeColumn_37 ?_
        refine am_iload_n (j := 0) d_BA_makeColumn_38 rfl rfl ?_
        refine am_iadd d_BA_makeColumn_39 ?_
        obtain ⟨hv, h⟩ := h
        obtain ⟨⟨b1, t1⟩, h⟩ := h
        refine am_aalL d_BA_makeColumn_40 hg (by decide) sh_2 (by decide) (by decide) hv rfl b1 ?_
        refine am_iload_n (j := 3) d_BA_makeColumn_41 rfl rfl ?_
        refine am_putI (ty := .int) d_BA_makeColumn_42 fl_BA_98 ft_3_0 b1 t1 (by decide) rfl rfl rfl ?_
        refine am_iload_n (j := 0) d_BA_makeColumn_45 rfl rfl ?_
        exact am_iret d_BA_makeColumn_46 rfl rfl (by decide) (by decide) am_oC_ok
theorem ct_BA_makeColumn {l : Launch} {g : am_Gl} (hg : g.2.2.2.1 = true) {s : am_M} {x1 : Int32} {x2 : Int32} (h : p_BA_makeColumn s x1 x2) : AC l g m_BA_makeColumn 207 s [.ref 1, .int x1, .int x2] (am_oC (f_BA_makeColumn s x1 x2)) := am_enter ok_BA_makeColumn rfl (Nat.le_of_ble_eq_true rfl) rfl (fun ad0 => w_BA_makeColumn hg h)
theorem cw_BA_makeLink_3 : am_cv m_BA_makeLink m_BA_makeColumn 101 2 := ⟨⟨ok_BA_makeColumn, rfl, by decide +kernel, by decide, by decide⟩, aw_2_88, aw_2_90, as_0_5⟩
theorem cw_BA_makeLink_12 : am_cv m_BA_makeLink m_BA_column 79 2 := ⟨⟨ok_BA_column, rfl, by decide +kernel, by decide, by decide⟩, aw_2_93, aw_2_94, aw_2_95⟩
def f_BA_makeLink  (s : am_M) (x1 : Int32) (x2 : Int32) (x3 : Int32) : Int32 × am_M := ((f_BA_makeColumn s x1 (2 : Int32)).1, (am_set (am_set (f_BA_makeColumn s x1 (2 : Int32)).2 (f_BA_column (f_BA_makeColumn s x1 (2 : Int32)).2 x1 (f_BA_makeColumn s x1 (2 : Int32)).1) 3 x2) (f_BA_column (f_BA_makeColumn s x1 (2 : Int32)).2 x1 (f_BA_makeColumn s x1 (2 : Int32)).1) 4 x3))
def p_BA_makeLink  (s : am_M) (x1 : Int32) (x2 : Int32) (x3 : Int32) : Prop := p_BA_makeColumn s x1 (2 : Int32) ∧ (p_BA_column (f_BA_makeColumn s x1 (2 : Int32)).2 x1 (f_BA_makeColumn s x1 (2 : Int32)).1 ∧ (((f_BA_column (f_BA_makeColumn s x1 (2 : Int32)).2 x1 (f_BA_makeColumn s x1 (2 : Int32)).1) < 207 ∧ am_sh (f_BA_column (f_BA_makeColumn s x1 (2 : Int32)).2 x1 (f_BA_makeColumn s x1 (2 : Int32)).1) = (0, 3, 11)) ∧ (True)))
set_option maxRecDepth 8000 in
theorem w_BA_makeLink {l : Launch} {g : am_Gl} (hg : g.2.2.2.1 = true) {ad0 : Nat → Nat} {s : am_M} {x1 : Int32} {x2 : Int32} {x3 : Int32} (h : p_BA_makeLink s x1 x2 x3) : AW l g m_BA_makeLink 207 ad0 (am_oC (f_BA_makeLink s x1 x2 x3)) 0 0 207 s 0 [(0, .ref 1), (1, .int x1), (2, .int x2), (3, .int x3)] [] := by
  refine am_aload_n (j := 0) d_BA_makeLink_0 rfl rfl ?_
  refine am_iload_n (j := 1) d_BA_makeLink_1 rfl rfl ?_
  refine am_iconst (v := (2 : Int32)) d_BA_makeLink_2 (by decide) ?_
  obtain ⟨hc, h⟩ := h
  refine ak_VC (as := [.int x1, .int (2 : Int32)]) (rest := []) d_BA_makeLink_3 cw_BA_makeLink_3 rfl rfl rfl (ct_BA_makeColumn hg hc) rfl rfl (by decide) sh_1 rfl (Nat.le_of_ble_eq_true rfl) (by decide) (by decide) ?_
  refine am_istore (lv2 := [(4, .int (f_BA_makeColumn s x1 (2 : Int32)).1), (0, .ref 1), (1, .int x1), (2, .int x2), (3, .int x3)]) d_BA_makeLink_6 (by decide) rfl ?_
  refine am_aload_n (j := 1) d_BA_makeLink_8 rfl rfl ?_
  refine am_iload_n (j := 2) d_BA_makeLink_9 rfl rfl ?_
  refine am_iload (j := 0) d_BA_makeLink_10 rfl ?_
  obtain ⟨hc, h⟩ := h
  refine ak_VR (as := [.int x1, .int (f_BA_makeColumn s x1 (2 : Int32)).1]) (rest := []) d_BA_makeLink_12 cw_BA_makeLink_12 rfl rfl rfl (ct_BA_column hg hc) rfl rfl (by decide) sh_1 rfl (Nat.le_of_ble_eq_true rfl) (by decide) (by decide) ?_
  refine am_astore (lv2 := [(5, .ref (f_BA_column (f_BA_makeColumn s x1 (2 : Int32)).2 x1 (f_BA_makeColumn s x1 (2 : Int32)).1)), (4, .int (f_BA_makeColumn s x1 (2 : Int32)).1), (0, .ref 1), (1, .int x1), (2, .int x2), (3, .int x3)]) d_BA_makeLink_15 (by decide) rfl ?_
  refine am_aload (j := 0) d_BA_makeLink_17 rfl ?_
  refine am_iload_n (j := 4) d_BA_makeLink_19 rfl rfl ?_
  obtain ⟨⟨b1, t1⟩, h⟩ := h
  refine am_putI (ty := .int) d_BA_makeLink_20 fl_BA_111 ft_3_3 b1 t1 (by decide) rfl rfl rfl ?_
  refine am_aload (j := 0) d_BA_makeLink_23 rfl ?_
  refine am_iload_n (j := 5) d_BA_makeLink_25 rfl rfl ?_
  refine am_putI (ty := .int) d_BA_makeLink_26 fl_BA_114 ft_3_4 b1 t1 (by decide) rfl rfl rfl ?_
  refine am_iload (j := 1) d_BA_makeLink_29 rfl ?_
  exact am_iret d_BA_makeLink_31 rfl rfl (by decide) (by decide) am_oC_ok
theorem ct_BA_makeLink {l : Launch} {g : am_Gl} (hg : g.2.2.2.1 = true) {s : am_M} {x1 : Int32} {x2 : Int32} {x3 : Int32} (h : p_BA_makeLink s x1 x2 x3) : AC l g m_BA_makeLink 207 s [.ref 1, .int x1, .int x2, .int x3] (am_oC (f_BA_makeLink s x1 x2 x3)) := am_enter ok_BA_makeLink rfl (Nat.le_of_ble_eq_true rfl) rfl (fun ad0 => w_BA_makeLink hg h)
theorem cw_BA_makeNumber_3 : am_cv m_BA_makeNumber m_BA_makeColumn 101 2 := ⟨⟨ok_BA_makeColumn, rfl, by decide +kernel, by decide, by decide⟩, aw_2_88, aw_2_90, as_0_5⟩
theorem cw_BA_makeNumber_12 : am_cv m_BA_makeNumber m_BA_column 79 2 := ⟨⟨ok_BA_column, rfl, by decide +kernel, by decide, by decide⟩, aw_2_93, aw_2_94, aw_2_95⟩
def f_BA_makeNumber  (s : am_M) (x1 : Int32) (x2 : Int32) (x3 : Int32) : Int32 × am_M := ((f_BA_makeColumn s x1 (1 : Int32)).1, (am_set (am_set (f_BA_makeColumn s x1 (1 : Int32)).2 (f_BA_column (f_BA_makeColumn s x1 (1 : Int32)).2 x1 (f_BA_makeColumn s x1 (1 : Int32)).1) 1 x2) (f_BA_column (f_BA_makeColumn s x1 (1 : Int32)).2 x1 (f_BA_makeColumn s x1 (1 : Int32)).1) 2 x3))
def p_BA_makeNumber  (s : am_M) (x1 : Int32) (x2 : Int32) (x3 : Int32) : Prop := p_BA_makeColumn s x1 (1 : Int32) ∧ (p_BA_column (f_BA_makeColumn s x1 (1 : Int32)).2 x1 (f_BA_makeColumn s x1 (1 : Int32)).1 ∧ (((f_BA_column (f_BA_makeColumn s x1 (1 : Int32)).2 x1 (f_BA_makeColumn s x1 (1 : Int32)).1) < 207 ∧ am_sh (f_BA_column (f_BA_makeColumn s x1 (1 : Int32)).2 x1 (f_BA_makeColumn s x1 (1 : Int32)).1) = (0, 3, 11)) ∧ (True)))
set_option maxRecDepth 8000 in
theorem w_BA_makeNumber {l : Launch} {g : am_Gl} (hg : g.2.2.2.1 = true) {ad0 : Nat → Nat} {s : am_M} {x1 : Int32} {x2 : Int32} {x3 : Int32} (h : p_BA_makeNumber s x1 x2 x3) : AW l g m_BA_makeNumber 207 ad0 (am_oC (f_BA_makeNumber s x1 x2 x3)) 0 0 207 s 0 [(0, .ref 1), (1, .int x1), (2, .int x2), (3, .int x3)] [] := by
  refine am_aload_n (j := 0) d_BA_makeNumber_0 rfl rfl ?_
  refine am_iload_n (j := 1) d_BA_makeNumber_1 rfl rfl ?_
  refine am_iconst (v := (1 : Int32)) d_BA_makeNumber_2 (by decide) ?_
  obtain ⟨hc, h⟩ := h
  refine ak_VC (as := [.int x1, .int (1 : Int32)]) (rest := []) d_BA_makeNumber_3 cw_BA_makeNumber_3 rfl rfl rfl (ct_BA_makeColumn hg hc) rfl rfl (by decide) sh_1 rfl (Nat.le_of_ble_eq_true rfl) (by decide) (by decide) ?_
  refine am_istore (lv2 := [(4, .int (f_BA_makeColumn s x1 (1 : Int32)).1), (0, .ref 1), (1, .int x1), (2, .int x2), (3, .int x3)]) d_BA_makeNumber_6 (by decide) rfl ?_
  refine am_aload_n (j := 1) d_BA_makeNumber_8 rfl rfl ?_
  refine am_iload_n (j := 2) d_BA_makeNumber_9 rfl rfl ?_
  refine am_iload (j := 0) d_BA_makeNumber_10 rfl ?_
  obtain ⟨hc, h⟩ := h
  refine ak_VR (as := [.int x1, .int (f_BA_makeColumn s x1 (1 : Int32)).1]) (rest := []) d_BA_makeNumber_12 cw_BA_makeNumber_12 rfl rfl rfl (ct_BA_column hg hc) rfl rfl (by decide) sh_1 rfl (Nat.le_of_ble_eq_true rfl) (by decide) (by decide) ?_
  refine am_astore (lv2 := [(5, .ref (f_BA_column (f_BA_makeColumn s x1 (1 : Int32)).2 x1 (f_BA_makeColumn s x1 (1 : Int32)).1)), (4, .int (f_BA_makeColumn s x1 (1 : Int32)).1), (0, .ref 1), (1, .int x1), (2, .int x2), (3, .int x3)]) d_BA_makeNumber_15 (by decide) rfl ?_
  refine am_aload (j := 0) d_BA_makeNumber_17 rfl ?_
  refine am_iload_n (j := 4) d_BA_makeNumber_19 rfl rfl ?_
  obtain ⟨⟨b1, t1⟩, h⟩ := h
  refine am_putI (ty := .int) d_BA_makeNumber_20 fl_BA_105 ft_3_1 b1 t1 (by decide) rfl rfl rfl ?_
  refine am_aload (j := 0) d_BA_makeNumber_23 rfl ?_
  refine am_iload_n (j := 5) d_BA_makeNumber_25 rfl rfl ?_
  refine am_putI (ty := .int) d_BA_makeNumber_26 fl_BA_108 ft_3_2 b1 t1 (by decide) rfl rfl rfl ?_
  refine am_iload (j := 1) d_BA_makeNumber_29 rfl ?_
  exact am_iret d_BA_makeNumber_31 rfl rfl (by decide) (by decide) am_oC_ok
theorem ct_BA_makeNumber {l : Launch} {g : am_Gl} (hg : g.2.2.2.1 = true) {s : am_M} {x1 : Int32} {x2 : Int32} {x3 : Int32} (h : p_BA_makeNumber s x1 x2 x3) : AC l g m_BA_makeNumber 207 s [.ref 1, .int x1, .int x2, .int x3] (am_oC (f_BA_makeNumber s x1 x2 x3)) := am_enter ok_BA_makeNumber rfl (Nat.le_of_ble_eq_true rfl) rfl (fun ad0 => w_BA_makeNumber hg h)
theorem cw_BA_hasColumn_2 : am_cv m_BA_hasColumn m_BA_hasTable 71 1 := ⟨⟨ok_BA_hasTable, rfl, by decide +kernel, by decide, by decide⟩, aw_3_22, aw_2_39, aw_2_40⟩
theorem cw_BA_hasColumn_15 : am_cv m_BA_hasColumn m_BA_widthOf 75 1 := ⟨⟨ok_BA_widthOf, rfl, by decide +kernel, by decide, by decide⟩, aw_2_92, aw_2_81, aw_2_82⟩
def f_BA_hasColumn  (s : am_M) (x1 : Int32) (x2 : Int32) : Int32 := (if (f_BA_hasTable s x1) = 0 then (0 : Int32) else (if x2 < 0 then (0 : Int32) else (if (f_BA_widthOf s x1) ≤ x2 then (0 : Int32) else (1 : Int32))))
def p_BA_hasColumn  (s : am_M) (x1 : Int32) (x2 : Int32) : Prop := (((f_BA_hasTable s x1) = 0) → True) ∧ (¬ ((f_BA_hasTable s x1) = 0) → ((x2 < 0) → True) ∧ (¬ (x2 < 0) → p_BA_widthOf s x1 ∧ ((((f_BA_widthOf s x1) ≤ x2) → True) ∧ (¬ ((f_BA_widthOf s x1) ≤ x2) → True))))
set_option maxRecDepth 8000 in
theorem w_BA_hasColumn {l : Launch} {g : am_Gl} (hg : g.2.2.2.1 = true) {ad0 : Nat → Nat} {s : am_M} {x1 : Int32} {x2 : Int32} (h : p_BA_hasColumn s x1 x2) : AW l g m_BA_hasColumn 207 ad0 ((am_oI s) (f_BA_hasColumn s x1 x2)) 0 0 207 s 0 [(0, .ref 1), (1, .int x1), (2, .int x2)] [] := by
  refine am_aload_n (j := 0) d_BA_hasColumn_0 rfl rfl ?_
  refine am_iload_n (j := 1) d_BA_hasColumn_1 rfl rfl ?_
  refine ak_VI (as := [.int x1]) (rest := []) d_BA_hasColumn_2 cw_BA_hasColumn_2 rfl rfl rfl (ct_BA_hasTable hg) rfl rfl (by decide) sh_1 rfl (Nat.le_of_ble_eq_true rfl) (by decide) (by decide) ?_
  refine ai_eq (F := (am_oI s)) (tgt := 25) d_BA_hasColumn_5 (by decide) (fun c => ?_) (fun c => ?_)
  · have h := h.1 c
    refine am_iconst (v := (0 : Int32)) d_BA_hasColumn_25 (by decide) ?_
    exact am_iret d_BA_hasColumn_26 rfl (am_bool (Or.inl rfl)).1 (by decide) (by decide) am_oI_ok
  · have h := h.2 c
    refine am_iload_n (j := 2) d_BA_hasColumn_8 rfl rfl ?_
    refine ai_lt (F := (am_oI s)) (tgt := 25) d_BA_hasColumn_9 (by decide) (fun c => ?_) (fun c => ?_)
    · have h := h.1 c
      refine am_iconst (v := (0 : Int32)) d_BA_hasColumn_25 (by decide) ?_
      exact am_iret d_BA_hasColumn_26 rfl (am_bool (Or.inl rfl)).1 (by decide) (by decide) am_oI_ok
    · have h := h.2 c
      refine am_iload_n (j := 2) d_BA_hasColumn_12 rfl rfl ?_
      refine am_aload_n (j := 0) d_BA_hasColumn_13 rfl rfl ?_
      refine am_iload_n (j := 1) d_BA_hasColumn_14 rfl rfl ?_
      obtain ⟨hc, h⟩ := h
      refine ak_VI (as := [.int x1]) (rest := [.int x2]) d_BA_hasColumn_15 cw_BA_hasColumn_15 rfl rfl rfl (ct_BA_widthOf hg hc) rfl rfl (by decide) sh_1 rfl (Nat.le_of_ble_eq_true rfl) (by decide) (by decide) ?_
      refine aj_ge (F := (am_oI s)) (tgt := 25) d_BA_hasColumn_18 (by decide) (fun c => ?_) (fun c => ?_)
      · have h := h.1 c
        refine am_iconst (v := (0 : Int32)) d_BA_hasColumn_25 (by decide) ?_
        exact am_iret d_BA_hasColumn_26 rfl (am_bool (Or.inl rfl)).1 (by decide) (by decide) am_oI_ok
      · have h := h.2 c
        refine am_iconst (v := (1 : Int32)) d_BA_hasColumn_21 (by decide) ?_
        refine am_goto (tgt := 26) d_BA_hasColumn_22 (by decide) ?_
        exact am_iret d_BA_hasColumn_26 rfl (am_bool (Or.inr rfl)).1 (by decide) (by decide) am_oI_ok
theorem ct_BA_hasColumn {l : Launch} {g : am_Gl} (hg : g.2.2.2.1 = true) {s : am_M} {x1 : Int32} {x2 : Int32} (h : p_BA_hasColumn s x1 x2) : AC l g m_BA_hasColumn 207 s [.ref 1, .int x1, .int x2] ((am_oI s) (f_BA_hasColumn s x1 x2)) := am_enter ok_BA_hasColumn rfl (Nat.le_of_ble_eq_true rfl) rfl (fun ad0 => w_BA_hasColumn hg h)
def f_BA_tableOfOne  (s : am_M) (x1 : Nat) (x2 : Int32) : Int32 := (if (s x1 7) = (3 : Int32) then (s x1 10) else (if (s x1 7) = (4 : Int32) then (s x1 10) else x2))
def p_BA_tableOfOne  (s : am_M) (x1 : Nat) (x2 : Int32) : Prop := (x1 < 207 ∧ am_sh x1 = (0, 3, 11)) ∧ ((((s x1 7) = (3 : Int32)) → True) ∧ (¬ ((s x1 7) = (3 : Int32)) → (((s x1 7) = (4 : Int32)) → True) ∧ (¬ ((s x1 7) = (4 : Int32)) → True)))
set_option maxRecDepth 8000 in
theorem w_BA_tableOfOne {l : Launch} {g : am_Gl} (hg : g.2.2.2.1 = true) {ad0 : Nat → Nat} {s : am_M} {x1 : Nat} {x2 : Int32} (h : p_BA_tableOfOne s x1 x2) : AW l g m_BA_tableOfOne 207 ad0 ((am_oI s) (f_BA_tableOfOne s x1 x2)) 0 0 207 s 0 [(0, .ref 1), (1, .ref x1), (2, .int x2)] [] := by
  refine am_aload_n (j := 1) d_BA_tableOfOne_0 rfl rfl ?_
  obtain ⟨⟨b1, t1⟩, h⟩ := h
  refine am_getI d_BA_tableOfOne_1 fl_BA_126 b1 t1 (by decide) rfl ?_
  refine am_iconst (v := (3 : Int32)) d_BA_tableOfOne_4 (by decide) ?_
  refine aj_eq (F := (am_oI s)) (tgt := 16) d_BA_tableOfOne_5 (by decide) (fun c => ?_) (fun c => ?_)
  · have h := h.1 c
    refine am_aload_n (j := 1) d_BA_tableOfOne_16 rfl rfl ?_
    refine am_getI d_BA_tableOfOne_17 fl_BA_135 b1 t1 (by decide) rfl ?_
    refine am_goto (tgt := 24) d_BA_tableOfOne_20 (by decide) ?_
    exact am_iret d_BA_tableOfOne_24 rfl rfl (by decide) (by decide) am_oI_ok
  · have h := h.2 c
    refine am_aload_n (j := 1) d_BA_tableOfOne_8 rfl rfl ?_
    refine am_getI d_BA_tableOfOne_9 fl_BA_126 b1 t1 (by decide) rfl ?_
    refine am_iconst (v := (4 : Int32)) d_BA_tableOfOne_12 (by decide) ?_
    refine aj_ne (F := (am_oI s)) (tgt := 23) d_BA_tableOfOne_13 (by decide) (fun c => ?_) (fun c => ?_)
    · have h := h.2 c
      refine am_iload_n (j := 2) d_BA_tableOfOne_23 rfl rfl ?_
      exact am_iret d_BA_tableOfOne_24 rfl rfl (by decide) (by decide) am_oI_ok
    · have h := h.1 c
      refine am_aload_n (j := 1) d_BA_tableOfOne_16 rfl rfl ?_
      refine am_getI d_BA_tableOfOne_17 fl_BA_135 b1 t1 (by decide) rfl ?_
      refine am_goto (tgt := 24) d_BA_tableOfOne_20 (by decide) ?_
      exact am_iret d_BA_tableOfOne_24 rfl rfl (by decide) (by decide) am_oI_ok
theorem ct_BA_tableOfOne {l : Launch} {g : am_Gl} (hg : g.2.2.2.1 = true) {s : am_M} {x1 : Nat} {x2 : Int32} (h : p_BA_tableOfOne s x1 x2) : AC l g m_BA_tableOfOne 207 s [.ref 1, .ref x1, .int x2] ((am_oI s) (f_BA_tableOfOne s x1 x2)) := am_enter ok_BA_tableOfOne rfl (Nat.le_of_ble_eq_true rfl) rfl (fun ad0 => w_BA_tableOfOne hg h)
theorem cw_BA_isKnown_10 : am_cv m_BA_isKnown m_BA_column 79 2 := ⟨⟨ok_BA_column, rfl, by decide +kernel, by decide, by decide⟩, aw_2_93, aw_2_94, aw_2_95⟩
def f_BA_isKnown  (s : am_M) (x1 : Int32) (x2 : Int32) : Int32 := (if (s (f_BA_column s x1 x2) 0) = (3 : Int32) then (if ((x1 * (6 : Int32)) + x2) < 0 then (1 : Int32) else (if (24 : Int32) ≤ ((x1 * (6 : Int32)) + x2) then (1 : Int32) else (if (s 17 (((x1 * (6 : Int32)) + x2)).toNatClampNeg) = 0 then (0 : Int32) else (1 : Int32)))) else (1 : Int32))
def p_BA_isKnown  (s : am_M) (x1 : Int32) (x2 : Int32) : Prop := p_BA_column s x1 x2 ∧ (((f_BA_column s x1 x2) < 207 ∧ am_sh (f_BA_column s x1 x2) = (0, 3, 11)) ∧ ((((s (f_BA_column s x1 x2) 0) = (3 : Int32)) → ((((x1 * (6 : Int32)) + x2) < 0) → True) ∧ (¬ (((x1 * (6 : Int32)) + x2) < 0) → (((24 : Int32) ≤ ((x1 * (6 : Int32)) + x2)) → True) ∧ (¬ ((24 : Int32) ≤ ((x1 * (6 : Int32)) + x2)) → vp_in ((x1 * (6 : Int32)) + x2) 24 ∧ ((((s 17 (((x1 * (6 : Int32)) + x2)).toNatClampNeg) = 0) → True) ∧ (¬ ((s 17 (((x1 * (6 : Int32)) + x2)).toNatClampNeg) = 0) → True))))) ∧ (¬ ((s (f_BA_column s x1 x2) 0) = (3 : Int32)) → True)))
set_option maxRecDepth 8000 in
theorem w_BA_isKnown {l : Launch} {g : am_Gl} (hg : g.2.2.2.1 = true) {ad0 : Nat → Nat} {s : am_M} {x1 : Int32} {x2 : Int32} (h : p_BA_isKnown s x1 x2) : AW l g m_BA_isKnown 207 ad0 ((am_oI s) (f_BA_isKnown s x1 x2)) 0 0 207 s 0 [(0, .ref 1), (1, .int x1), (2, .int x2)] [] := by
  refine am_iload_n (j := 1) d_BA_isKnown_0 rfl rfl ?_
  refine am_bipush (v := (6 : Int32)) d_BA_isKnown_1 (by decide) ?_
  refine am_imul d_BA_isKnown_3 ?_
  refine am_iload_n (j := 2) d_BA_isKnown_4 rfl rfl ?_
  refine am_iadd d_BA_isKnown_5 ?_
  refine am_istore_n (lv2 := [(3, .int ((x1 * (6 : Int32)) + x2)), (0, .ref 1), (1, .int x1), (2, .int x2)]) d_BA_isKnown_6 rfl (by decide) rfl ?_
  refine am_aload_n (j := 1) d_BA_isKnown_7 rfl rfl ?_
  refine am_iload_n (j := 2) d_BA_isKnown_8 rfl rfl ?_
  refine am_iload_n (j := 3) d_BA_isKnown_9 rfl rfl ?_
  obtain ⟨hc, h⟩ := h
  refine ak_VR (as := [.int x1, .int x2]) (rest := []) d_BA_isKnown_10 cw_BA_isKnown_10 rfl rfl rfl (ct_BA_column hg hc) rfl rfl (by decide) sh_1 rfl (Nat.le_of_ble_eq_true rfl) (by decide) (by decide) ?_
  obtain ⟨⟨b1, t1⟩, h⟩ := h
  refine am_getI d_BA_isKnown_13 fl_BA_98 b1 t1 (by decide) rfl ?_
  refine am_iconst (v := (3 : Int32)) d_BA_isKnown_16 (by decide) ?_
  refine aj_ne (F := (am_oI s)) (tgt := 42) d_BA_isKnown_17 (by decide) (fun c => ?_) (fun c => ?_)
  · have h := h.2 c
    refine am_iconst (v := (1 : Int32)) d_BA_isKnown_42 (by decide) ?_
    refine am_goto (tgt := 47) d_BA_isKnown_43 (by decide) ?_
    exact am_iret d_BA_isKnown_47 rfl (am_bool (Or.inr rfl)).1 (by decide) (by decide) am_oI_ok
  · have h := h.1 c
    refine am_iload_n (j := 0) d_BA_isKnown_20 rfl rfl ?_
    refine ai_lt (F := (am_oI s)) (tgt := 42) d_BA_isKnown_21 (by decide) (fun c => ?_) (fun c => ?_)
    · have h := h.1 c
      refine am_iconst (v := (1 : Int32)) d_BA_isKnown_42 (by decide) ?_
      refine am_goto (tgt := 47) d_BA_isKnown_43 (by decide) ?_
      exact am_iret d_BA_isKnown_47 rfl (am_bool (Or.inr rfl)).1 (by decide) (by decide) am_oI_ok
    · have h := h.2 c
      refine am_iload_n (j := 0) d_BA_isKnown_24 rfl rfl ?_
      refine am_aload_n (j := 1) d_BA_isKnown_25 rfl rfl ?_
      refine am_getR (t := 17) d_BA_isKnown_26 fl_BA_57 hg (by decide) sh_1 (by decide) rfl (by decide) lk_1_13 (by decide) ?_
      refine am_alen (v := (24 : Int32)) d_BA_isKnown_29 (by decide) sh_17 (by decide) (by decide) ?_
      refine aj_ge (F := (am_oI s)) (tgt := 42) d_BA_isKnown_30 (by decide) (fun c => ?_) (fun c => ?_)
      · have h := h.1 c
        refine am_iconst (v := (1 : Int32)) d_BA_isKnown_42 (by decide) ?_
        refine am_goto (tgt := 47) d_BA_isKnown_43 (by decide) ?_
        exact am_iret d_BA_isKnown_47 rfl (am_bool (Or.inr rfl)).1 (by decide) (by decide) am_oI_ok
      · have h := h.2 c
        refine am_aload_n (j := 1) d_BA_isKnown_33 rfl rfl ?_
        refine am_getR (t := 17) d_BA_isKnown_34 fl_BA_57 hg (by decide) sh_1 (by decide) rfl (by decide) lk_1_13 (by decide) ?_
        refine am_iload_n (j := 0) d_BA_isKnown_37 rfl rfl ?_
        obtain ⟨hv, h⟩ := h
        refine am_zald d_BA_isKnown_38 (by decide) sh_17 hv ?_
        refine ai_eq (F := (am_oI s)) (tgt := 46) d_BA_isKnown_39 (by decide) (fun c => ?_) (fun c => ?_)
        · have h := h.1 c
          refine am_iconst (v := (0 : Int32)) d_BA_isKnown_46 (by decide) ?_
          exact am_iret d_BA_isKnown_47 rfl (am_bool (Or.inl rfl)).1 (by decide) (by decide) am_oI_ok
        · have h := h.2 c
          refine am_iconst (v := (1 : Int32)) d_BA_isKnown_42 (by decide) ?_
          refine am_goto (tgt := 47) d_BA_isKnown_43 (by decide) ?_
          exact am_iret d_BA_isKnown_47 rfl (am_bool (Or.inr rfl)).1 (by decide) (by decide) am_oI_ok
theorem ct_BA_isKnown {l : Launch} {g : am_Gl} (hg : g.2.2.2.1 = true) {s : am_M} {x1 : Int32} {x2 : Int32} (h : p_BA_isKnown s x1 x2) : AC l g m_BA_isKnown 207 s [.ref 1, .int x1, .int x2] ((am_oI s) (f_BA_isKnown s x1 x2)) := am_enter ok_BA_isKnown rfl (Nat.le_of_ble_eq_true rfl) rfl (fun ad0 => w_BA_isKnown hg h)
theorem cw_BA_tableOfTwo_26 : am_cv m_BA_tableOfTwo m_BA_tableOfOne 188 2 := ⟨⟨ok_BA_tableOfOne, rfl, by decide +kernel, by decide, by decide⟩, aw_4_28, aw_4_30, as_3_7⟩
theorem cw_BA_tableOfTwo_14 : am_cv m_BA_tableOfTwo m_BA_column 79 2 := ⟨⟨ok_BA_column, rfl, by decide +kernel, by decide, by decide⟩, aw_2_93, aw_2_94, aw_2_95⟩
def f_BA_tableOfTwo  (s : am_M) (x1 : Nat) (x2 : Int32) : Int32 := (if (s x1 7) = (2 : Int32) then (s (f_BA_column s x2 (s x1 8)) 3) else (f_BA_tableOfOne s x1 x2))
def p_BA_tableOfTwo  (s : am_M) (x1 : Nat) (x2 : Int32) : Prop := (x1 < 207 ∧ am_sh x1 = (0, 3, 11)) ∧ ((((s x1 7) = (2 : Int32)) → p_BA_column s x2 (s x1 8) ∧ (((f_BA_column s x2 (s x1 8)) < 207 ∧ am_sh (f_BA_column s x2 (s x1 8)) = (0, 3, 11)) ∧ (True))) ∧ (¬ ((s x1 7) = (2 : Int32)) → p_BA_tableOfOne s x1 x2 ∧ (True)))
set_option maxRecDepth 8000 in
theorem w_BA_tableOfTwo {l : Launch} {g : am_Gl} (hg : g.2.2.2.1 = true) {ad0 : Nat → Nat} {s : am_M} {x1 : Nat} {x2 : Int32} (h : p_BA_tableOfTwo s x1 x2) : AW l g m_BA_tableOfTwo 207 ad0 ((am_oI s) (f_BA_tableOfTwo s x1 x2)) 0 0 207 s 0 [(0, .ref 1), (1, .ref x1), (2, .int x2)] [] := by
  refine am_aload_n (j := 1) d_BA_tableOfTwo_0 rfl rfl ?_
  obtain ⟨⟨b1, t1⟩, h⟩ := h
  refine am_getI d_BA_tableOfTwo_1 fl_BA_126 b1 t1 (by decide) rfl ?_
  refine am_iconst (v := (2 : Int32)) d_BA_tableOfTwo_4 (by decide) ?_
  refine aj_ne (F := (am_oI s)) (tgt := 23) d_BA_tableOfTwo_5 (by decide) (fun c => ?_) (fun c => ?_)
  · have h := h.2 c
    refine am_aload_n (j := 0) d_BA_tableOfTwo_23 rfl rfl ?_
    refine am_aload_n (j := 1) d_BA_tableOfTwo_24 rfl rfl ?_
    refine am_iload_n (j := 2) d_BA_tableOfTwo_25 rfl rfl ?_
    obtain ⟨hc, h⟩ := h
    refine ak_VI (as := [.ref x1, .int x2]) (rest := []) d_BA_tableOfTwo_26 cw_BA_tableOfTwo_26 rfl rfl rfl (ct_BA_tableOfOne hg hc) rfl rfl (by decide) sh_1 rfl (Nat.le_of_ble_eq_true rfl) (by decide) (by decide) ?_
    exact am_iret d_BA_tableOfTwo_29 rfl rfl (by decide) (by decide) am_oI_ok
  · have h := h.1 c
    refine am_aload_n (j := 0) d_BA_tableOfTwo_8 rfl rfl ?_
    refine am_iload_n (j := 2) d_BA_tableOfTwo_9 rfl rfl ?_
    refine am_aload_n (j := 1) d_BA_tableOfTwo_10 rfl rfl ?_
    refine am_getI d_BA_tableOfTwo_11 fl_BA_129 b1 t1 (by decide) rfl ?_
    obtain ⟨hc, h⟩ := h
    refine ak_VR (as := [.int x2, .int (s x1 8)]) (rest := []) d_BA_tableOfTwo_14 cw_BA_tableOfTwo_14 rfl rfl rfl (ct_BA_column hg hc) rfl rfl (by decide) sh_1 rfl (Nat.le_of_ble_eq_true rfl) (by decide) (by decide) ?_
    obtain ⟨⟨b2, t2⟩, h⟩ := h
    refine am_getI d_BA_tableOfTwo_17 fl_BA_111 b2 t2 (by decide) rfl ?_
    refine am_goto (tgt := 29) d_BA_tableOfTwo_20 (by decide) ?_
    exact am_iret d_BA_tableOfTwo_29 rfl rfl (by decide) (by decide) am_oI_ok
theorem ct_BA_tableOfTwo {l : Launch} {g : am_Gl} (hg : g.2.2.2.1 = true) {s : am_M} {x1 : Nat} {x2 : Int32} (h : p_BA_tableOfTwo s x1 x2) : AC l g m_BA_tableOfTwo 207 s [.ref 1, .ref x1, .int x2] ((am_oI s) (f_BA_tableOfTwo s x1 x2)) := am_enter ok_BA_tableOfTwo rfl (Nat.le_of_ble_eq_true rfl) rfl (fun ad0 => w_BA_tableOfTwo hg h)
theorem cw_BA_isReady_4 : am_cv m_BA_isReady m_BA_tableOfOne 188 2 := ⟨⟨ok_BA_tableOfOne, rfl, by decide +kernel, by decide, by decide⟩, aw_4_28, aw_4_30, as_3_7⟩
theorem cw_BA_isReady_11 : am_cv m_BA_isReady m_BA_isKnown 206 2 := ⟨⟨ok_BA_isKnown, rfl, by decide +kernel, by decide, by decide⟩, aw_4_32, aw_4_34, as_3_8⟩
theorem cw_BA_isReady_31 : am_cv m_BA_isReady m_BA_tableOfTwo 192 2 := ⟨⟨ok_BA_tableOfTwo, rfl, by decide +kernel, by decide, by decide⟩, aw_4_36, aw_4_38, as_3_9⟩
theorem cw_BA_isReady_38 : am_cv m_BA_isReady m_BA_isKnown 206 2 := ⟨⟨ok_BA_isKnown, rfl, by decide +kernel, by decide, by decide⟩, aw_4_32, aw_4_34, as_3_8⟩
def f_BA_isReady  (s : am_M) (x1 : Nat) (x2 : Int32) : Int32 := (if (f_BA_isKnown s (f_BA_tableOfOne s x1 x2) (s x1 8)) = 0 then (0 : Int32) else (if (s x1 7) = (4 : Int32) then (1 : Int32) else (if (f_BA_isKnown s (f_BA_tableOfTwo s x1 x2) (s x1 9)) = 0 then (0 : Int32) else (1 : Int32))))
def p_BA_isReady  (s : am_M) (x1 : Nat) (x2 : Int32) : Prop := p_BA_tableOfOne s x1 x2 ∧ ((x1 < 207 ∧ am_sh x1 = (0, 3, 11)) ∧ (p_BA_isKnown s (f_BA_tableOfOne s x1 x2) (s x1 8) ∧ ((((f_BA_isKnown s (f_BA_tableOfOne s x1 x2) (s x1 8)) = 0) → True) ∧ (¬ ((f_BA_isKnown s (f_BA_tableOfOne s x1 x2) (s x1 8)) = 0) → (((s x1 7) = (4 : Int32)) → True) ∧ (¬ ((s x1 7) = (4 : Int32)) → p_BA_tableOfTwo s x1 x2 ∧ (p_BA_isKnown s (f_BA_tableOfTwo s x1 x2) (s x1 9) ∧ ((((f_BA_isKnown s (f_BA_tableOfTwo s x1 x2) (s x1 9)) = 0) → True) ∧ (¬ ((f_BA_isKnown s (f_BA_tableOfTwo s x1 x2) (s x1 9)) = 0) → True))))))))
set_option maxRecDepth 8000 in
theorem w_BA_isReady {l : Launch} {g : am_Gl} (hg : g.2.2.2.1 = true) {ad0 : Nat → Nat} {s : am_M} {x1 : Nat} {x2 : Int32} (h : p_BA_isReady s x1 x2) : AW l g m_BA_isReady 207 ad0 ((am_oI s) (f_BA_isReady s x1 x2)) 0 0 207 s 0 [(0, .ref 1), (1, .ref x1), (2, .int x2)] [] := by
  refine am_aload_n (j := 0) d_BA_isReady_0 rfl rfl ?_
  refine am_aload_n (j := 0) d_BA_isReady_1 rfl rfl ?_
  refine am_aload_n (j := 1) d_BA_isReady_2 rfl rfl ?_
  refine am_iload_n (j := 2) d_BA_isReady_3 rfl rfl ?_
  obtain ⟨hc, h⟩ := h
  refine ak_VI (as := [.ref x1, .int x2]) (rest := [.ref 1]) d_BA_isReady_4 cw_BA_isReady_4 rfl rfl rfl (ct_BA_tableOfOne hg hc) rfl rfl (by decide) sh_1 rfl (Nat.le_of_ble_eq_true rfl) (by decide) (by decide) ?_
  refine am_aload_n (j := 1) d_BA_isReady_7 rfl rfl ?_
  obtain ⟨⟨b1, t1⟩, h⟩ := h
  refine am_getI d_BA_isReady_8 fl_BA_129 b1 t1 (by decide) rfl ?_
  obtain ⟨hc, h⟩ := h
  refine ak_VI (as := [.int (f_BA_tableOfOne s x1 x2), .int (s x1 8)]) (rest := []) d_BA_isReady_11 cw_BA_isReady_11 rfl rfl rfl (ct_BA_isKnown hg hc) rfl rfl (by decide) sh_1 rfl (Nat.le_of_ble_eq_true rfl) (by decide) (by decide) ?_
  refine ai_ne (F := (am_oI s)) (tgt := 19) d_BA_isReady_14 (by decide) (fun c => ?_) (fun c => ?_)
  · have h := h.2 c
    refine am_aload_n (j := 1) d_BA_isReady_19 rfl rfl ?_
    refine am_getI d_BA_isReady_20 fl_BA_126 b1 t1 (by decide) rfl ?_
    refine am_iconst (v := (4 : Int32)) d_BA_isReady_23 (by decide) ?_
    refine aj_eq (F := (am_oI s)) (tgt := 44) d_BA_isReady_24 (by decide) (fun c => ?_) (fun c => ?_)
    · have h := h.1 c
      refine am_iconst (v := (1 : Int32)) d_BA_isReady_44 (by decide) ?_
      refine am_goto (tgt := 49) d_BA_isReady_45 (by decide) ?_
      exact am_iret d_BA_isReady_49 rfl (am_bool (Or.inr rfl)).1 (by decide) (by decide) am_oI_ok
    · have h := h.2 c
      refine am_aload_n (j := 0) d_BA_isReady_27 rfl rfl ?_
      refine am_aload_n (j := 0) d_BA_isReady_28 rfl rfl ?_
      refine am_aload_n (j := 1) d_BA_isReady_29 rfl rfl ?_
      refine am_iload_n (j := 2) d_BA_isReady_30 rfl rfl ?_
      obtain ⟨hc, h⟩ := h
      refine ak_VI (as := [.ref x1, .int x2]) (rest := [.ref 1]) d_BA_isReady_31 cw_BA_isReady_31 rfl rfl rfl (ct_BA_tableOfTwo hg hc) rfl rfl (by decide) sh_1 rfl (Nat.le_of_ble_eq_true rfl) (by decide) (by decide) ?_
      refine am_aload_n (j := 1) d_BA_isReady_34 rfl rfl ?_
      refine am_getI d_BA_isReady_35 fl_BA_132 b1 t1 (by decide) rfl ?_
      obtain ⟨hc, h⟩ := h
      refine ak_VI (as := [.int (f_BA_tableOfTwo s x1 x2), .int (s x1 9)]) (rest := []) d_BA_isReady_38 cw_BA_isReady_38 rfl rfl rfl (ct_BA_isKnown hg hc) rfl rfl (by decide) sh_1 rfl (Nat.le_of_ble_eq_true rfl) (by decide) (by decide) ?_
      refine ai_eq (F := (am_oI s)) (tgt := 48) d_BA_isReady_41 (by decide) (fun c => ?_) (fun c => ?_)
      · have h := h.1 c
        refine am_iconst (v := (0 : Int32)) d_BA_isReady_48 (by decide) ?_
        exact am_iret d_BA_isReady_49 rfl (am_bool (Or.inl rfl)).1 (by decide) (by decide) am_oI_ok
      · have h := h.2 c
        refine am_iconst (v := (1 : Int32)) d_BA_isReady_44 (by decide) ?_
        refine am_goto (tgt := 49) d_BA_isReady_45 (by decide) ?_
        exact am_iret d_BA_isReady_49 rfl (am_bool (Or.inr rfl)).1 (by decide) (by decide) am_oI_ok
  · have h := h.1 c
    refine am_iconst (v := (0 : Int32)) d_BA_isReady_17 (by decide) ?_
    exact am_iret d_BA_isReady_18 rfl (am_bool (Or.inl rfl)).1 (by decide) (by decide) am_oI_ok
theorem ct_BA_isReady {l : Launch} {g : am_Gl} (hg : g.2.2.2.1 = true) {s : am_M} {x1 : Nat} {x2 : Int32} (h : p_BA_isReady s x1 x2) : AC l g m_BA_isReady 207 s [.ref 1, .ref x1, .int x2] ((am_oI s) (f_BA_isReady s x1 x2)) := am_enter ok_BA_isReady rfl (Nat.le_of_ble_eq_true rfl) rfl (fun ad0 => w_BA_isReady hg h)
theorem cw_BA_nextReady_44 : am_cv m_BA_nextReady m_BA_isReady 202 2 := ⟨⟨ok_BA_isReady, rfl, by decide +kernel, by decide, by decide⟩, aw_4_24, aw_4_26, as_3_6⟩
def f_BA_nextReady_52 (K2 : Int32 → Int32) (s : am_M) (x1 : Int32) : Int32 := (K2 (x1 + (1 : Int32)))
def p_BA_nextReady_52 (KP2 : Int32 → Prop) (s : am_M) (x1 : Int32) : Prop := (KP2 (x1 + (1 : Int32)))
set_option maxRecDepth 8000 in
theorem w_BA_nextReady_52 {l : Launch} {g : am_Gl} (hg : g.2.2.2.1 = true) {ad0 : Nat → Nat} {s : am_M} {K2 : Int32 → Int32} {KP2 : Int32 → Prop} (hK2 : ∀ (x1 : Int32), KP2 x1 → AW l g m_BA_nextReady 207 ad0 ((am_oI s) (K2 x1)) 0 0 207 s 2 [(0, .ref 1), (1, .int x1)] []) {x1 : Int32} (h : p_BA_nextReady_52 KP2 s x1) : AW l g m_BA_nextReady 207 ad0 ((am_oI s) (f_BA_nextReady_52 K2 s x1)) 0 0 207 s 52 [(0, .ref 1), (1, .int x1)] [] := by
  refine am_iinc (j := 1) (v := (x1 + (1 : Int32))) (lv2 := [(1, .int (x1 + (1 : Int32))), (0, .ref 1)]) d_BA_nextReady_52 rfl rfl (by decide) rfl ?_
  refine am_goto (tgt := 2) d_BA_nextReady_55 (by decide) ?_
  refine am_sub [1, 0] (lv2 := [(0, .ref 1), (1, .int (x1 + (1 : Int32)))]) rfl ?_
  exact hK2 _ h
def f_BA_nextReady_2  : Nat → am_M → Int32 → Int32
  | 0, s, x1 => 0
  | n + 1, s, x1 => (if (24 : Int32) ≤ x1 then (-1 : Int32) else (if (s (am_lk 2 (x1).toNatClampNeg) 0) = (3 : Int32) then (if (s 17 (x1).toNatClampNeg) = 0 then (if (f_BA_isReady s (am_lk 2 (x1).toNatClampNeg) (x1 / (6 : Int32))) = 0 then (f_BA_nextReady_52 (f_BA_nextReady_2  n s) s x1) else x1) else (f_BA_nextReady_52 (f_BA_nextReady_2  n s) s x1)) else (f_BA_nextReady_52 (f_BA_nextReady_2  n s) s x1)))
def p_BA_nextReady_2  : Nat → am_M → Int32 → Prop
  | 0, s, x1 => False
  | n + 1, s, x1 => (((24 : Int32) ≤ x1) → True) ∧ (¬ ((24 : Int32) ≤ x1) → vp_in x1 24 ∧ (((am_lk 2 (x1).toNatClampNeg) < 207 ∧ am_sh (am_lk 2 (x1).toNatClampNeg) = (0, 3, 11)) ∧ ((((s (am_lk 2 (x1).toNatClampNeg) 0) = (3 : Int32)) → vp_in x1 24 ∧ ((((s 17 (x1).toNatClampNeg) = 0) → vp_in x1 24 ∧ (p_BA_isReady s (am_lk 2 (x1).toNatClampNeg) (x1 / (6 : Int32)) ∧ ((((f_BA_isReady s (am_lk 2 (x1).toNatClampNeg) (x1 / (6 : Int32))) = 0) → (p_BA_nextReady_52 (p_BA_nextReady_2  n s) s x1)) ∧ (¬ ((f_BA_isReady s (am_lk 2 (x1).toNatClampNeg) (x1 / (6 : Int32))) = 0) → True)))) ∧ (¬ ((s 17 (x1).toNatClampNeg) = 0) → (p_BA_nextReady_52 (p_BA_nextReady_2  n s) s x1)))) ∧ (¬ ((s (am_lk 2 (x1).toNatClampNeg) 0) = (3 : Int32)) → (p_BA_nextReady_52 (p_BA_nextReady_2  n s) s x1)))))
set_option maxRecDepth 8000 in
theorem w_BA_nextReady_2 {l : Launch} {g : am_Gl} (hg : g.2.2.2.1 = true) {ad0 : Nat → Nat} {s : am_M}   : ∀ (n : Nat) (x1 : Int32), p_BA_nextReady_2  n s x1 → AW l g m_BA_nextReady 207 ad0 ((am_oI s) (f_BA_nextReady_2  n s x1)) 0 0 207 s 2 [(0, .ref 1), (1, .int x1)] [] := by
  intro n
  induction n with
  | zero => intro x1 h; exact h.elim
  | succ n hK2 =>
    intro x1 h
    refine am_iload_n (j := 1) d_BA_nextReady_2 rfl rfl ?_
    refine am_aload_n (j := 0) d_BA_nextReady_3 rfl rfl ?_
    refine am_getR (t := 2) d_BA_nextReady_4 fl_BA_11 hg (by decide) sh_1 (by decide) rfl (by decide) lk_1_0 (by decide) ?_
    refine am_alen (v := (24 : Int32)) d_BA_nextReady_7 (by decide) sh_2 (by decide) (by decide) ?_
    refine aj_ge (F := (am_oI s)) (tgt := 58) d_BA_nextReady_8 (by decide) (fun c => ?_) (fun c => ?_)
    · have h := h.1 c
      refine am_iconst (v := (-1 : Int32)) d_BA_nextReady_58 (by decide) ?_
      exact am_iret d_BA_nextReady_59 rfl rfl (by decide) (by decide) am_oI_ok
    · have h := h.2 c
      refine am_aload_n (j := 0) d_BA_nextReady_11 rfl rfl ?_
      refine am_getR (t := 2) d_BA_nextReady_12 fl_BA_11 hg (by decide) sh_1 (by decide) rfl (by decide) lk_1_0 (by decide) ?_
      refine am_iload_n (j := 1) d_BA_nextReady_15 rfl rfl ?_
      obtain ⟨hv, h⟩ := h
      obtain ⟨⟨b1, t1⟩, h⟩ := h
      refine am_aalL d_BA_nextReady_16 hg (by decide) sh_2 (by decide) (by decide) hv rfl b1 ?_
      refine am_getI d_BA_nextReady_17 fl_BA_98 b1 t1 (by decide) rfl ?_
      refine am_iconst (v := (3 : Int32)) d_BA_nextReady_20 (by decide) ?_
      refine aj_ne (F := (am_oI s)) (tgt := 52) d_BA_nextReady_21 (by decide) (fun c => ?_) (fun c => ?_)
      · have h := h.2 c
        exact w_BA_nextReady_52 hg hK2 h
      · have h := h.1 c
        refine am_aload_n (j := 0) d_BA_nextReady_24 rfl rfl ?_
        refine am_getR (t := 17) d_BA_nextReady_25 fl_BA_57 hg (by decide) sh_1 (by decide) rfl (by decide) lk_1_13 (by decide) ?_
        refine am_iload_n (j := 1) d_BA_nextReady_28 rfl rfl ?_
        obtain ⟨hv, h⟩ := h
        refine am_zald d_BA_nextReady_29 (by decide) sh_17 hv ?_
        refine ai_ne (F := (am_oI s)) (tgt := 52) d_BA_nextReady_30 (by decide) (fun c => ?_) (fun c => ?_)
        · have h := h.2 c
          exact w_BA_nextReady_52 hg hK2 h
        · have h := h.1 c
          refine am_aload_n (j := 0) d_BA_nextReady_33 rfl rfl ?_
          refine am_aload_n (j := 0) d_BA_nextReady_34 rfl rfl ?_
          refine am_getR (t := 2) d_BA_nextReady_35 fl_BA_11 hg (by decide) sh_1 (by decide) rfl (by decide) lk_1_0 (by decide) ?_
          refine am_iload_n (j := 1) d_BA_nextReady_38 rfl rfl ?_
          obtain ⟨hv, h⟩ := h
          refine am_aalL d_BA_nextReady_39 hg (by decide) sh_2 (by decide) (by decide) hv rfl b1 ?_
          refine am_iload_n (j := 1) d_BA_nextReady_40 rfl rfl ?_
          refine am_bipush (v := (6 : Int32)) d_BA_nextReady_41 (by decide) ?_
          refine am_idiv d_BA_nextReady_43 (by decide) ?_
          obtain ⟨hc, h⟩ := h
          refine ak_VI (as := [.ref (am_lk 2 (x1).toNatClampNeg), .int (x1 / (6 : Int32))]) (rest := []) d_BA_nextReady_44 cw_BA_nextReady_44 rfl rfl rfl (ct_BA_isReady hg hc) rfl rfl (by decide) sh_1 rfl (Nat.le_of_ble_eq_true rfl) (by decide) (by decide) ?_
          refine ai_eq (F := (am_oI s)) (tgt := 52) d_BA_nextReady_47 (by decide) (fun c => ?_) (fun c => ?_)
          · have h := h.1 c
            exact w_BA_nextReady_52 hg hK2 h
          · have h := h.2 c
            refine am_iload_n (j := 1) d_BA_nextReady_50 rfl rfl ?_
            exact am_iret d_BA_nextReady_51 rfl rfl (by decide) (by decide) am_oI_ok
def f_BA_nextReady  (s : am_M)  : Int32 := (f_BA_nextReady_2 am_F s (0 : Int32))
def p_BA_nextReady  (s : am_M)  : Prop := (p_BA_nextReady_2 am_F s (0 : Int32))
set_option maxRecDepth 8000 in
theorem w_BA_nextReady {l : Launch} {g : am_Gl} (hg : g.2.2.2.1 = true) {ad0 : Nat → Nat} {s : am_M}  (h : p_BA_nextReady s ) : AW l g m_BA_nextReady 207 ad0 ((am_oI s) (f_BA_nextReady s )) 0 0 207 s 0 [(0, .ref 1)] [] := by
  refine am_iconst (v := (0 : Int32)) d_BA_nextReady_0 (by decide) ?_
  refine am_istore_n (lv2 := [(1, .int (0 : Int32)), (0, .ref 1)]) d_BA_nextReady_1 rfl (by decide) rfl ?_
  refine am_sub [1, 0] (lv2 := [(0, .ref 1), (1, .int (0 : Int32))]) rfl ?_
  exact w_BA_nextReady_2 hg am_F _ h
theorem ct_BA_nextReady {l : Launch} {g : am_Gl} (hg : g.2.2.2.1 = true) {s : am_M}  (h : p_BA_nextReady s ) : AC l g m_BA_nextReady 207 s [.ref 1] ((am_oI s) (f_BA_nextReady s )) := am_enter ok_BA_nextReady rfl (Nat.le_of_ble_eq_true rfl) rfl (fun ad0 => w_BA_nextReady hg h)
theorem cw_BA_putInOrder_68 : am_cv m_BA_putInOrder m_BA_nextReady 198 0 := ⟨⟨ok_BA_nextReady, rfl, by decide +kernel, by decide, by decide⟩, aw_4_20, aw_4_22, as_3_5⟩
def f_BA_putInOrder_36 (K4 : am_M → Int32 → Int32 → Int32 × am_M) (s : am_M) (x1 : Int32) (x2 : Int32) : Int32 × am_M := (K4 s x1 (x2 + (1 : Int32)))
def p_BA_putInOrder_36 (KP4 : am_M → Int32 → Int32 → Prop) (s : am_M) (x1 : Int32) (x2 : Int32) : Prop := (KP4 s x1 (x2 + (1 : Int32)))
set_option maxRecDepth 8000 in
theorem w_BA_putInOrder_36 {l : Launch} {g : am_Gl} (hg : g.2.2.2.1 = true) {ad0 : Nat → Nat} {K4 : am_M → Int32 → Int32 → Int32 × am_M} {KP4 : am_M → Int32 → Int32 → Prop} (hK4 : ∀ (s : am_M) (x1 : Int32) (x2 : Int32), KP4 s x1 x2 → AW l g m_BA_putInOrder 207 ad0 (am_oC (K4 s x1 x2)) 0 0 207 s 4 [(0, .ref 1), (1, .int x1), (2, .int x2)] []) {s : am_M} {x1 : Int32} {x2 : Int32} (h : p_BA_putInOrder_36 KP4 s x1 x2) : AW l g m_BA_putInOrder 207 ad0 (am_oC (f_BA_putInOrder_36 K4 s x1 x2)) 0 0 207 s 36 [(0, .ref 1), (1, .int x1), (2, .int x2)] [] := by
  refine am_iinc (j := 2) (v := (x2 + (1 : Int32))) (lv2 := [(2, .int (x2 + (1 : Int32))), (0, .ref 1), (1, .int x1)]) d_BA_putInOrder_36 rfl rfl (by decide) rfl ?_
  refine am_goto (tgt := 4) d_BA_putInOrder_39 (by decide) ?_
  refine am_sub [1, 2, 0] (lv2 := [(0, .ref 1), (1, .int x1), (2, .int (x2 + (1 : Int32)))]) rfl ?_
  exact hK4 _ _ _ h
def f_BA_putInOrder_47  : Nat → am_M → Int32 → Int32 → Int32 × am_M
  | 0, s, x1, x2 => (0, s)
  | n + 1, s, x1, x2 => (if x1 ≤ (s 1 8) then ((1 : Int32), s) else (if (24 : Int32) ≤ (s 1 8) then ((1 : Int32), s) else (if 0 ≤ (f_BA_nextReady s) then ((f_BA_putInOrder_47  n) (am_set (am_set (am_set s 17 ((f_BA_nextReady s)).toNatClampNeg (1 : Int32)) 7 (((am_set s 17 ((f_BA_nextReady s)).toNatClampNeg (1 : Int32)) 1 8)).toNatClampNeg (((10 : Int32) * ((f_BA_nextReady s) / (6 : Int32))) + ((f_BA_nextReady s) - (f_BA_nextReady s) / (6 : Int32) * (6 : Int32)))) 1 8 (((am_set (am_set s 17 ((f_BA_nextReady s)).toNatClampNeg (1 : Int32)) 7 (((am_set s 17 ((f_BA_nextReady s)).toNatClampNeg (1 : Int32)) 1 8)).toNatClampNeg (((10 : Int32) * ((f_BA_nextReady s) / (6 : Int32))) + ((f_BA_nextReady s) - (f_BA_nextReady s) / (6 : Int32) * (6 : Int32)))) 1 8) + (1 : Int32))) x1 (f_BA_nextReady s)) else ((0 : Int32), s))))
def p_BA_putInOrder_47  : Nat → am_M → Int32 → Int32 → Prop
  | 0, s, x1, x2 => False
  | n + 1, s, x1, x2 => ((x1 ≤ (s 1 8)) → True) ∧ (¬ (x1 ≤ (s 1 8)) → (((24 : Int32) ≤ (s 1 8)) → True) ∧ (¬ ((24 : Int32) ≤ (s 1 8)) → p_BA_nextReady s ∧ (((0 ≤ (f_BA_nextReady s)) → vp_in (f_BA_nextReady s) 24 ∧ (vp_in ((am_set s 17 ((f_BA_nextReady s)).toNatClampNeg (1 : Int32)) 1 8) 24 ∧ (((p_BA_putInOrder_47  n) (am_set (am_set (am_set s 17 ((f_BA_nextReady s)).toNatClampNeg (1 : Int32)) 7 (((am_set s 17 ((f_BA_nextReady s)).toNatClampNeg (1 : Int32)) 1 8)).toNatClampNeg (((10 : Int32) * ((f_BA_nextReady s) / (6 : Int32))) + ((f_BA_nextReady s) - (f_BA_nextReady s) / (6 : Int32) * (6 : Int32)))) 1 8 (((am_set (am_set s 17 ((f_BA_nextReady s)).toNatClampNeg (1 : Int32)) 7 (((am_set s 17 ((f_BA_nextReady s)).toNatClampNeg (1 : Int32)) 1 8)).toNatClampNeg (((10 : Int32) * ((f_BA_nextReady s) / (6 : Int32))) + ((f_BA_nextReady s) - (f_BA_nextReady s) / (6 : Int32) * (6 : Int32)))) 1 8) + (1 : Int32))) x1 (f_BA_nextReady s))))) ∧ (¬ (0 ≤ (f_BA_nextReady s)) → True))))
set_option maxRecDepth 8000 in
theorem w_BA_putInOrder_47 {l : Launch} {g : am_Gl} (hg : g.2.2.2.1 = true) {ad0 : Nat → Nat}   : ∀ (n : Nat) (s : am_M) (x1 : Int32) (x2 : Int32), p_BA_putInOrder_47  n s x1 x2 → AW l g m_BA_putInOrder 207 ad0 (am_oC (f_BA_putInOrder_47  n s x1 x2)) 0 0 207 s 47 [(0, .ref 1), (1, .int x1), (2, .int x2)] [] := by
  intro n
  induction n with
  | zero => intro s x1 x2 h; exact h.elim
  | succ n hK47 =>
    intro s x1 x2 h
    refine am_aload_n (j := 0) d_BA_putInOrder_47 rfl rfl ?_
    refine am_getI d_BA_putInOrder_48 fl_BA_195 (by decide) sh_1 (by decide) rfl ?_
    refine am_iload_n (j := 1) d_BA_putInOrder_51 rfl rfl ?_
    refine aj_ge (F := am_oC) (tgt := 119) d_BA_putInOrder_52 (by decide) (fun c => ?_) (fun c => ?_)
    · have h := h.1 c
      refine am_iconst (v := (1 : Int32)) d_BA_putInOrder_119 (by decide) ?_
      exact am_iret d_BA_putInOrder_120 rfl (am_bool (Or.inr rfl)).1 (by decide) (by decide) am_oC_ok
    · have h := h.2 c
      refine am_aload_n (j := 0) d_BA_putInOrder_55 rfl rfl ?_
      refine am_getI d_BA_putInOrder_56 fl_BA_195 (by decide) sh_1 (by decide) rfl ?_
      refine am_aload_n (j := 0) d_BA_putInOrder_59 rfl rfl ?_
      refine am_getR (t := 7) d_BA_putInOrder_60 fl_BA_37 hg (by decide) sh_1 (by decide) rfl (by decide) lk_1_7 (by decide) ?_
      refine am_alen (v := (24 : Int32)) d_BA_putInOrder_63 (by decide) sh_7 (by decide) (by decide) ?_
      refine aj_ge (F := am_oC) (tgt := 119) d_BA_putInOrder_64 (by decide) (fun c => ?_) (fun c => ?_)
      · have h := h.1 c
        refine am_iconst (v := (1 : Int32)) d_BA_putInOrder_119 (by decide) ?_
        exact am_iret d_BA_putInOrder_120 rfl (am_bool (Or.inr rfl)).1 (by decide) (by decide) am_oC_ok
      · have h := h.2 c
        refine am_aload_n (j := 0) d_BA_putInOrder_67 rfl rfl ?_
        obtain ⟨hc, h⟩ := h
        refine ak_VI (as := []) (rest := []) d_BA_putInOrder_68 cw_BA_putInOrder_68 rfl rfl rfl (ct_BA_nextReady hg hc) rfl rfl (by decide) sh_1 rfl (Nat.le_of_ble_eq_true rfl) (by decide) (by decide) ?_
        refine am_istore_n (lv2 := [(2, .int (f_BA_nextReady s)), (0, .ref 1), (1, .int x1)]) d_BA_putInOrder_71 rfl (by decide) rfl ?_
        refine am_iload_n (j := 0) d_BA_putInOrder_72 rfl rfl ?_
        refine ai_ge (F := am_oC) (tgt := 78) d_BA_putInOrder_73 (by decide) (fun c => ?_) (fun c => ?_)
        · have h := h.1 c
          refine am_aload_n (j := 1) d_BA_putInOrder_78 rfl rfl ?_
          refine am_getR (t := 17) d_BA_putInOrder_79 fl_BA_57 hg (by decide) sh_1 (by decide) rfl (by decide) lk_1_13 (by decide) ?_
          refine am_iload_n (j := 0) d_BA_putInOrder_82 rfl rfl ?_
          refine am_iconst (v := (1 : Int32)) d_BA_putInOrder_83 (by decide) ?_
          obtain ⟨hv, h⟩ := h
          refine am_zast d_BA_putInOrder_84 (by decide) sh_17 hv (Or.inr rfl) ?_
          refine am_aload_n (j := 1) d_BA_putInOrder_85 rfl rfl ?_
          refine am_getR (t := 7) d_BA_putInOrder_86 fl_BA_37 hg (by decide) sh_1 (by decide) rfl (by decide) lk_1_7 (by decide) ?_
          refine am_aload_n (j := 1) d_BA_putInOrder_89 rfl rfl ?_
          refine am_getI d_BA_putInOrder_90 fl_BA_195 (by decide) sh_1 (by decide) rfl ?_
          refine am_bipush (v := (10 : Int32)) d_BA_putInOrder_93 (by decide) ?_
          refine am_iload_n (j := 0) d_BA_putInOrder_95 rfl rfl ?_
          refine am_bipush (v := (6 : Int32)) d_BA_putInOrder_96 (by decide) ?_
          refine am_idiv d_BA_putInOrder_98 (by decide) ?_
          refine am_imul d_BA_putInOrder_99 ?_
          refine am_iload_n (j := 0) d_BA_putInOrder_100 rfl rfl ?_
          refine am_bipush (v := (6 : Int32)) d_BA_putInOrder_101 (by decide) ?_
          refine am_irem d_BA_putInOrder_103 (by decide) ?_
          refine am_iadd d_BA_putInOrder_104 ?_
          obtain ⟨hv, h⟩ := h
          refine am_iast d_BA_putInOrder_105 (by decide) sh_7 hv ?_
          refine am_aload_n (j := 1) d_BA_putInOrder_106 rfl rfl ?_
          refine am_dup d_BA_putInOrder_107 rfl ?_
          refine am_getI d_BA_putInOrder_108 fl_BA_195 (by decide) sh_1 (by decide) rfl ?_
          refine am_iconst (v := (1 : Int32)) d_BA_putInOrder_111 (by decide) ?_
          refine am_iadd d_BA_putInOrder_112 ?_
          refine am_putI (ty := .int) d_BA_putInOrder_113 fl_BA_195 ft_2_8 (by decide) sh_1 (by decide) rfl rfl rfl ?_
          refine am_goto (tgt := 47) d_BA_putInOrder_116 (by decide) ?_
          refine am_sub [1, 2, 0] (lv2 := [(0, .ref 1), (1, .int x1), (2, .int (f_BA_nextReady s))]) rfl ?_
          exact hK47 _ _ _ h
        · have h := h.2 c
          refine am_iconst (v := (0 : Int32)) d_BA_putInOrder_76 (by decide) ?_
          exact am_iret d_BA_putInOrder_77 rfl (am_bool (Or.inl rfl)).1 (by decide) (by decide) am_oC_ok
def f_BA_putInOrder_42  (s : am_M) (x1 : Int32) (x2 : Int32) : Int32 × am_M := (f_BA_putInOrder_47 am_F (am_set s 1 8 (0 : Int32)) x1 x2)
def p_BA_putInOrder_42  (s : am_M) (x1 : Int32) (x2 : Int32) : Prop := (p_BA_putInOrder_47 am_F (am_set s 1 8 (0 : Int32)) x1 x2)
set_option maxRecDepth 8000 in
theorem w_BA_putInOrder_42 {l : Launch} {g : am_Gl} (hg : g.2.2.2.1 = true) {ad0 : Nat → Nat}  {s : am_M} {x1 : Int32} {x2 : Int32} (h : p_BA_putInOrder_42  s x1 x2) : AW l g m_BA_putInOrder 207 ad0 (am_oC (f_BA_putInOrder_42  s x1 x2)) 0 0 207 s 42 [(0, .ref 1), (1, .int x1), (2, .int x2)] [] := by
  refine am_aload_n (j := 0) d_BA_putInOrder_42 rfl rfl ?_
  refine am_iconst (v := (0 : Int32)) d_BA_putInOrder_43 (by decide) ?_
  refine am_putI (ty := .int) d_BA_putInOrder_44 fl_BA_195 ft_2_8 (by decide) sh_1 (by decide) rfl rfl rfl ?_
  exact w_BA_putInOrder_47 hg am_F _ _ _ h
def f_BA_putInOrder_4  : Nat → am_M → Int32 → Int32 → Int32 × am_M
  | 0, s, x1, x2 => (0, s)
  | n + 1, s, x1, x2 => (if (24 : Int32) ≤ x2 then (f_BA_putInOrder_42 s x1 x2) else (if ((am_set s 17 (x2).toNatClampNeg (0 : Int32)) (am_lk 2 (x2).toNatClampNeg) 0) = (3 : Int32) then (f_BA_putInOrder_36 (f_BA_putInOrder_4  n) (am_set s 17 (x2).toNatClampNeg (0 : Int32)) (x1 + (1 : Int32)) x2) else (f_BA_putInOrder_36 (f_BA_putInOrder_4  n) (am_set s 17 (x2).toNatClampNeg (0 : Int32)) x1 x2)))
def p_BA_putInOrder_4  : Nat → am_M → Int32 → Int32 → Prop
  | 0, s, x1, x2 => False
  | n + 1, s, x1, x2 => (((24 : Int32) ≤ x2) → (p_BA_putInOrder_42 s x1 x2)) ∧ (¬ ((24 : Int32) ≤ x2) → vp_in x2 24 ∧ (vp_in x2 24 ∧ (((am_lk 2 (x2).toNatClampNeg) < 207 ∧ am_sh (am_lk 2 (x2).toNatClampNeg) = (0, 3, 11)) ∧ (((((am_set s 17 (x2).toNatClampNeg (0 : Int32)) (am_lk 2 (x2).toNatClampNeg) 0) = (3 : Int32)) → (p_BA_putInOrder_36 (p_BA_putInOrder_4  n) (am_set s 17 (x2).toNatClampNeg (0 : Int32)) (x1 + (1 : Int32)) x2)) ∧ (¬ (((am_set s 17 (x2).toNatClampNeg (0 : Int32)) (am_lk 2 (x2).toNatClampNeg) 0) = (3 : Int32)) → (p_BA_putInOrder_36 (p_BA_putInOrder_4  n) (am_set s 17 (x2).toNatClampNeg (0 : Int32)) x1 x2))))))
set_option maxRecDepth 8000 in
theorem w_BA_putInOrder_4 {l : Launch} {g : am_Gl} (hg : g.2.2.2.1 = true) {ad0 : Nat → Nat}   : ∀ (n : Nat) (s : am_M) (x1 : Int32) (x2 : Int32), p_BA_putInOrder_4  n s x1 x2 → AW l g m_BA_putInOrder 207 ad0 (am_oC (f_BA_putInOrder_4  n s x1 x2)) 0 0 207 s 4 [(0, .ref 1), (1, .int x1), (2, .int x2)] [] := by
  intro n
  induction n with
  | zero => intro s x1 x2 h; exact h.elim
  | succ n hK4 =>
    intro s x1 x2 h
    refine am_iload_n (j := 2) d_BA_putInOrder_4 rfl rfl ?_
    refine am_aload_n (j := 0) d_BA_putInOrder_5 rfl rfl ?_
    refine am_getR (t := 2) d_BA_putInOrder_6 fl_BA_11 hg (by decide) sh_1 (by decide) rfl (by decide) lk_1_0 (by decide) ?_
    refine am_alen (v := (24 : Int32)) d_BA_putInOrder_9 (by decide) sh_2 (by decide) (by decide) ?_
    refine aj_ge (F := am_oC) (tgt := 42) d_BA_putInOrder_10 (by decide) (fun c => ?_) (fun c => ?_)
    · have h := h.1 c
      exact w_BA_putInOrder_42 hg h
    · have h := h.2 c
      refine am_aload_n (j := 0) d_BA_putInOrder_13 rfl rfl ?_
      refine am_getR (t := 17) d_BA_putInOrder_14 fl_BA_57 hg (by decide) sh_1 (by decide) rfl (by decide) lk_1_13 (by decide) ?_
      refine am_iload_n (j := 2) d_BA_putInOrder_17 rfl rfl ?_
      refine am_iconst (v := (0 : Int32)) d_BA_putInOrder_18 (by decide) ?_
      obtain ⟨hv, h⟩ := h
      refine am_zast d_BA_putInOrder_19 (by decide) sh_17 hv (Or.inl rfl) ?_
      refine am_aload_n (j := 0) d_BA_putInOrder_20 rfl rfl ?_
      refine am_getR (t := 2) d_BA_putInOrder_21 fl_BA_11 hg (by decide) sh_1 (by decide) rfl (by decide) lk_1_0 (by decide) ?_
      refine am_iload_n (j := 2) d_BA_putInOrder_24 rfl rfl ?_
      obtain ⟨hv, h⟩ := h
      obtain ⟨⟨b1, t1⟩, h⟩ := h
      refine am_aalL d_BA_putInOrder_25 hg (by decide) sh_2 (by decide) (by decide) hv rfl b1 ?_
      refine am_getI d_BA_putInOrder_26 fl_BA_98 b1 t1 (by decide) rfl ?_
      refine am_iconst (v := (3 : Int32)) d_BA_putInOrder_29 (by decide) ?_
      refine aj_ne (F := am_oC) (tgt := 36) d_BA_putInOrder_30 (by decide) (fun c => ?_) (fun c => ?_)
      · have h := h.2 c
        exact w_BA_putInOrder_36 hg hK4 h
      · have h := h.1 c
        refine am_iinc (j := 1) (v := (x1 + (1 : Int32))) (lv2 := [(1, .int (x1 + (1 : Int32))), (0, .ref 1), (2, .int x2)]) d_BA_putInOrder_33 rfl rfl (by decide) rfl ?_
        refine am_sub [1, 0, 2] (lv2 := [(0, .ref 1), (1, .int (x1 + (1 : Int32))), (2, .int x2)]) rfl ?_
        exact w_BA_putInOrder_36 hg hK4 h
def f_BA_putInOrder  (s : am_M)  : Int32 × am_M := (f_BA_putInOrder_4 am_F s (0 : Int32) (0 : Int32))
def p_BA_putInOrder  (s : am_M)  : Prop := (p_BA_putInOrder_4 am_F s (0 : Int32) (0 : Int32))
set_option maxRecDepth 8000 in
theorem w_BA_putInOrder {l : Launch} {g : am_Gl} (hg : g.2.2.2.1 = true) {ad0 : Nat → Nat} {s : am_M}  (h : p_BA_putInOrder s ) : AW l g m_BA_putInOrder 207 ad0 (am_oC (f_BA_putInOrder s )) 0 0 207 s 0 [(0, .ref 1)] [] := by
  refine am_iconst (v := (0 : Int32)) d_BA_putInOrder_0 (by decide) ?_
  refine am_istore_n (lv2 := [(1, .int (0 : Int32)), (0, .ref 1)]) d_BA_putInOrder_1 rfl (by decide) rfl ?_
  refine am_iconst (v := (0 : Int32)) d_BA_putInOrder_2 (by decide) ?_
  refine am_istore_n (lv2 := [(2, .int (0 : Int32)), (1, .int (0 : Int32)), (0, .ref 1)]) d_BA_putInOrder_3 rfl (by decide) rfl ?_
  refine am_sub [2, 1, 0] (lv2 := [(0, .ref 1), (1, .int (0 : Int32)), (2, .int (0 : Int32))]) rfl ?_
  exact w_BA_putInOrder_4 hg am_F _ _ _ h
theorem ct_BA_putInOrder {l : Launch} {g : am_Gl} (hg : g.2.2.2.1 = true) {s : am_M}  (h : p_BA_putInOrder s ) : AC l g m_BA_putInOrder 207 s [.ref 1] (am_oC (f_BA_putInOrder s )) := am_enter ok_BA_putInOrder rfl (Nat.le_of_ble_eq_true rfl) rfl (fun ad0 => w_BA_putInOrder hg h)
theorem cw_BA_makeReckoned_3 : am_cv m_BA_makeReckoned m_BA_makeColumn 101 2 := ⟨⟨ok_BA_makeColumn, rfl, by decide +kernel, by decide, by decide⟩, aw_2_88, aw_2_90, as_0_5⟩
theorem cw_BA_makeReckoned_12 : am_cv m_BA_makeReckoned m_BA_column 79 2 := ⟨⟨ok_BA_column, rfl, by decide +kernel, by decide, by decide⟩, aw_2_93, aw_2_94, aw_2_95⟩
theorem cw_BA_makeReckoned_21 : am_cv m_BA_makeReckoned m_CO_setFormula 117 4 := ⟨⟨ok_CO_setFormula, rfl, by decide +kernel, by decide, by decide⟩, aw_4_12, aw_4_13, aw_4_14⟩
theorem cw_BA_makeReckoned_25 : am_cv m_BA_makeReckoned m_BA_putInOrder 120 0 := ⟨⟨ok_BA_putInOrder, rfl, by decide +kernel, by decide, by decide⟩, aw_4_16, aw_4_18, as_3_4⟩
theorem cw_BA_makeReckoned_30 : am_cv m_BA_makeReckoned m_BA_reckon 123 0 := ⟨⟨ok_BA_reckon, rfl, by decide +kernel, by decide, by decide⟩, aw_2_170, aw_2_172, as_0_10⟩
def f_BA_makeReckoned  (s : am_M) (x1 : Int32) (x2 : Int32) (x3 : Int32) (x4 : Int32) (x5 : Int32) : Int32 × am_M := ((f_BA_makeColumn s x1 (3 : Int32)).1, (f_BA_reckon (f_BA_putInOrder (f_CO_setFormula (f_BA_makeColumn s x1 (3 : Int32)).2 (f_BA_column (f_BA_makeColumn s x1 (3 : Int32)).2 x1 (f_BA_makeColumn s x1 (3 : Int32)).1) x2 x3 x4 x5)).2))
def p_BA_makeReckoned  (s : am_M) (x1 : Int32) (x2 : Int32) (x3 : Int32) (x4 : Int32) (x5 : Int32) : Prop := p_BA_makeColumn s x1 (3 : Int32) ∧ (p_BA_column (f_BA_makeColumn s x1 (3 : Int32)).2 x1 (f_BA_makeColumn s x1 (3 : Int32)).1 ∧ (p_CO_setFormula (f_BA_makeColumn s x1 (3 : Int32)).2 (f_BA_column (f_BA_makeColumn s x1 (3 : Int32)).2 x1 (f_BA_makeColumn s x1 (3 : Int32)).1) x2 x3 x4 x5 ∧ (((f_BA_column (f_BA_makeColumn s x1 (3 : Int32)).2 x1 (f_BA_makeColumn s x1 (3 : Int32)).1) < 207 ∧ am_sh (f_BA_column (f_BA_makeColumn s x1 (3 : Int32)).2 x1 (f_BA_makeColumn s x1 (3 : Int32)).1) = (0, 3, 11)) ∧ (p_BA_putInOrder (f_CO_setFormula (f_BA_makeColumn s x1 (3 : Int32)).2 (f_BA_column (f_BA_makeColumn s x1 (3 : Int32)).2 x1 (f_BA_makeColumn s x1 (3 : Int32)).1) x2 x3 x4 x5) ∧ (p_BA_reckon (f_BA_putInOrder (f_CO_setFormula (f_BA_makeColumn s x1 (3 : Int32)).2 (f_BA_column (f_BA_makeColumn s x1 (3 : Int32)).2 x1 (f_BA_makeColumn s x1 (3 : Int32)).1) x2 x3 x4 x5)).2 ∧ (True))))))
set_option maxRecDepth 8000 in
theorem w_BA_makeReckoned {l : Launch} {g : am_Gl} (hg : g.2.2.2.1 = true) {ad0 : Nat → Nat} {s : am_M} {x1 : Int32} {x2 : Int32} {x3 : Int32} {x4 : Int32} {x5 : Int32} (h : p_BA_makeReckoned s x1 x2 x3 x4 x5) : AW l g m_BA_makeReckoned 207 ad0 (am_oC (f_BA_makeReckoned s x1 x2 x3 x4 x5)) 0 0 207 s 0 [(0, .ref 1), (1, .int x1), (2, .int x2), (3, .int x3), (4, .int x4), (5, .int x5)] [] := by
  refine am_aload_n (j := 0) d_BA_makeReckoned_0 rfl rfl ?_
  refine am_iload_n (j := 1) d_BA_makeReckoned_1 rfl rfl ?_
  refine am_iconst (v := (3 : Int32)) d_BA_makeReckoned_2 (by decide) ?_
  obtain ⟨hc, h⟩ := h
  refine ak_VC (as := [.int x1, .int (3 : Int32)]) (rest := []) d_BA_makeReckoned_3 cw_BA_makeReckoned_3 rfl rfl rfl (ct_BA_makeColumn hg hc) rfl rfl (by decide) sh_1 rfl (Nat.le_of_ble_eq_true rfl) (by decide) (by decide) ?_
  refine am_istore (lv2 := [(6, .int (f_BA_makeColumn s x1 (3 : Int32)).1), (0, .ref 1), (1, .int x1), (2, .int x2), (3, .int x3), (4, .int x4), (5, .int x5)]) d_BA_makeReckoned_6 (by decide) rfl ?_
  refine am_aload_n (j := 1) d_BA_makeReckoned_8 rfl rfl ?_
  refine am_iload_n (j := 2) d_BA_makeReckoned_9 rfl rfl ?_
  refine am_iload (j := 0) d_BA_makeReckoned_10 rfl ?_
  obtain ⟨hc, h⟩ := h
  refine ak_VR (as := [.int x1, .int (f_BA_makeColumn s x1 (3 : Int32)).1]) (rest := []) d_BA_makeReckoned_12 cw_BA_makeReckoned_12 rfl rfl rfl (ct_BA_column hg hc) rfl rfl (by decide) sh_1 rfl (Nat.le_of_ble_eq_true rfl) (by decide) (by decide) ?_
  refine am_iload_n (j := 3) d_BA_makeReckoned_15 rfl rfl ?_
  refine am_iload_n (j := 4) d_BA_makeReckoned_16 rfl rfl ?_
  refine am_iload (j := 5) d_BA_makeReckoned_17 rfl ?_
  refine am_iload (j := 6) d_BA_makeReckoned_19 rfl ?_
  obtain ⟨hc, h⟩ := h
  obtain ⟨⟨b1, t1⟩, h⟩ := h
  refine ak_VM (as := [.int x2, .int x3, .int x4, .int x5]) (rest := []) d_BA_makeReckoned_21 cw_BA_makeReckoned_21 rfl rfl rfl (ct_CO_setFormula hg hc) rfl rfl b1 t1 rfl (Nat.le_of_ble_eq_true rfl) (by decide) (by decide) ?_
  refine am_aload_n (j := 1) d_BA_makeReckoned_24 rfl rfl ?_
  obtain ⟨hc, h⟩ := h
  refine ak_VC (as := []) (rest := []) d_BA_makeReckoned_25 cw_BA_makeReckoned_25 rfl rfl rfl (ct_BA_putInOrder hg hc) rfl rfl (by decide) sh_1 rfl (Nat.le_of_ble_eq_true rfl) (by decide) (by decide) ?_
  refine am_pop d_BA_makeReckoned_28 rfl ?_
  refine am_aload_n (j := 1) d_BA_makeReckoned_29 rfl rfl ?_
  obtain ⟨hc, h⟩ := h
  refine ak_VM (as := []) (rest := []) d_BA_makeReckoned_30 cw_BA_makeReckoned_30 rfl rfl rfl (ct_BA_reckon hg hc) rfl rfl (by decide) sh_1 rfl (Nat.le_of_ble_eq_true rfl) (by decide) (by decide) ?_
  refine am_iload (j := 0) d_BA_makeReckoned_33 rfl ?_
  exact am_iret d_BA_makeReckoned_35 rfl rfl (by decide) (by decide) am_oC_ok
theorem ct_BA_makeReckoned {l : Launch} {g : am_Gl} (hg : g.2.2.2.1 = true) {s : am_M} {x1 : Int32} {x2 : Int32} {x3 : Int32} {x4 : Int32} {x5 : Int32} (h : p_BA_makeReckoned s x1 x2 x3 x4 x5) : AC l g m_BA_makeReckoned 207 s [.ref 1, .int x1, .int x2, .int x3, .int x4, .int x5] (am_oC (f_BA_makeReckoned s x1 x2 x3 x4 x5)) := am_enter ok_BA_makeReckoned rfl (Nat.le_of_ble_eq_true rfl) rfl (fun ad0 => w_BA_makeReckoned hg h)
def f_BA_rule  (s : am_M) (x1 : Int32) : Nat := (if x1 < 0 then 6 else (if x1 < (8 : Int32) then (am_lk 5 (x1).toNatClampNeg) else 6))
def p_BA_rule  (s : am_M) (x1 : Int32) : Prop := ((x1 < 0) → True) ∧ (¬ (x1 < 0) → ((x1 < (8 : Int32)) → vp_in x1 8 ∧ (((am_lk 5 (x1).toNatClampNeg) < 207 ∧ am_sh (am_lk 5 (x1).toNatClampNeg) = (0, 7, 6)) ∧ (True))) ∧ (¬ (x1 < (8 : Int32)) → True))
set_option maxRecDepth 8000 in
theorem w_BA_rule {l : Launch} {g : am_Gl} (hg : g.2.2.2.1 = true) {ad0 : Nat → Nat} {s : am_M} {x1 : Int32} (h : p_BA_rule s x1) : AW l g m_BA_rule 207 ad0 ((am_oR s) (f_BA_rule s x1)) 0 0 207 s 0 [(0, .ref 1), (1, .int x1)] [] := by
  refine am_iload_n (j := 1) d_BA_rule_0 rfl rfl ?_
  refine ai_lt (F := (am_oR s)) (tgt := 10) d_BA_rule_1 (by decide) (fun c => ?_) (fun c => ?_)
  · have h := h.1 c
    refine am_aload_n (j := 0) d_BA_rule_10 rfl rfl ?_
    refine am_getR (t := 6) d_BA_rule_11 fl_BA_33 hg (by decide) sh_1 (by decide) rfl (by decide) lk_1_5 (by decide) ?_
    refine am_goto (tgt := 23) d_BA_rule_14 (by decide) ?_
    exact am_aret d_BA_rule_23 rfl (by decide) (by decide) am_oR_ok
  · have h := h.2 c
    refine am_iload_n (j := 1) d_BA_rule_4 rfl rfl ?_
    refine am_bipush (v := (8 : Int32)) d_BA_rule_5 (by decide) ?_
    refine aj_lt (F := (am_oR s)) (tgt := 17) d_BA_rule_7 (by decide) (fun c => ?_) (fun c => ?_)
    · have h := h.1 c
      refine am_aload_n (j := 0) d_BA_rule_17 rfl rfl ?_
      refine am_getR (t := 5) d_BA_rule_18 fl_BA_28 hg (by decide) sh_1 (by decide) rfl (by decide) lk_1_4 (by decide) ?_
      refine am_iload_n (j := 1) d_BA_rule_21 rfl rfl ?_
      obtain ⟨hv, h⟩ := h
      obtain ⟨⟨b1, t1⟩, h⟩ := h
      refine am_aalL d_BA_rule_22 hg (by decide) sh_5 (by decide) (by decide) hv rfl b1 ?_
      exact am_aret d_BA_rule_23 rfl (by decide) (by decide) am_oR_ok
    · have h := h.2 c
      refine am_aload_n (j := 0) d_BA_rule_10 rfl rfl ?_
      refine am_getR (t := 6) d_BA_rule_11 fl_BA_33 hg (by decide) sh_1 (by decide) rfl (by decide) lk_1_5 (by decide) ?_
      refine am_goto (tgt := 23) d_BA_rule_14 (by decide) ?_
      exact am_aret d_BA_rule_23 rfl (by decide) (by decide) am_oR_ok
theorem ct_BA_rule {l : Launch} {g : am_Gl} (hg : g.2.2.2.1 = true) {s : am_M} {x1 : Int32} (h : p_BA_rule s x1) : AC l g m_BA_rule 207 s [.ref 1, .int x1] ((am_oR s) (f_BA_rule s x1)) := am_enter ok_BA_rule rfl (Nat.le_of_ble_eq_true rfl) rfl (fun ad0 => w_BA_rule hg h)
theorem cw_BA_makeRule_9 : am_cv m_BA_makeRule m_BA_rule 167 1 := ⟨⟨ok_BA_rule, rfl, by decide +kernel, by decide, by decide⟩, aw_4_127, aw_4_128, aw_4_129⟩
theorem cw_BA_makeRule_47 : am_cv m_BA_makeRule m_BA_keep 138 0 := ⟨⟨ok_BA_keep, rfl, by decide +kernel, by decide, by decide⟩, aw_2_142, aw_2_144, as_0_8⟩
theorem cw_BA_makeRule_61 : am_cv m_BA_makeRule m_BA_settle 141 0 := ⟨⟨ok_BA_settle, rfl, by decide +kernel, by decide, by decide⟩, aw_2_166, aw_2_168, as_0_9⟩
def f_BA_makeRule  (s : am_M) (x1 : Int32) (x2 : Int32) (x3 : Int32) (x4 : Int32) (x5 : Int32) : Int32 × am_M := (if (f_BA_settle (am_set (f_BA_keep (am_set (am_set (am_set (am_set (am_set s (f_BA_rule s (s 1 6)) 0 x1) (f_BA_rule s (s 1 6)) 1 x2) (f_BA_rule s (s 1 6)) 2 x3) (f_BA_rule s (s 1 6)) 3 x4) (f_BA_rule s (s 1 6)) 4 x5)) 1 6 (((f_BA_keep (am_set (am_set (am_set (am_set (am_set s (f_BA_rule s (s 1 6)) 0 x1) (f_BA_rule s (s 1 6)) 1 x2) (f_BA_rule s (s 1 6)) 2 x3) (f_BA_rule s (s 1 6)) 3 x4) (f_BA_rule s (s 1 6)) 4 x5)) 1 6) + (1 : Int32)))).1 = 0 then ((-1 : Int32), (am_set (f_BA_settle (am_set (f_BA_keep (am_set (am_set (am_set (am_set (am_set s (f_BA_rule s (s 1 6)) 0 x1) (f_BA_rule s (s 1 6)) 1 x2) (f_BA_rule s (s 1 6)) 2 x3) (f_BA_rule s (s 1 6)) 3 x4) (f_BA_rule s (s 1 6)) 4 x5)) 1 6 (((f_BA_keep (am_set (am_set (am_set (am_set (am_set s (f_BA_rule s (s 1 6)) 0 x1) (f_BA_rule s (s 1 6)) 1 x2) (f_BA_rule s (s 1 6)) 2 x3) (f_BA_rule s (s 1 6)) 3 x4) (f_BA_rule s (s 1 6)) 4 x5)) 1 6) + (1 : Int32)))).2 1 6 (((f_BA_settle (am_set (f_BA_keep (am_set (am_set (am_set (am_set (am_set s (f_BA_rule s (s 1 6)) 0 x1) (f_BA_rule s (s 1 6)) 1 x2) (f_BA_rule s (s 1 6)) 2 x3) (f_BA_rule s (s 1 6)) 3 x4) (f_BA_rule s (s 1 6)) 4 x5)) 1 6 (((f_BA_keep (am_set (am_set (am_set (am_set (am_set s (f_BA_rule s (s 1 6)) 0 x1) (f_BA_rule s (s 1 6)) 1 x2) (f_BA_rule s (s 1 6)) 2 x3) (f_BA_rule s (s 1 6)) 3 x4) (f_BA_rule s (s 1 6)) 4 x5)) 1 6) + (1 : Int32)))).2 1 6) - (1 : Int32)))) else ((s 1 6), (f_BA_settle (am_set (f_BA_keep (am_set (am_set (am_set (am_set (am_set s (f_BA_rule s (s 1 6)) 0 x1) (f_BA_rule s (s 1 6)) 1 x2) (f_BA_rule s (s 1 6)) 2 x3) (f_BA_rule s (s 1 6)) 3 x4) (f_BA_rule s (s 1 6)) 4 x5)) 1 6 (((f_BA_keep (am_set (am_set (am_set (am_set (am_set s (f_BA_rule s (s 1 6)) 0 x1) (f_BA_rule s (s 1 6)) 1 x2) (f_BA_rule s (s 1 6)) 2 x3) (f_BA_rule s (s 1 6)) 3 x4) (f_BA_rule s (s 1 6)) 4 x5)) 1 6) + (1 : Int32)))).2))
def p_BA_makeRule  (s : am_M) (x1 : Int32) (x2 : Int32) (x3 : Int32) (x4 : Int32) (x5 : Int32) : Prop := p_BA_rule s (s 1 6) ∧ (((f_BA_rule s (s 1 6)) < 207 ∧ am_sh (f_BA_rule s (s 1 6)) = (0, 7, 6)) ∧ (p_BA_keep (am_set (am_set (am_set (am_set (am_set s (f_BA_rule s (s 1 6)) 0 x1) (f_BA_rule s (s 1 6)) 1 x2) (f_BA_rule s (s 1 6)) 2 x3) (f_BA_rule s (s 1 6)) 3 x4) (f_BA_rule s (s 1 6)) 4 x5) ∧ (p_BA_settle (am_set (f_BA_keep (am_set (am_set (am_set (am_set (am_set s (f_BA_rule s (s 1 6)) 0 x1) (f_BA_rule s (s 1 6)) 1 x2) (f_BA_rule s (s 1 6)) 2 x3) (f_BA_rule s (s 1 6)) 3 x4) (f_BA_rule s (s 1 6)) 4 x5)) 1 6 (((f_BA_keep (am_set (am_set (am_set (am_set (am_set s (f_BA_rule s (s 1 6)) 0 x1) (f_BA_rule s (s 1 6)) 1 x2) (f_BA_rule s (s 1 6)) 2 x3) (f_BA_rule s (s 1 6)) 3 x4) (f_BA_rule s (s 1 6)) 4 x5)) 1 6) + (1 : Int32))) ∧ ((((f_BA_settle (am_set (f_BA_keep (am_set (am_set (am_set (am_set (am_set s (f_BA_rule s (s 1 6)) 0 x1) (f_BA_rule s (s 1 6)) 1 x2) (f_BA_rule s (s 1 6)) 2 x3) (f_BA_rule s (s 1 6)) 3 x4) (f_BA_rule s (s 1 6)) 4 x5)) 1 6 (((f_BA_keep (am_set (am_set (am_set (am_set (am_set s (f_BA_rule s (s 1 6)) 0 x1) (f_BA_rule s (s 1 6)) 1 x2) (f_BA_rule s (s 1 6)) 2 x3) (f_BA_rule s (s 1 6)) 3 x4) (f_BA_rule s (s 1 6)) 4 x5)) 1 6) + (1 : Int32)))).1 = 0) → True) ∧ (¬ ((f_BA_settle (am_set (f_BA_keep (am_set (am_set (am_set (am_set (am_set s (f_BA_rule s (s 1 6)) 0 x1) (f_BA_rule s (s 1 6)) 1 x2) (f_BA_rule s (s 1 6)) 2 x3) (f_BA_rule s (s 1 6)) 3 x4) (f_BA_rule s (s 1 6)) 4 x5)) 1 6 (((f_BA_keep (am_set (am_set (am_set (am_set (am_set s (f_BA_rule s (s 1 6)) 0 x1) (f_BA_rule s (s 1 6)) 1 x2) (f_BA_rule s (s 1 6)) 2 x3) (f_BA_rule s (s 1 6)) 3 x4) (f_BA_rule s (s 1 6)) 4 x5)) 1 6) + (1 : Int32)))).1 = 0) → True)))))
set_option maxRecDepth 8000 in
theorem w_BA_makeRule {l : Launch} {g : am_Gl} (hg : g.2.2.2.1 = true) {ad0 : Nat → Nat} {s : am_M} {x1 : Int32} {x2 : Int32} {x3 : Int32} {x4 : Int32} {x5 : Int32} (h : p_BA_makeRule s x1 x2 x3 x4 x5) : AW l g m_BA_makeRule 207 ad0 (am_oC (f_BA_makeRule s x1 x2 x3 x4 x5)) 0 0 207 s 0 [(0, .ref 1), (1, .int x1), (2, .int x2), (3, .int x3), (4, .int x4), (5, .int x5)] [] := by
  refine am_aload_n (j := 0) d_BA_makeRule_0 rfl rfl ?_
  refine am_getI d_BA_makeRule_1 fl_BA_87 (by decide) sh_1 (by decide) rfl ?_
  refine am_istore (lv2 := [(6, .int (s 1 6)), (0, .ref 1), (1, .int x1), (2, .int x2), (3, .int x3), (4, .int x4), (5, .int x5)]) d_BA_makeRule_4 (by decide) rfl ?_
  refine am_aload_n (j := 1) d_BA_makeRule_6 rfl rfl ?_
  refine am_iload (j := 0) d_BA_makeRule_7 rfl ?_
  obtain ⟨hc, h⟩ := h
  refine ak_VR (as := [.int (s 1 6)]) (rest := []) d_BA_makeRule_9 cw_BA_makeRule_9 rfl rfl rfl (ct_BA_rule hg hc) rfl rfl (by decide) sh_1 rfl (Nat.le_of_ble_eq_true rfl) (by decide) (by decide) ?_
  refine am_astore (lv2 := [(7, .ref (f_BA_rule s (s 1 6))), (6, .int (s 1 6)), (0, .ref 1), (1, .int x1), (2, .int x2), (3, .int x3), (4, .int x4), (5, .int x5)]) d_BA_makeRule_12 (by decide) rfl ?_
  refine am_aload (j := 0) d_BA_makeRule_14 rfl ?_
  refine am_iload_n (j := 3) d_BA_makeRule_16 rfl rfl ?_
  obtain ⟨⟨b1, t1⟩, h⟩ := h
  refine am_putI (ty := .int) d_BA_makeRule_17 fl_BA_171 ft_7_0 b1 t1 (by decide) rfl rfl rfl ?_
  refine am_aload (j := 0) d_BA_makeRule_20 rfl ?_
  refine am_iload_n (j := 4) d_BA_makeRule_22 rfl rfl ?_
  refine am_putI (ty := .int) d_BA_makeRule_23 fl_BA_174 ft_7_1 b1 t1 (by decide) rfl rfl rfl ?_
  refine am_aload (j := 0) d_BA_makeRule_26 rfl ?_
  refine am_iload_n (j := 5) d_BA_makeRule_28 rfl rfl ?_
  refine am_putI (ty := .int) d_BA_makeRule_29 fl_BA_175 ft_7_2 b1 t1 (by decide) rfl rfl rfl ?_
  refine am_aload (j := 0) d_BA_makeRule_32 rfl ?_
  refine am_iload (j := 6) d_BA_makeRule_34 rfl ?_
  refine am_putI (ty := .int) d_BA_makeRule_36 fl_BA_178 ft_7_3 b1 t1 (by decide) rfl rfl rfl ?_
  refine am_aload (j := 0) d_BA_makeRule_39 rfl ?_
  refine am_iload (j := 7) d_BA_makeRule_41 rfl ?_
  refine am_putI (ty := .int) d_BA_makeRule_43 fl_BA_179 ft_7_4 b1 t1 (by decide) rfl rfl rfl ?_
  refine am_aload_n (j := 2) d_BA_makeRule_46 rfl rfl ?_
  obtain ⟨hc, h⟩ := h
  refine ak_VM (as := []) (rest := []) d_BA_makeRule_47 cw_BA_makeRule_47 rfl rfl rfl (ct_BA_keep hg hc) rfl rfl (by decide) sh_1 rfl (Nat.le_of_ble_eq_true rfl) (by decide) (by decide) ?_
  refine am_aload_n (j := 2) d_BA_makeRule_50 rfl rfl ?_
  refine am_dup d_BA_makeRule_51 rfl ?_
  refine am_getI d_BA_makeRule_52 fl_BA_87 (by decide) sh_1 (by decide) rfl ?_
  refine am_iconst (v := (1 : Int32)) d_BA_makeRule_55 (by decide) ?_
  refine am_iadd d_BA_makeRule_56 ?_
  refine am_putI (ty := .int) d_BA_makeRule_57 fl_BA_87 ft_2_6 (by decide) sh_1 (by decide) rfl rfl rfl ?_
  refine am_aload_n (j := 2) d_BA_makeRule_60 rfl rfl ?_
  obtain ⟨hc, h⟩ := h
  refine ak_VC (as := []) (rest := []) d_BA_makeRule_61 cw_BA_makeRule_61 rfl rfl rfl (ct_BA_settle hg hc) rfl rfl (by decide) sh_1 rfl (Nat.le_of_ble_eq_true rfl) (by decide) (by decide) ?_
  refine ai_ne (F := am_oC) (tgt := 79) d_BA_makeRule_64 (by decide) (fun c => ?_) (fun c => ?_)
  · have h := h.2 c
    refine am_iload (j := 1) d_BA_makeRule_79 rfl ?_
    exact am_iret d_BA_makeRule_81 rfl rfl (by decide) (by decide) am_oC_ok
  · have h := h.1 c
    refine am_aload_n (j := 2) d_BA_makeRule_67 rfl rfl ?_
    refine am_dup d_BA_makeRule_68 rfl ?_
    refine am_getI d_BA_makeRule_69 fl_BA_87 (by decide) sh_1 (by decide) rfl ?_
    refine am_iconst (v := (1 : Int32)) d_BA_makeRule_72 (by decide) ?_
    refine am_isub d_BA_makeRule_73 ?_
    refine am_putI (ty := .int) d_BA_makeRule_74 fl_BA_87 ft_2_6 (by decide) sh_1 (by decide) rfl rfl rfl ?_
    refine am_iconst (v := (-1 : Int32)) d_BA_makeRule_77 (by decide) ?_
    exact am_iret d_BA_makeRule_78 rfl rfl (by decide) (by decide) am_oC_ok
theorem ct_BA_makeRule {l : Launch} {g : am_Gl} (hg : g.2.2.2.1 = true) {s : am_M} {x1 : Int32} {x2 : Int32} {x3 : Int32} {x4 : Int32} {x5 : Int32} (h : p_BA_makeRule s x1 x2 x3 x4 x5) : AC l g m_BA_makeRule 207 s [.ref 1, .int x1, .int x2, .int x3, .int x4, .int x5] (am_oC (f_BA_makeRule s x1 x2 x3 x4 x5)) := am_enter ok_BA_makeRule rfl (Nat.le_of_ble_eq_true rfl) rfl (fun ad0 => w_BA_makeRule hg h)
theorem cw_BA_isStored_13 : am_cv m_BA_isStored m_BA_column 79 2 := ⟨⟨ok_BA_column, rfl, by decide +kernel, by decide, by decide⟩, aw_2_93, aw_2_94, aw_2_95⟩
theorem cw_BA_isStored_16 : am_cv m_BA_isStored m_CO_isStored 83 0 := ⟨⟨ok_CO_isStored, rfl, by decide +kernel, by decide, by decide⟩, aw_2_157, aw_2_158, aw_2_159⟩
def f_BA_isStored  (s : am_M) (x1 : Int32) : Int32 := (if x1 < 0 then (0 : Int32) else (if (f_CO_isStored s (f_BA_column s (x1 / (10 : Int32)) (x1 - x1 / (10 : Int32) * (10 : Int32)))) = 0 then (0 : Int32) else (1 : Int32)))
def p_BA_isStored  (s : am_M) (x1 : Int32) : Prop := ((x1 < 0) → True) ∧ (¬ (x1 < 0) → p_BA_column s (x1 / (10 : Int32)) (x1 - x1 / (10 : Int32) * (10 : Int32)) ∧ (p_CO_isStored s (f_BA_column s (x1 / (10 : Int32)) (x1 - x1 / (10 : Int32) * (10 : Int32))) ∧ (((f_BA_column s (x1 / (10 : Int32)) (x1 - x1 / (10 : Int32) * (10 : Int32))) < 207 ∧ am_sh (f_BA_column s (x1 / (10 : Int32)) (x1 - x1 / (10 : Int32) * (10 : Int32))) = (0, 3, 11)) ∧ ((((f_CO_isStored s (f_BA_column s (x1 / (10 : Int32)) (x1 - x1 / (10 : Int32) * (10 : Int32)))) = 0) → True) ∧ (¬ ((f_CO_isStored s (f_BA_column s (x1 / (10 : Int32)) (x1 - x1 / (10 : Int32) * (10 : Int32)))) = 0) → True)))))
set_option maxRecDepth 8000 in
theorem w_BA_isStored {l : Launch} {g : am_Gl} (hg : g.2.2.2.1 = true) {ad0 : Nat → Nat} {s : am_M} {x1 : Int32} (h : p_BA_isStored s x1) : AW l g m_BA_isStored 207 ad0 ((am_oI s) (f_BA_isStored s x1)) 0 0 207 s 0 [(0, .ref 1), (1, .int x1)] [] := by
  refine am_iload_n (j := 1) d_BA_isStored_0 rfl rfl ?_
  refine ai_lt (F := (am_oI s)) (tgt := 26) d_BA_isStored_1 (by decide) (fun c => ?_) (fun c => ?_)
  · have h := h.1 c
    refine am_iconst (v := (0 : Int32)) d_BA_isStored_26 (by decide) ?_
    exact am_iret d_BA_isStored_27 rfl (am_bool (Or.inl rfl)).1 (by decide) (by decide) am_oI_ok
  · have h := h.2 c
    refine am_aload_n (j := 0) d_BA_isStored_4 rfl rfl ?_
    refine am_iload_n (j := 1) d_BA_isStored_5 rfl rfl ?_
    refine am_bipush (v := (10 : Int32)) d_BA_isStored_6 (by decide) ?_
    refine am_idiv d_BA_isStored_8 (by decide) ?_
    refine am_iload_n (j := 1) d_BA_isStored_9 rfl rfl ?_
    refine am_bipush (v := (10 : Int32)) d_BA_isStored_10 (by decide) ?_
    refine am_irem d_BA_isStored_12 (by decide) ?_
    obtain ⟨hc, h⟩ := h
    refine ak_VR (as := [.int (x1 / (10 : Int32)), .int (x1 - x1 / (10 : Int32) * (10 : Int32))]) (rest := []) d_BA_isStored_13 cw_BA_isStored_13 rfl rfl rfl (ct_BA_column hg hc) rfl rfl (by decide) sh_1 rfl (Nat.le_of_ble_eq_true rfl) (by decide) (by decide) ?_
    obtain ⟨hc, h⟩ := h
    obtain ⟨⟨b1, t1⟩, h⟩ := h
    refine ak_VI (as := []) (rest := []) d_BA_isStored_16 cw_BA_isStored_16 rfl rfl rfl (ct_CO_isStored hg hc) rfl rfl b1 t1 rfl (Nat.le_of_ble_eq_true rfl) (by decide) (by decide) ?_
    refine ai_eq (F := (am_oI s)) (tgt := 26) d_BA_isStored_19 (by decide) (fun c => ?_) (fun c => ?_)
    · have h := h.1 c
      refine am_iconst (v := (0 : Int32)) d_BA_isStored_26 (by decide) ?_
      exact am_iret d_BA_isStored_27 rfl (am_bool (Or.inl rfl)).1 (by decide) (by decide) am_oI_ok
    · have h := h.2 c
      refine am_iconst (v := (1 : Int32)) d_BA_isStored_22 (by decide) ?_
      refine am_goto (tgt := 27) d_BA_isStored_23 (by decide) ?_
      exact am_iret d_BA_isStored_27 rfl (am_bool (Or.inr rfl)).1 (by decide) (by decide) am_oI_ok
theorem ct_BA_isStored {l : Launch} {g : am_Gl} (hg : g.2.2.2.1 = true) {s : am_M} {x1 : Int32} (h : p_BA_isStored s x1) : AC l g m_BA_isStored 207 s [.ref 1, .int x1] ((am_oI s) (f_BA_isStored s x1)) := am_enter ok_BA_isStored rfl (Nat.le_of_ble_eq_true rfl) rfl (fun ad0 => w_BA_isStored hg h)
theorem cw_BA_putThrough_2 : am_cv m_BA_putThrough m_BA_isStored 265 1 := ⟨⟨ok_BA_isStored, rfl, by decide +kernel, by decide, by decide⟩, aw_3_195, aw_3_196, aw_3_197⟩
theorem cw_BA_putThrough_18 : am_cv m_BA_putThrough m_BA_keep 138 0 := ⟨⟨ok_BA_keep, rfl, by decide +kernel, by decide, by decide⟩, aw_2_142, aw_2_144, as_0_8⟩
theorem cw_BA_putThrough_35 : am_cv m_BA_putThrough m_RO_set 166 4 := ⟨⟨ok_RO_set, rfl, by decide +kernel, by decide, by decide⟩, aw_2_162, aw_2_163, aw_2_164⟩
theorem cw_BA_putThrough_39 : am_cv m_BA_putThrough m_BA_settle 141 0 := ⟨⟨ok_BA_settle, rfl, by decide +kernel, by decide, by decide⟩, aw_2_166, aw_2_168, as_0_9⟩
theorem cw_BA_putThrough_13 : am_cv m_BA_putThrough m_BA_refuse 144 3 := ⟨⟨ok_BA_refuse, rfl, by decide +kernel, by decide, by decide⟩, aw_3_199, aw_3_200, aw_3_201⟩
def f_BA_putThrough  (s : am_M) (x1 : Int32) (x2 : Int32) (x3 : Int32) : Int32 × am_M := (if (f_BA_isStored s x1) = 0 then ((f_BA_refuse s (7 : Int32) (-1 : Int32) (-1 : Int32)).1, (f_BA_refuse s (7 : Int32) (-1 : Int32) (-1 : Int32)).2) else ((f_BA_settle (f_RO_set (f_BA_keep s) 8 (x1 / (10 : Int32)) x2 (x1 - x1 / (10 : Int32) * (10 : Int32)) x3)).1, (f_BA_settle (f_RO_set (f_BA_keep s) 8 (x1 / (10 : Int32)) x2 (x1 - x1 / (10 : Int32) * (10 : Int32)) x3)).2))
def p_BA_putThrough  (s : am_M) (x1 : Int32) (x2 : Int32) (x3 : Int32) : Prop := p_BA_isStored s x1 ∧ ((((f_BA_isStored s x1) = 0) → p_BA_refuse s (7 : Int32) (-1 : Int32) (-1 : Int32) ∧ (((f_BA_refuse s (7 : Int32) (-1 : Int32) (-1 : Int32)).1 = 0 ∨ (f_BA_refuse s (7 : Int32) (-1 : Int32) (-1 : Int32)).1 = 1) ∧ (True))) ∧ (¬ ((f_BA_isStored s x1) = 0) → p_BA_keep s ∧ (p_RO_set (f_BA_keep s) 8 (x1 / (10 : Int32)) x2 (x1 - x1 / (10 : Int32) * (10 : Int32)) x3 ∧ (p_BA_settle (f_RO_set (f_BA_keep s) 8 (x1 / (10 : Int32)) x2 (x1 - x1 / (10 : Int32) * (10 : Int32)) x3) ∧ (((f_BA_settle (f_RO_set (f_BA_keep s) 8 (x1 / (10 : Int32)) x2 (x1 - x1 / (10 : Int32) * (10 : Int32)) x3)).1 = 0 ∨ (f_BA_settle (f_RO_set (f_BA_keep s) 8 (x1 / (10 : Int32)) x2 (x1 - x1 / (10 : Int32) * (10 : Int32)) x3)).1 = 1) ∧ (True))))))
set_option maxRecDepth 8000 in
theorem w_BA_putThrough {l : Launch} {g : am_Gl} (hg : g.2.2.2.1 = true) {ad0 : Nat → Nat} {s : am_M} {x1 : Int32} {x2 : Int32} {x3 : Int32} (h : p_BA_putThrough s x1 x2 x3) : AW l g m_BA_putThrough 207 ad0 (am_oC (f_BA_putThrough s x1 x2 x3)) 0 0 207 s 0 [(0, .ref 1), (1, .int x1), (2, .int x2), (3, .int x3)] [] := by
  refine am_aload_n (j := 0) d_BA_putThrough_0 rfl rfl ?_
  refine am_iload_n (j := 1) d_BA_putThrough_1 rfl rfl ?_
  obtain ⟨hc, h⟩ := h
  refine ak_VI (as := [.int x1]) (rest := []) d_BA_putThrough_2 cw_BA_putThrough_2 rfl rfl rfl (ct_BA_isStored hg hc) rfl rfl (by decide) sh_1 rfl (Nat.le_of_ble_eq_true rfl) (by decide) (by decide) ?_
  refine ai_ne (F := am_oC) (tgt := 17) d_BA_putThrough_5 (by decide) (fun c => ?_) (fun c => ?_)
  · have h := h.2 c
    refine am_aload_n (j := 0) d_BA_putThrough_17 rfl rfl ?_
    obtain ⟨hc, h⟩ := h
    refine ak_VM (as := []) (rest := []) d_BA_putThrough_18 cw_BA_putThrough_18 rfl rfl rfl (ct_BA_keep hg hc) rfl rfl (by decide) sh_1 rfl (Nat.le_of_ble_eq_true rfl) (by decide) (by decide) ?_
    refine am_aload_n (j := 0) d_BA_putThrough_21 rfl rfl ?_
    refine am_getR (t := 8) d_BA_putThrough_22 fl_BA_43 hg (by decide) sh_1 (by decide) rfl (by decide) lk_1_9 (by decide) ?_
    refine am_iload_n (j := 1) d_BA_putThrough_25 rfl rfl ?_
    refine am_bipush (v := (10 : Int32)) d_BA_putThrough_26 (by decide) ?_
    refine am_idiv d_BA_putThrough_28 (by decide) ?_
    refine am_iload_n (j := 2) d_BA_putThrough_29 rfl rfl ?_
    refine am_iload_n (j := 1) d_BA_putThrough_30 rfl rfl ?_
    refine am_bipush (v := (10 : Int32)) d_BA_putThrough_31 (by decide) ?_
    refine am_irem d_BA_putThrough_33 (by decide) ?_
    refine am_iload_n (j := 3) d_BA_putThrough_34 rfl rfl ?_
    obtain ⟨hc, h⟩ := h
    refine ak_VM (as := [.int (x1 / (10 : Int32)), .int x2, .int (x1 - x1 / (10 : Int32) * (10 : Int32)), .int x3]) (rest := []) d_BA_putThrough_35 cw_BA_putThrough_35 rfl rfl rfl (ct_RO_set hg hc) rfl rfl (by decide) sh_8 rfl (Nat.le_of_ble_eq_true rfl) (by decide) (by decide) ?_
    refine am_aload_n (j := 0) d_BA_putThrough_38 rfl rfl ?_
    obtain ⟨hc, h⟩ := h
    refine ak_VC (as := []) (rest := []) d_BA_putThrough_39 cw_BA_putThrough_39 rfl rfl rfl (ct_BA_settle hg hc) rfl rfl (by decide) sh_1 rfl (Nat.le_of_ble_eq_true rfl) (by decide) (by decide) ?_
    obtain ⟨hz, h⟩ := h
    exact am_iret d_BA_putThrough_42 rfl (am_bool hz).1 (by decide) (by decide) am_oC_ok
  · have h := h.1 c
    refine am_aload_n (j := 0) d_BA_putThrough_8 rfl rfl ?_
    refine am_bipush (v := (7 : Int32)) d_BA_putThrough_9 (by decide) ?_
    refine am_iconst (v := (-1 : Int32)) d_BA_putThrough_11 (by decide) ?_
    refine am_iconst (v := (-1 : Int32)) d_BA_putThrough_12 (by decide) ?_
    obtain ⟨hc, h⟩ := h
    refine ak_VC (as := [.int (7 : Int32), .int (-1 : Int32), .int (-1 : Int32)]) (rest := []) d_BA_putThrough_13 cw_BA_putThrough_13 rfl rfl rfl (ct_BA_refuse hg hc) rfl rfl (by decide) sh_1 rfl (Nat.le_of_ble_eq_true rfl) (by decide) (by decide) ?_
    obtain ⟨hz, h⟩ := h
    exact am_iret d_BA_putThrough_16 rfl (am_bool hz).1 (by decide) (by decide) am_oC_ok
theorem ct_BA_putThrough {l : Launch} {g : am_Gl} (hg : g.2.2.2.1 = true) {s : am_M} {x1 : Int32} {x2 : Int32} {x3 : Int32} (h : p_BA_putThrough s x1 x2 x3) : AC l g m_BA_putThrough 207 s [.ref 1, .int x1, .int x2, .int x3] (am_oC (f_BA_putThrough s x1 x2 x3)) := am_enter ok_BA_putThrough rfl (Nat.le_of_ble_eq_true rfl) rfl (fun ad0 => w_BA_putThrough hg h)
theorem cw_BA_couldPut_4 : am_cv m_BA_couldPut m_BA_putThrough 267 3 := ⟨⟨ok_BA_putThrough, rfl, by decide +kernel, by decide, by decide⟩, aw_4_143, aw_3_192, aw_3_193⟩
theorem cw_BA_couldPut_17 : am_cv m_BA_couldPut m_RO_copyFrom 248 1 := ⟨⟨ok_RO_copyFrom, rfl, by decide +kernel, by decide, by decide⟩, aw_2_146, aw_2_147, aw_2_148⟩
def f_BA_couldPut  (s : am_M) (x1 : Int32) (x2 : Int32) (x3 : Int32) : Int32 × am_M := ((f_BA_putThrough s x1 x2 x3).1, (f_RO_copyFrom (f_BA_putThrough s x1 x2 x3).2 8 12))
def p_BA_couldPut  (s : am_M) (x1 : Int32) (x2 : Int32) (x3 : Int32) : Prop := p_BA_putThrough s x1 x2 x3 ∧ (p_RO_copyFrom (f_BA_putThrough s x1 x2 x3).2 8 12 ∧ (((f_BA_putThrough s x1 x2 x3).1 = 0 ∨ (f_BA_putThrough s x1 x2 x3).1 = 1) ∧ (True)))
set_option maxRecDepth 8000 in
theorem w_BA_couldPut {l : Launch} {g : am_Gl} (hg : g.2.2.2.1 = true) {ad0 : Nat → Nat} {s : am_M} {x1 : Int32} {x2 : Int32} {x3 : Int32} (h : p_BA_couldPut s x1 x2 x3) : AW l g m_BA_couldPut 207 ad0 (am_oC (f_BA_couldPut s x1 x2 x3)) 0 0 207 s 0 [(0, .ref 1), (1, .int x1), (2, .int x2), (3, .int x3)] [] := by
  refine am_aload_n (j := 0) d_BA_couldPut_0 rfl rfl ?_
  refine am_iload_n (j := 1) d_BA_couldPut_1 rfl rfl ?_
  refine am_iload_n (j := 2) d_BA_couldPut_2 rfl rfl ?_
  refine am_iload_n (j := 3) d_BA_couldPut_3 rfl rfl ?_
  obtain ⟨hc, h⟩ := h
  refine ak_VC (as := [.int x1, .int x2, .int x3]) (rest := []) d_BA_couldPut_4 cw_BA_couldPut_4 rfl rfl rfl (ct_BA_putThrough hg hc) rfl rfl (by decide) sh_1 rfl (Nat.le_of_ble_eq_true rfl) (by decide) (by decide) ?_
  refine am_istore (lv2 := [(4, .int (f_BA_putThrough s x1 x2 x3).1), (0, .ref 1), (1, .int x1), (2, .int x2), (3, .int x3)]) d_BA_couldPut_7 (by decide) rfl ?_
  refine am_aload_n (j := 1) d_BA_couldPut_9 rfl rfl ?_
  refine am_getR (t := 8) d_BA_couldPut_10 fl_BA_43 hg (by decide) sh_1 (by decide) rfl (by decide) lk_1_9 (by decide) ?_
  refine am_aload_n (j := 1) d_BA_couldPut_13 rfl rfl ?_
  refine am_getR (t := 12) d_BA_couldPut_14 fl_BA_47 hg (by decide) sh_1 (by decide) rfl (by decide) lk_1_10 (by decide) ?_
  obtain ⟨hc, h⟩ := h
  refine ak_VM (as := [.ref 12]) (rest := []) d_BA_couldPut_17 cw_BA_couldPut_17 rfl rfl rfl (ct_RO_copyFrom hg hc) rfl rfl (by decide) sh_8 rfl (Nat.le_of_ble_eq_true rfl) (by decide) (by decide) ?_
  refine am_iload (j := 0) d_BA_couldPut_20 rfl ?_
  obtain ⟨hz, h⟩ := h
  exact am_iret d_BA_couldPut_22 rfl (am_bool hz).1 (by decide) (by decide) am_oC_ok
theorem ct_BA_couldPut {l : Launch} {g : am_Gl} (hg : g.2.2.2.1 = true) {s : am_M} {x1 : Int32} {x2 : Int32} {x3 : Int32} (h : p_BA_couldPut s x1 x2 x3) : AC l g m_BA_couldPut 207 s [.ref 1, .int x1, .int x2, .int x3] (am_oC (f_BA_couldPut s x1 x2 x3)) := am_enter ok_BA_couldPut rfl (Nat.le_of_ble_eq_true rfl) rfl (fun ad0 => w_BA_couldPut hg h)
theorem cw_BA_uses_9 : am_cv m_BA_uses m_BA_column 79 2 := ⟨⟨ok_BA_column, rfl, by decide +kernel, by decide, by decide⟩, aw_2_93, aw_2_94, aw_2_95⟩
theorem cw_BA_uses_36 : am_cv m_BA_uses m_BA_tableOfOne 188 2 := ⟨⟨ok_BA_tableOfOne, rfl, by decide +kernel, by decide, by decide⟩, aw_4_28, aw_4_30, as_3_7⟩
theorem cw_BA_uses_68 : am_cv m_BA_uses m_BA_tableOfTwo 192 2 := ⟨⟨ok_BA_tableOfTwo, rfl, by decide +kernel, by decide, by decide⟩, aw_4_36, aw_4_38, as_3_9⟩
def f_BA_uses_54  (s : am_M) (x1 : Int32) (x2 : Int32) (x3 : Int32) (x4 : Nat) (x5 : Int32) : Int32 := (if (s x4 7) = (4 : Int32) then (0 : Int32) else (if (f_BA_tableOfTwo s x4 x5) = x2 then (if (s x4 9) = x3 then (1 : Int32) else (0 : Int32)) else (0 : Int32)))
def p_BA_uses_54  (s : am_M) (x1 : Int32) (x2 : Int32) (x3 : Int32) (x4 : Nat) (x5 : Int32) : Prop := (x4 < 207 ∧ am_sh x4 = (0, 3, 11)) ∧ ((((s x4 7) = (4 : Int32)) → True) ∧ (¬ ((s x4 7) = (4 : Int32)) → p_BA_tableOfTwo s x4 x5 ∧ ((((f_BA_tableOfTwo s x4 x5) = x2) → (((s x4 9) = x3) → True) ∧ (¬ ((s x4 9) = x3) → True)) ∧ (¬ ((f_BA_tableOfTwo s x4 x5) = x2) → True))))
set_option maxRecDepth 8000 in
theorem w_BA_uses_54 {l : Launch} {g : am_Gl} (hg : g.2.2.2.1 = true) {ad0 : Nat → Nat} {s : am_M}  {x1 : Int32} {x2 : Int32} {x3 : Int32} {x4 : Nat} {x5 : Int32} (h : p_BA_uses_54  s x1 x2 x3 x4 x5) : AW l g m_BA_uses 207 ad0 ((am_oI s) (f_BA_uses_54  s x1 x2 x3 x4 x5)) 0 0 207 s 54 [(0, .ref 1), (1, .int x1), (2, .int x2), (3, .int x3), (4, .ref x4), (5, .int x5)] [] := by
  refine am_aload (j := 4) d_BA_uses_54 rfl ?_
  obtain ⟨⟨b1, t1⟩, h⟩ := h
  refine am_getI d_BA_uses_56 fl_BA_126 b1 t1 (by decide) rfl ?_
  refine am_iconst (v := (4 : Int32)) d_BA_uses_59 (by decide) ?_
  refine aj_eq (F := (am_oI s)) (tgt := 88) d_BA_uses_60 (by decide) (fun c => ?_) (fun c => ?_)
  · have h := h.1 c
    refine am_iconst (v := (0 : Int32)) d_BA_uses_88 (by decide) ?_
    exact am_iret d_BA_uses_89 rfl (am_bool (Or.inl rfl)).1 (by decide) (by decide) am_oI_ok
  · have h := h.2 c
    refine am_aload_n (j := 0) d_BA_uses_63 rfl rfl ?_
    refine am_aload (j := 4) d_BA_uses_64 rfl ?_
    refine am_iload (j := 5) d_BA_uses_66 rfl ?_
    obtain ⟨hc, h⟩ := h
    refine ak_VI (as := [.ref x4, .int x5]) (rest := []) d_BA_uses_68 cw_BA_uses_68 rfl rfl rfl (ct_BA_tableOfTwo hg hc) rfl rfl (by decide) sh_1 rfl (Nat.le_of_ble_eq_true rfl) (by decide) (by decide) ?_
    refine am_iload_n (j := 2) d_BA_uses_71 rfl rfl ?_
    refine aj_ne (F := (am_oI s)) (tgt := 88) d_BA_uses_72 (by decide) (fun c => ?_) (fun c => ?_)
    · have h := h.2 c
      refine am_iconst (v := (0 : Int32)) d_BA_uses_88 (by decide) ?_
      exact am_iret d_BA_uses_89 rfl (am_bool (Or.inl rfl)).1 (by decide) (by decide) am_oI_ok
    · have h := h.1 c
      refine am_aload (j := 4) d_BA_uses_75 rfl ?_
      refine am_getI d_BA_uses_77 fl_BA_132 b1 t1 (by decide) rfl ?_
      refine am_iload_n (j := 3) d_BA_uses_80 rfl rfl ?_
      refine aj_ne (F := (am_oI s)) (tgt := 88) d_BA_uses_81 (by decide) (fun c => ?_) (fun c => ?_)
      · have h := h.2 c
        refine am_iconst (v := (0 : Int32)) d_BA_uses_88 (by decide) ?_
        exact am_iret d_BA_uses_89 rfl (am_bool (Or.inl rfl)).1 (by decide) (by decide) am_oI_ok
      · have h := h.1 c
        refine am_iconst (v := (1 : Int32)) d_BA_uses_84 (by decide) ?_
        refine am_goto (tgt := 89) d_BA_uses_85 (by decide) ?_
        exact am_iret d_BA_uses_89 rfl (am_bool (Or.inr rfl)).1 (by decide) (by decide) am_oI_ok
def f_BA_uses  (s : am_M) (x1 : Int32) (x2 : Int32) (x3 : Int32) : Int32 := (if (s (f_BA_column s (x1 / (6 : Int32)) (x1 - x1 / (6 : Int32) * (6 : Int32))) 0) = (3 : Int32) then (if (f_BA_tableOfOne s (f_BA_column s (x1 / (6 : Int32)) (x1 - x1 / (6 : Int32) * (6 : Int32))) (x1 / (6 : Int32))) = x2 then (if (s (f_BA_column s (x1 / (6 : Int32)) (x1 - x1 / (6 : Int32) * (6 : Int32))) 8) = x3 then (1 : Int32) else (f_BA_uses_54 s x1 x2 x3 (f_BA_column s (x1 / (6 : Int32)) (x1 - x1 / (6 : Int32) * (6 : Int32))) (x1 / (6 : Int32)))) else (f_BA_uses_54 s x1 x2 x3 (f_BA_column s (x1 / (6 : Int32)) (x1 - x1 / (6 : Int32) * (6 : Int32))) (x1 / (6 : Int32)))) else (0 : Int32))
def p_BA_uses  (s : am_M) (x1 : Int32) (x2 : Int32) (x3 : Int32) : Prop := p_BA_column s (x1 / (6 : Int32)) (x1 - x1 / (6 : Int32) * (6 : Int32)) ∧ (((f_BA_column s (x1 / (6 : Int32)) (x1 - x1 / (6 : Int32) * (6 : Int32))) < 207 ∧ am_sh (f_BA_column s (x1 / (6 : Int32)) (x1 - x1 / (6 : Int32) * (6 : Int32))) = (0, 3, 11)) ∧ ((((s (f_BA_column s (x1 / (6 : Int32)) (x1 - x1 / (6 : Int32) * (6 : Int32))) 0) = (3 : Int32)) → p_BA_tableOfOne s (f_BA_column s (x1 / (6 : Int32)) (x1 - x1 / (6 : Int32) * (6 : Int32))) (x1 / (6 : Int32)) ∧ ((((f_BA_tableOfOne s (f_BA_column s (x1 / (6 : Int32)) (x1 - x1 / (6 : Int32) * (6 : Int32))) (x1 / (6 : Int32))) = x2) → (((s (f_BA_column s (x1 / (6 : Int32)) (x1 - x1 / (6 : Int32) * (6 : Int32))) 8) = x3) → True) ∧ (¬ ((s (f_BA_column s (x1 / (6 : Int32)) (x1 - x1 / (6 : Int32) * (6 : Int32))) 8) = x3) → (p_BA_uses_54 s x1 x2 x3 (f_BA_column s (x1 / (6 : Int32)) (x1 - x1 / (6 : Int32) * (6 : Int32))) (x1 / (6 : Int32))))) ∧ (¬ ((f_BA_tableOfOne s (f_BA_column s (x1 / (6 : Int32)) (x1 - x1 / (6 : Int32) * (6 : Int32))) (x1 / (6 : Int32))) = x2) → (p_BA_uses_54 s x1 x2 x3 (f_BA_column s (x1 / (6 : Int32)) (x1 - x1 / (6 : Int32) * (6 : Int32))) (x1 / (6 : Int32)))))) ∧ (¬ ((s (f_BA_column s (x1 / (6 : Int32)) (x1 - x1 / (6 : Int32) * (6 : Int32))) 0) = (3 : Int32)) → True)))
set_option maxRecDepth 8000 in
theorem w_BA_uses {l : Launch} {g : am_Gl} (hg : g.2.2.2.1 = true) {ad0 : Nat → Nat} {s : am_M} {x1 : Int32} {x2 : Int32} {x3 : Int32} (h : p_BA_uses s x1 x2 x3) : AW l g m_BA_uses 207 ad0 ((am_oI s) (f_BA_uses s x1 x2 x3)) 0 0 207 s 0 [(0, .ref 1), (1, .int x1), (2, .int x2), (3, .int x3)] [] := by
  refine am_aload_n (j := 0) d_BA_uses_0 rfl rfl ?_
  refine am_iload_n (j := 1) d_BA_uses_1 rfl rfl ?_
  refine am_bipush (v := (6 : Int32)) d_BA_uses_2 (by decide) ?_
  refine am_idiv d_BA_uses_4 (by decide) ?_
  refine am_iload_n (j := 1) d_BA_uses_5 rfl rfl ?_
  refine am_bipush (v := (6 : Int32)) d_BA_uses_6 (by decide) ?_
  refine am_irem d_BA_uses_8 (by decide) ?_
  obtain ⟨hc, h⟩ := h
  refine ak_VR (as := [.int (x1 / (6 : Int32)), .int (x1 - x1 / (6 : Int32) * (6 : Int32))]) (rest := []) d_BA_uses_9 cw_BA_uses_9 rfl rfl rfl (ct_BA_column hg hc) rfl rfl (by decide) sh_1 rfl (Nat.le_of_ble_eq_true rfl) (by decide) (by decide) ?_
  refine am_astore (lv2 := [(4, .ref (f_BA_column s (x1 / (6 : Int32)) (x1 - x1 / (6 : Int32) * (6 : Int32)))), (0, .ref 1), (1, .int x1), (2, .int x2), (3, .int x3)]) d_BA_uses_12 (by decide) rfl ?_
  refine am_aload (j := 0) d_BA_uses_14 rfl ?_
  obtain ⟨⟨b1, t1⟩, h⟩ := h
  refine am_getI d_BA_uses_16 fl_BA_98 b1 t1 (by decide) rfl ?_
  refine am_iconst (v := (3 : Int32)) d_BA_uses_19 (by decide) ?_
  refine aj_eq (F := (am_oI s)) (tgt := 25) d_BA_uses_20 (by decide) (fun c => ?_) (fun c => ?_)
  · have h := h.1 c
    refine am_iload_n (j := 2) d_BA_uses_25 rfl rfl ?_
    refine am_bipush (v := (6 : Int32)) d_BA_uses_26 (by decide) ?_
    refine am_idiv d_BA_uses_28 (by decide) ?_
    refine am_istore (lv2 := [(5, .int (x1 / (6 : Int32))), (4, .ref (f_BA_column s (x1 / (6 : Int32)) (x1 - x1 / (6 : Int32) * (6 : Int32)))), (0, .ref 1), (1, .int x1), (2, .int x2), (3, .int x3)]) d_BA_uses_29 (by decide) rfl ?_
    refine am_aload_n (j := 2) d_BA_uses_31 rfl rfl ?_
    refine am_aload (j := 1) d_BA_uses_32 rfl ?_
    refine am_iload (j := 0) d_BA_uses_34 rfl ?_
    obtain ⟨hc, h⟩ := h
    refine ak_VI (as := [.ref (f_BA_column s (x1 / (6 : Int32)) (x1 - x1 / (6 : Int32) * (6 : Int32))), .int (x1 / (6 : Int32))]) (rest := []) d_BA_uses_36 cw_BA_uses_36 rfl rfl rfl (ct_BA_tableOfOne hg hc) rfl rfl (by decide) sh_1 rfl (Nat.le_of_ble_eq_true rfl) (by decide) (by decide) ?_
    refine am_iload_n (j := 4) d_BA_uses_39 rfl rfl ?_
    refine aj_ne (F := (am_oI s)) (tgt := 54) d_BA_uses_40 (by decide) (fun c => ?_) (fun c => ?_)
    · have h := h.2 c
      refine am_sub [2, 3, 4, 5, 1, 0] (lv2 := [(0, .ref 1), (1, .int x1), (2, .int x2), (3, .int x3), (4, .ref (f_BA_column s (x1 / (6 : Int32)) (x1 - x1 / (6 : Int32) * (6 : Int32)))), (5, .int (x1 / (6 : Int32)))]) rfl ?_
      exact w_BA_uses_54 hg h
    · have h := h.1 c
      refine am_aload (j := 1) d_BA_uses_43 rfl ?_
      refine am_getI d_BA_uses_45 fl_BA_129 b1 t1 (by decide) rfl ?_
      refine am_iload_n (j := 5) d_BA_uses_48 rfl rfl ?_
      refine aj_ne (F := (am_oI s)) (tgt := 54) d_BA_uses_49 (by decide) (fun c => ?_) (fun c => ?_)
      · have h := h.2 c
        refine am_sub [2, 3, 4, 5, 1, 0] (lv2 := [(0, .ref 1), (1, .int x1), (2, .int x2), (3, .int x3), (4, .ref (f_BA_column s (x1 / (6 : Int32)) (x1 - x1 / (6 : Int32) * (6 : Int32)))), (5, .int (x1 / (6 : Int32)))]) rfl ?_
        exact w_BA_uses_54 hg h
      · have h := h.1 c
        refine am_iconst (v := (1 : Int32)) d_BA_uses_52 (by decide) ?_
        exact am_iret d_BA_uses_53 rfl (am_bool (Or.inr rfl)).1 (by decide) (by decide) am_oI_ok
  · have h := h.2 c
    refine am_iconst (v := (0 : Int32)) d_BA_uses_23 (by decide) ?_
    exact am_iret d_BA_uses_24 rfl (am_bool (Or.inl rfl)).1 (by decide) (by decide) am_oI_ok
theorem ct_BA_uses {l : Launch} {g : am_Gl} (hg : g.2.2.2.1 = true) {s : am_M} {x1 : Int32} {x2 : Int32} {x3 : Int32} (h : p_BA_uses s x1 x2 x3) : AC l g m_BA_uses 207 s [.ref 1, .int x1, .int x2, .int x3] ((am_oI s) (f_BA_uses s x1 x2 x3)) := am_enter ok_BA_uses rfl (Nat.le_of_ble_eq_true rfl) rfl (fun ad0 => w_BA_uses hg h)
theorem cw_BA_isUsed_24 : am_cv m_BA_isUsed m_RU_isFor 182 2 := ⟨⟨ok_RU_isFor, rfl, by decide +kernel, by decide, by decide⟩, aw_4_89, aw_4_90, aw_4_91⟩
theorem cw_BA_isUsed_53 : am_cv m_BA_isUsed m_BA_uses 185 3 := ⟨⟨ok_BA_uses, rfl, by decide +kernel, by decide, by decide⟩, aw_4_93, aw_4_95, as_3_12⟩
def f_BA_isUsed_40  : Nat → am_M → Int32 → Int32 → Int32 → Int32
  | 0, s, x1, x2, x3 => 0
  | n + 1, s, x1, x2, x3 => (if (24 : Int32) ≤ x3 then (0 : Int32) else (if (f_BA_uses s x3 x1 x2) = 0 then ((f_BA_isUsed_40  n s) x1 x2 (x3 + (1 : Int32))) else (1 : Int32)))
def p_BA_isUsed_40  : Nat → am_M → Int32 → Int32 → Int32 → Prop
  | 0, s, x1, x2, x3 => False
  | n + 1, s, x1, x2, x3 => (((24 : Int32) ≤ x3) → True) ∧ (¬ ((24 : Int32) ≤ x3) → p_BA_uses s x3 x1 x2 ∧ ((((f_BA_uses s x3 x1 x2) = 0) → ((p_BA_isUsed_40  n s) x1 x2 (x3 + (1 : Int32)))) ∧ (¬ ((f_BA_uses s x3 x1 x2) = 0) → True)))
set_option maxRecDepth 8000 in
theorem w_BA_isUsed_40 {l : Launch} {g : am_Gl} (hg : g.2.2.2.1 = true) {ad0 : Nat → Nat} {s : am_M}   : ∀ (n : Nat) (x1 : Int32) (x2 : Int32) (x3 : Int32), p_BA_isUsed_40  n s x1 x2 x3 → AW l g m_BA_isUsed 207 ad0 ((am_oI s) (f_BA_isUsed_40  n s x1 x2 x3)) 0 0 207 s 40 [(0, .ref 1), (1, .int x1), (2, .int x2), (3, .int x3)] [] := by
  intro n
  induction n with
  | zero => intro x1 x2 x3 h; exact h.elim
  | succ n hK40 =>
    intro x1 x2 x3 h
    refine am_iload_n (j := 3) d_BA_isUsed_40 rfl rfl ?_
    refine am_aload_n (j := 0) d_BA_isUsed_41 rfl rfl ?_
    refine am_getR (t := 2) d_BA_isUsed_42 fl_BA_11 hg (by decide) sh_1 (by decide) rfl (by decide) lk_1_0 (by decide) ?_
    refine am_alen (v := (24 : Int32)) d_BA_isUsed_45 (by decide) sh_2 (by decide) (by decide) ?_
    refine aj_ge (F := (am_oI s)) (tgt := 67) d_BA_isUsed_46 (by decide) (fun c => ?_) (fun c => ?_)
    · have h := h.1 c
      refine am_iconst (v := (0 : Int32)) d_BA_isUsed_67 (by decide) ?_
      exact am_iret d_BA_isUsed_68 rfl (am_bool (Or.inl rfl)).1 (by decide) (by decide) am_oI_ok
    · have h := h.2 c
      refine am_aload_n (j := 0) d_BA_isUsed_49 rfl rfl ?_
      refine am_iload_n (j := 3) d_BA_isUsed_50 rfl rfl ?_
      refine am_iload_n (j := 1) d_BA_isUsed_51 rfl rfl ?_
      refine am_iload_n (j := 2) d_BA_isUsed_52 rfl rfl ?_
      obtain ⟨hc, h⟩ := h
      refine ak_VI (as := [.int x3, .int x1, .int x2]) (rest := []) d_BA_isUsed_53 cw_BA_isUsed_53 rfl rfl rfl (ct_BA_uses hg hc) rfl rfl (by decide) sh_1 rfl (Nat.le_of_ble_eq_true rfl) (by decide) (by decide) ?_
      refine ai_eq (F := (am_oI s)) (tgt := 61) d_BA_isUsed_56 (by decide) (fun c => ?_) (fun c => ?_)
      · have h := h.1 c
        refine am_iinc (j := 3) (v := (x3 + (1 : Int32))) (lv2 := [(3, .int (x3 + (1 : Int32))), (0, .ref 1), (1, .int x1), (2, .int x2)]) d_BA_isUsed_61 rfl rfl (by decide) rfl ?_
        refine am_goto (tgt := 40) d_BA_isUsed_64 (by decide) ?_
        refine am_sub [1, 2, 3, 0] (lv2 := [(0, .ref 1), (1, .int x1), (2, .int x2), (3, .int (x3 + (1 : Int32)))]) rfl ?_
        exact hK40 _ _ _ h
      · have h := h.2 c
        refine am_iconst (v := (1 : Int32)) d_BA_isUsed_59 (by decide) ?_
        exact am_iret d_BA_isUsed_60 rfl (am_bool (Or.inr rfl)).1 (by decide) (by decide) am_oI_ok
def f_BA_isUsed_38  (s : am_M) (x1 : Int32) (x2 : Int32) (x3 : Int32) : Int32 := (f_BA_isUsed_40 am_F s x1 x2 (0 : Int32))
def p_BA_isUsed_38  (s : am_M) (x1 : Int32) (x2 : Int32) (x3 : Int32) : Prop := (p_BA_isUsed_40 am_F s x1 x2 (0 : Int32))
set_option maxRecDepth 8000 in
theorem w_BA_isUsed_38 {l : Launch} {g : am_Gl} (hg : g.2.2.2.1 = true) {ad0 : Nat → Nat} {s : am_M}  {x1 : Int32} {x2 : Int32} {x3 : Int32} (h : p_BA_isUsed_38  s x1 x2 x3) : AW l g m_BA_isUsed 207 ad0 ((am_oI s) (f_BA_isUsed_38  s x1 x2 x3)) 0 0 207 s 38 [(0, .ref 1), (1, .int x1), (2, .int x2), (3, .int x3)] [] := by
  refine am_iconst (v := (0 : Int32)) d_BA_isUsed_38 (by decide) ?_
  refine am_istore_n (lv2 := [(3, .int (0 : Int32)), (0, .ref 1), (1, .int x1), (2, .int x2)]) d_BA_isUsed_39 rfl (by decide) rfl ?_
  refine am_sub [1, 2, 3, 0] (lv2 := [(0, .ref 1), (1, .int x1), (2, .int x2), (3, .int (0 : Int32))]) rfl ?_
  exact w_BA_isUsed_40 hg am_F _ _ _ h
def f_BA_isUsed_2  : Nat → am_M → Int32 → Int32 → Int32 → Int32
  | 0, s, x1, x2, x3 => 0
  | n + 1, s, x1, x2, x3 => (if (s 1 6) ≤ x3 then (f_BA_isUsed_38 s x1 x2 x3) else (if (8 : Int32) ≤ x3 then (f_BA_isUsed_38 s x1 x2 x3) else (if (f_RU_isFor s (am_lk 5 (x3).toNatClampNeg) x1 x2) = 0 then ((f_BA_isUsed_2  n s) x1 x2 (x3 + (1 : Int32))) else (1 : Int32))))
def p_BA_isUsed_2  : Nat → am_M → Int32 → Int32 → Int32 → Prop
  | 0, s, x1, x2, x3 => False
  | n + 1, s, x1, x2, x3 => (((s 1 6) ≤ x3) → (p_BA_isUsed_38 s x1 x2 x3)) ∧ (¬ ((s 1 6) ≤ x3) → (((8 : Int32) ≤ x3) → (p_BA_isUsed_38 s x1 x2 x3)) ∧ (¬ ((8 : Int32) ≤ x3) → vp_in x3 8 ∧ (((am_lk 5 (x3).toNatClampNeg) < 207 ∧ am_sh (am_lk 5 (x3).toNatClampNeg) = (0, 7, 6)) ∧ (p_RU_isFor s (am_lk 5 (x3).toNatClampNeg) x1 x2 ∧ ((((f_RU_isFor s (am_lk 5 (x3).toNatClampNeg) x1 x2) = 0) → ((p_BA_isUsed_2  n s) x1 x2 (x3 + (1 : Int32)))) ∧ (¬ ((f_RU_isFor s (am_lk 5 (x3).toNatClampNeg) x1 x2) = 0) → True))))))
set_option maxRecDepth 8000 in
theorem w_BA_isUsed_2 {l : Launch} {g : am_Gl} (hg : g.2.2.2.1 = true) {ad0 : Nat → Nat} {s : am_M}   : ∀ (n : Nat) (x1 : Int32) (x2 : Int32) (x3 : Int32), p_BA_isUsed_2  n s x1 x2 x3 → AW l g m_BA_isUsed 207 ad0 ((am_oI s) (f_BA_isUsed_2  n s x1 x2 x3)) 0 0 207 s 2 [(0, .ref 1), (1, .int x1), (2, .int x2), (3, .int x3)] [] := by
  intro n
  induction n with
  | zero => intro x1 x2 x3 h; exact h.elim
  | succ n hK2 =>
    intro x1 x2 x3 h
    refine am_iload_n (j := 3) d_BA_isUsed_2 rfl rfl ?_
    refine am_aload_n (j := 0) d_BA_isUsed_3 rfl rfl ?_
    refine am_getI d_BA_isUsed_4 fl_BA_87 (by decide) sh_1 (by decide) rfl ?_
    refine aj_ge (F := (am_oI s)) (tgt := 38) d_BA_isUsed_7 (by decide) (fun c => ?_) (fun c => ?_)
    · have h := h.1 c
      exact w_BA_isUsed_38 hg h
    · have h := h.2 c
      refine am_iload_n (j := 3) d_BA_isUsed_10 rfl rfl ?_
      refine am_bipush (v := (8 : Int32)) d_BA_isUsed_11 (by decide) ?_
      refine aj_ge (F := (am_oI s)) (tgt := 38) d_BA_isUsed_13 (by decide) (fun c => ?_) (fun c => ?_)
      · have h := h.1 c
        exact w_BA_isUsed_38 hg h
      · have h := h.2 c
        refine am_aload_n (j := 0) d_BA_isUsed_16 rfl rfl ?_
        refine am_getR (t := 5) d_BA_isUsed_17 fl_BA_28 hg (by decide) sh_1 (by decide) rfl (by decide) lk_1_4 (by decide) ?_
        refine am_iload_n (j := 3) d_BA_isUsed_20 rfl rfl ?_
        obtain ⟨hv, h⟩ := h
        obtain ⟨⟨b1, t1⟩, h⟩ := h
        refine am_aalL d_BA_isUsed_21 hg (by decide) sh_5 (by decide) (by decide) hv rfl b1 ?_
        refine am_iload_n (j := 1) d_BA_isUsed_22 rfl rfl ?_
        refine am_iload_n (j := 2) d_BA_isUsed_23 rfl rfl ?_
        obtain ⟨hc, h⟩ := h
        refine ak_VI (as := [.int x1, .int x2]) (rest := []) d_BA_isUsed_24 cw_BA_isUsed_24 rfl rfl rfl (ct_RU_isFor hg hc) rfl rfl b1 t1 rfl (Nat.le_of_ble_eq_true rfl) (by decide) (by decide) ?_
        refine ai_eq (F := (am_oI s)) (tgt := 32) d_BA_isUsed_27 (by decide) (fun c => ?_) (fun c => ?_)
        · have h := h.1 c
          refine am_iinc (j := 3) (v := (x3 + (1 : Int32))) (lv2 := [(3, .int (x3 + (1 : Int32))), (0, .ref 1), (1, .int x1), (2, .int x2)]) d_BA_isUsed_32 rfl rfl (by decide) rfl ?_
          refine am_goto (tgt := 2) d_BA_isUsed_35 (by decide) ?_
          refine am_sub [1, 2, 3, 0] (lv2 := [(0, .ref 1), (1, .int x1), (2, .int x2), (3, .int (x3 + (1 : Int32)))]) rfl ?_
          exact hK2 _ _ _ h
        · have h := h.2 c
          refine am_iconst (v := (1 : Int32)) d_BA_isUsed_30 (by decide) ?_
          exact am_iret d_BA_isUsed_31 rfl (am_bool (Or.inr rfl)).1 (by decide) (by decide) am_oI_ok
def f_BA_isUsed  (s : am_M) (x1 : Int32) (x2 : Int32) : Int32 := (f_BA_isUsed_2 am_F s x1 x2 (0 : Int32))
def p_BA_isUsed  (s : am_M) (x1 : Int32) (x2 : Int32) : Prop := (p_BA_isUsed_2 am_F s x1 x2 (0 : Int32))
set_option maxRecDepth 8000 in
theorem w_BA_isUsed {l : Launch} {g : am_Gl} (hg : g.2.2.2.1 = true) {ad0 : Nat → Nat} {s : am_M} {x1 : Int32} {x2 : Int32} (h : p_BA_isUsed s x1 x2) : AW l g m_BA_isUsed 207 ad0 ((am_oI s) (f_BA_isUsed s x1 x2)) 0 0 207 s 0 [(0, .ref 1), (1, .int x1), (2, .int x2)] [] := by
  refine am_iconst (v := (0 : Int32)) d_BA_isUsed_0 (by decide) ?_
  refine am_istore_n (lv2 := [(3, .int (0 : Int32)), (0, .ref 1), (1, .int x1), (2, .int x2)]) d_BA_isUsed_1 rfl (by decide) rfl ?_
  refine am_sub [1, 2, 3, 0] (lv2 := [(0, .ref 1), (1, .int x1), (2, .int x2), (3, .int (0 : Int32))]) rfl ?_
  exact w_BA_isUsed_2 hg am_F _ _ _ h
theorem ct_BA_isUsed {l : Launch} {g : am_Gl} (hg : g.2.2.2.1 = true) {s : am_M} {x1 : Int32} {x2 : Int32} (h : p_BA_isUsed s x1 x2) : AC l g m_BA_isUsed 207 s [.ref 1, .int x1, .int x2] ((am_oI s) (f_BA_isUsed s x1 x2)) := am_enter ok_BA_isUsed rfl (Nat.le_of_ble_eq_true rfl) rfl (fun ad0 => w_BA_isUsed hg h)
theorem cw_BA_dropColumn_3 : am_cv m_BA_dropColumn m_BA_column 79 2 := ⟨⟨ok_BA_column, rfl, by decide +kernel, by decide, by decide⟩, aw_2_93, aw_2_94, aw_2_95⟩
theorem cw_BA_dropColumn_52 : am_cv m_BA_dropColumn m_BA_putInOrder 120 0 := ⟨⟨ok_BA_putInOrder, rfl, by decide +kernel, by decide, by decide⟩, aw_4_16, aw_4_18, as_3_4⟩
theorem cw_BA_dropColumn_42 : am_cv m_BA_dropColumn m_RO_set 166 4 := ⟨⟨ok_RO_set, rfl, by decide +kernel, by decide, by decide⟩, aw_2_162, aw_2_163, aw_2_164⟩
def f_BA_dropColumn_25  : Nat → am_M → Int32 → Int32 → Nat → Int32 → am_M
  | 0, s, x1, x2, x3, x4 => s
  | n + 1, s, x1, x2, x3, x4 => (if (30 : Int32) ≤ x4 then (f_BA_putInOrder s).2 else ((f_BA_dropColumn_25  n) (f_RO_set s 8 x1 x4 x2 (-1000000 : Int32)) x1 x2 x3 (x4 + (1 : Int32))))
def p_BA_dropColumn_25  : Nat → am_M → Int32 → Int32 → Nat → Int32 → Prop
  | 0, s, x1, x2, x3, x4 => False
  | n + 1, s, x1, x2, x3, x4 => (((30 : Int32) ≤ x4) → p_BA_putInOrder s ∧ (True)) ∧ (¬ ((30 : Int32) ≤ x4) → p_RO_set s 8 x1 x4 x2 (-1000000 : Int32) ∧ (((p_BA_dropColumn_25  n) (f_RO_set s 8 x1 x4 x2 (-1000000 : Int32)) x1 x2 x3 (x4 + (1 : Int32)))))
set_option maxRecDepth 8000 in
theorem w_BA_dropColumn_25 {l : Launch} {g : am_Gl} (hg : g.2.2.2.1 = true) {ad0 : Nat → Nat}   : ∀ (n : Nat) (s : am_M) (x1 : Int32) (x2 : Int32) (x3 : Nat) (x4 : Int32), p_BA_dropColumn_25  n s x1 x2 x3 x4 → AW l g m_BA_dropColumn 207 ad0 (am_oM (f_BA_dropColumn_25  n s x1 x2 x3 x4)) 0 0 207 s 25 [(0, .ref 1), (1, .int x1), (2, .int x2), (3, .ref x3), (4, .int x4)] [] := by
  intro n
  induction n with
  | zero => intro s x1 x2 x3 x4 h; exact h.elim
  | succ n hK25 =>
    intro s x1 x2 x3 x4 h
    refine am_iload (j := 4) d_BA_dropColumn_25 rfl ?_
    refine am_bipush (v := (30 : Int32)) d_BA_dropColumn_27 (by decide) ?_
    refine aj_ge (F := am_oM) (tgt := 51) d_BA_dropColumn_29 (by decide) (fun c => ?_) (fun c => ?_)
    · have h := h.1 c
      refine am_aload_n (j := 0) d_BA_dropColumn_51 rfl rfl ?_
      obtain ⟨hc, h⟩ := h
      refine ak_VC (as := []) (rest := []) d_BA_dropColumn_52 cw_BA_dropColumn_52 rfl rfl rfl (ct_BA_putInOrder hg hc) rfl rfl (by decide) sh_1 rfl (Nat.le_of_ble_eq_true rfl) (by decide) (by decide) ?_
      refine am_pop d_BA_dropColumn_55 rfl ?_
      exact am_vret d_BA_dropColumn_56 rfl (by decide) (by decide) am_oM_ok
    · have h := h.2 c
      refine am_aload_n (j := 0) d_BA_dropColumn_32 rfl rfl ?_
      refine am_getR (t := 8) d_BA_dropColumn_33 fl_BA_43 hg (by decide) sh_1 (by decide) rfl (by decide) lk_1_9 (by decide) ?_
      refine am_iload_n (j := 1) d_BA_dropColumn_36 rfl rfl ?_
      refine am_iload (j := 4) d_BA_dropColumn_37 rfl ?_
      refine am_iload_n (j := 2) d_BA_dropColumn_39 rfl rfl ?_
      refine am_ldc (v := (-1000000 : Int32)) d_BA_dropColumn_40 aw_2_161 ?_
      obtain ⟨hc, h⟩ := h
      refine ak_VM (as := [.int x1, .int x4, .int x2, .int (-1000000 : Int32)]) (rest := []) d_BA_dropColumn_42 cw_BA_dropColumn_42 rfl rfl rfl (ct_RO_set hg hc) rfl rfl (by decide) sh_8 rfl (Nat.le_of_ble_eq_true rfl) (by decide) (by decide) ?_
      refine am_iinc (j := 4) (v := (x4 + (1 : Int32))) (lv2 := [(4, .int (x4 + (1 : Int32))), (0, .ref 1), (1, .int x1), (2, .int x2), (3, .ref x3)]) d_BA_dropColumn_45 rfl rfl (by decide) rfl ?_
      refine am_goto (tgt := 25) d_BA_dropColumn_48 (by decide) ?_
      refine am_sub [1, 2, 3, 4, 0] (lv2 := [(0, .ref 1), (1, .int x1), (2, .int x2), (3, .ref x3), (4, .int (x4 + (1 : Int32)))]) rfl ?_
      exact hK25 _ _ _ _ _ h
def f_BA_dropColumn  (s : am_M) (x1 : Int32) (x2 : Int32) : am_M := (f_BA_dropColumn_25 am_F (am_set (am_set (am_set s (f_BA_column s x1 x2) 0 (0 : Int32)) (f_BA_column s x1 x2) 5 (0 : Int32)) (f_BA_column s x1 x2) 6 (0 : Int32)) x1 x2 (f_BA_column s x1 x2) (0 : Int32))
def p_BA_dropColumn  (s : am_M) (x1 : Int32) (x2 : Int32) : Prop := p_BA_column s x1 x2 ∧ (((f_BA_column s x1 x2) < 207 ∧ am_sh (f_BA_column s x1 x2) = (0, 3, 11)) ∧ ((p_BA_dropColumn_25 am_F (am_set (am_set (am_set s (f_BA_column s x1 x2) 0 (0 : Int32)) (f_BA_column s x1 x2) 5 (0 : Int32)) (f_BA_column s x1 x2) 6 (0 : Int32)) x1 x2 (f_BA_column s x1 x2) (0 : Int32))))
set_option maxRecDepth 8000 in
theorem w_BA_dropColumn {l : Launch} {g : am_Gl} (hg : g.2.2.2.1 = true) {ad0 : Nat → Nat} {s : am_M} {x1 : Int32} {x2 : Int32} (h : p_BA_dropColumn s x1 x2) : AW l g m_BA_dropColumn 207 ad0 (am_oM (f_BA_dropColumn s x1 x2)) 0 0 207 s 0 [(0, .ref 1), (1, .int x1), (2, .int x2)] [] := by
  refine am_aload_n (j := 0) d_BA_dropColumn_0 rfl rfl ?_
  refine am_iload_n (j := 1) d_BA_dropColumn_1 rfl rfl ?_
  refine am_iload_n (j := 2) d_BA_dropColumn_2 rfl rfl ?_
  obtain ⟨hc, h⟩ := h
  refine ak_VR (as := [.int x1, .int x2]) (rest := []) d_BA_dropColumn_3 cw_BA_dropColumn_3 rfl rfl rfl (ct_BA_column hg hc) rfl rfl (by decide) sh_1 rfl (Nat.le_of_ble_eq_true rfl) (by decide) (by decide) ?_
  refine am_astore_n (lv2 := [(3, .ref (f_BA_column s x1 x2)), (0, .ref 1), (1, .int x1), (2, .int x2)]) d_BA_dropColumn_6 rfl (by decide) rfl ?_
  refine am_aload_n (j := 0) d_BA_dropColumn_7 rfl rfl ?_
  refine am_iconst (v := (0 : Int32)) d_BA_dropColumn_8 (by decide) ?_
  obtain ⟨⟨b1, t1⟩, h⟩ := h
  refine am_putI (ty := .int) d_BA_dropColumn_9 fl_BA_98 ft_3_0 b1 t1 (by decide) rfl rfl rfl ?_
  refine am_aload_n (j := 0) d_BA_dropColumn_12 rfl rfl ?_
  refine am_iconst (v := (0 : Int32)) d_BA_dropColumn_13 (by decide) ?_
  refine am_putI (ty := .boolean) d_BA_dropColumn_14 fl_BA_148 ft_3_5 b1 t1 (by decide) rfl (am_bool (Or.inl rfl)).1 (am_bool (Or.inl rfl)).2 ?_
  refine am_aload_n (j := 0) d_BA_dropColumn_17 rfl rfl ?_
  refine am_iconst (v := (0 : Int32)) d_BA_dropColumn_18 (by decide) ?_
  refine am_putI (ty := .boolean) d_BA_dropColumn_19 fl_BA_151 ft_3_6 b1 t1 (by decide) rfl (am_bool (Or.inl rfl)).1 (am_bool (Or.inl rfl)).2 ?_
  refine am_iconst (v := (0 : Int32)) d_BA_dropColumn_22 (by decide) ?_
  refine am_istore (lv2 := [(4, .int (0 : Int32)), (3, .ref (f_BA_column s x1 x2)), (0, .ref 1), (1, .int x1), (2, .int x2)]) d_BA_dropColumn_23 (by decide) rfl ?_
  refine am_sub [2, 3, 4, 1, 0] (lv2 := [(0, .ref 1), (1, .int x1), (2, .int x2), (3, .ref (f_BA_column s x1 x2)), (4, .int (0 : Int32))]) rfl ?_
  exact w_BA_dropColumn_25 hg am_F _ _ _ _ _ h
theorem ct_BA_dropColumn {l : Launch} {g : am_Gl} (hg : g.2.2.2.1 = true) {s : am_M} {x1 : Int32} {x2 : Int32} (h : p_BA_dropColumn s x1 x2) : AC l g m_BA_dropColumn 207 s [.ref 1, .int x1, .int x2] (am_oM (f_BA_dropColumn s x1 x2)) := am_enter ok_BA_dropColumn rfl (Nat.le_of_ble_eq_true rfl) rfl (fun ad0 => w_BA_dropColumn hg h)
theorem cw_BA_changeRange_3 : am_cv m_BA_changeRange m_BA_column 79 2 := ⟨⟨ok_BA_column, rfl, by decide +kernel, by decide, by decide⟩, aw_2_93, aw_2_94, aw_2_95⟩
theorem cw_BA_changeRange_23 : am_cv m_BA_changeRange m_BA_keep 138 0 := ⟨⟨ok_BA_keep, rfl, by decide +kernel, by decide, by decide⟩, aw_2_142, aw_2_144, as_0_8⟩
theorem cw_BA_changeRange_58 : am_cv m_BA_changeRange m_RO_get 159 3 := ⟨⟨ok_RO_get, rfl, by decide +kernel, by decide, by decide⟩, aw_2_179, aw_2_180, aw_2_181⟩
theorem cw_BA_changeRange_64 : am_cv m_BA_changeRange m_BA_isOutside 163 3 := ⟨⟨ok_BA_isOutside, rfl, by decide +kernel, by decide, by decide⟩, aw_2_219, aw_2_221, as_0_14⟩
theorem cw_BA_changeRange_80 : am_cv m_BA_changeRange m_RO_set 166 4 := ⟨⟨ok_RO_set, rfl, by decide +kernel, by decide, by decide⟩, aw_2_162, aw_2_163, aw_2_164⟩
theorem cw_BA_changeRange_90 : am_cv m_BA_changeRange m_BA_settle 141 0 := ⟨⟨ok_BA_settle, rfl, by decide +kernel, by decide, by decide⟩, aw_2_166, aw_2_168, as_0_9⟩
def f_BA_changeRange_83 (K42 : am_M → Int32 → Int32 → Int32 → Int32 → Nat → Int32 → Int32 → Int32 → Int32 × am_M) (s : am_M) (x1 : Int32) (x2 : Int32) (x3 : Int32) (x4 : Int32) (x5 : Nat) (x6 : Int32) (x7 : Int32) (x8 : Int32) : Int32 × am_M := (K42 s x1 x2 x3 x4 x5 x6 x7 (x8 + (1 : Int32)))
def p_BA_changeRange_83 (KP42 : am_M → Int32 → Int32 → Int32 → Int32 → Nat → Int32 → Int32 → Int32 → Prop) (s : am_M) (x1 : Int32) (x2 : Int32) (x3 : Int32) (x4 : Int32) (x5 : Nat) (x6 : Int32) (x7 : Int32) (x8 : Int32) : Prop := (KP42 s x1 x2 x3 x4 x5 x6 x7 (x8 + (1 : Int32)))
set_option maxRecDepth 8000 in
theorem w_BA_changeRange_83 {l : Launch} {g : am_Gl} (hg : g.2.2.2.1 = true) {ad0 : Nat → Nat} {K42 : am_M → Int32 → Int32 → Int32 → Int32 → Nat → Int32 → Int32 → Int32 → Int32 × am_M} {KP42 : am_M → Int32 → Int32 → Int32 → Int32 → Nat → Int32 → Int32 → Int32 → Prop} (hK42 : ∀ (s : am_M) (x1 : Int32) (x2 : Int32) (x3 : Int32) (x4 : Int32) (x5 : Nat) (x6 : Int32) (x7 : Int32) (x8 : Int32), KP42 s x1 x2 x3 x4 x5 x6 x7 x8 → AW l g m_BA_changeRange 207 ad0 (am_oC (K42 s x1 x2 x3 x4 x5 x6 x7 x8)) 0 0 207 s 42 [(0, .ref 1), (1, .int x1), (2, .int x2), (3, .int x3), (4, .int x4), (5, .ref x5), (6, .int x6), (7, .int x7), (8, .int x8)] []) {s : am_M} {x1 : Int32} {x2 : Int32} {x3 : Int32} {x4 : Int32} {x5 : Nat} {x6 : Int32} {x7 : Int32} {x8 : Int32} (h : p_BA_changeRange_83 KP42 s x1 x2 x3 x4 x5 x6 x7 x8) : AW l g m_BA_changeRange 207 ad0 (am_oC (f_BA_changeRange_83 K42 s x1 x2 x3 x4 x5 x6 x7 x8)) 0 0 207 s 83 [(0, .ref 1), (1, .int x1), (2, .int x2), (3, .int x3), (4, .int x4), (5, .ref x5), (6, .int x6), (7, .int x7), (8, .int x8)] [] := by
  refine am_iinc (j := 8) (v := (x8 + (1 : Int32))) (lv2 := [(8, .int (x8 + (1 : Int32))), (0, .ref 1), (1, .int x1), (2, .int x2), (3, .int x3), (4, .int x4), (5, .ref x5), (6, .int x6), (7, .int x7)]) d_BA_changeRange_83 rfl rfl (by decide) rfl ?_
  refine am_goto (tgt := 42) d_BA_changeRange_86 (by decide) ?_
  refine am_sub [1, 2, 3, 4, 5, 6, 7, 8, 0] (lv2 := [(0, .ref 1), (1, .int x1), (2, .int x2), (3, .int x3), (4, .int x4), (5, .ref x5), (6, .int x6), (7, .int x7), (8, .int (x8 + (1 : Int32)))]) rfl ?_
  exact hK42 _ _ _ _ _ _ _ _ _ h
def f_BA_changeRange_89  (s : am_M) (x1 : Int32) (x2 : Int32) (x3 : Int32) (x4 : Int32) (x5 : Nat) (x6 : Int32) (x7 : Int32) (x8 : Int32) : Int32 × am_M := (if (f_BA_settle s).1 = 0 then ((f_BA_settle s).1, (am_set (am_set (f_BA_settle s).2 x5 1 x6) x5 2 x7)) else ((f_BA_settle s).1, (f_BA_settle s).2))
def p_BA_changeRange_89  (s : am_M) (x1 : Int32) (x2 : Int32) (x3 : Int32) (x4 : Int32) (x5 : Nat) (x6 : Int32) (x7 : Int32) (x8 : Int32) : Prop := p_BA_settle s ∧ ((((f_BA_settle s).1 = 0) → (x5 < 207 ∧ am_sh x5 = (0, 3, 11)) ∧ (((f_BA_settle s).1 = 0 ∨ (f_BA_settle s).1 = 1) ∧ (True))) ∧ (¬ ((f_BA_settle s).1 = 0) → ((f_BA_settle s).1 = 0 ∨ (f_BA_settle s).1 = 1) ∧ (True)))
set_option maxRecDepth 8000 in
theorem w_BA_changeRange_89 {l : Launch} {g : am_Gl} (hg : g.2.2.2.1 = true) {ad0 : Nat → Nat}  {s : am_M} {x1 : Int32} {x2 : Int32} {x3 : Int32} {x4 : Int32} {x5 : Nat} {x6 : Int32} {x7 : Int32} {x8 : Int32} (h : p_BA_changeRange_89  s x1 x2 x3 x4 x5 x6 x7 x8) : AW l g m_BA_changeRange 207 ad0 (am_oC (f_BA_changeRange_89  s x1 x2 x3 x4 x5 x6 x7 x8)) 0 0 207 s 89 [(0, .ref 1), (1, .int x1), (2, .int x2), (3, .int x3), (4, .int x4), (5, .ref x5), (6, .int x6), (7, .int x7), (8, .int x8)] [] := by
  refine am_aload_n (j := 0) d_BA_changeRange_89 rfl rfl ?_
  obtain ⟨hc, h⟩ := h
  refine ak_VC (as := []) (rest := []) d_BA_changeRange_90 cw_BA_changeRange_90 rfl rfl rfl (ct_BA_settle hg hc) rfl rfl (by decide) sh_1 rfl (Nat.le_of_ble_eq_true rfl) (by decide) (by decide) ?_
  refine am_istore (lv2 := [(8, .int (f_BA_settle s).1), (0, .ref 1), (1, .int x1), (2, .int x2), (3, .int x3), (4, .int x4), (5, .ref x5), (6, .int x6), (7, .int x7)]) d_BA_changeRange_93 (by decide) rfl ?_
  refine am_iload (j := 0) d_BA_changeRange_95 rfl ?_
  refine ai_ne (F := am_oC) (tgt := 114) d_BA_changeRange_97 (by decide) (fun c => ?_) (fun c => ?_)
  · have h := h.2 c
    refine am_iload (j := 0) d_BA_changeRange_114 rfl ?_
    obtain ⟨hz, h⟩ := h
    exact am_iret d_BA_changeRange_116 rfl (am_bool hz).1 (by decide) (by decide) am_oC_ok
  · have h := h.1 c
    refine am_aload (j := 6) d_BA_changeRange_100 rfl ?_
    refine am_iload (j := 7) d_BA_changeRange_102 rfl ?_
    obtain ⟨⟨b1, t1⟩, h⟩ := h
    refine am_putI (ty := .int) d_BA_changeRange_104 fl_BA_105 ft_3_1 b1 t1 (by decide) rfl rfl rfl ?_
    refine am_aload (j := 6) d_BA_changeRange_107 rfl ?_
    refine am_iload (j := 8) d_BA_changeRange_109 rfl ?_
    refine am_putI (ty := .int) d_BA_changeRange_111 fl_BA_108 ft_3_2 b1 t1 (by decide) rfl rfl rfl ?_
    refine am_iload (j := 0) d_BA_changeRange_114 rfl ?_
    obtain ⟨hz, h⟩ := h
    exact am_iret d_BA_changeRange_116 rfl (am_bool hz).1 (by decide) (by decide) am_oC_ok
def f_BA_changeRange_42  : Nat → am_M → Int32 → Int32 → Int32 → Int32 → Nat → Int32 → Int32 → Int32 → Int32 × am_M
  | 0, s, x1, x2, x3, x4, x5, x6, x7, x8 => (0, s)
  | n + 1, s, x1, x2, x3, x4, x5, x6, x7, x8 => (if (30 : Int32) ≤ x8 then (f_BA_changeRange_89 s x1 x2 x3 x4 x5 x6 x7 x8) else (if (f_BA_isOutside s (f_RO_get s 8 x1 x8 x2) x3 x4) = 0 then (f_BA_changeRange_83 (f_BA_changeRange_42  n) s x1 x2 x3 x4 x5 x6 x7 x8) else (f_BA_changeRange_83 (f_BA_changeRange_42  n) (f_RO_set s 8 x1 x8 x2 (-1000000 : Int32)) x1 x2 x3 x4 x5 x6 x7 x8)))
def p_BA_changeRange_42  : Nat → am_M → Int32 → Int32 → Int32 → Int32 → Nat → Int32 → Int32 → Int32 → Prop
  | 0, s, x1, x2, x3, x4, x5, x6, x7, x8 => False
  | n + 1, s, x1, x2, x3, x4, x5, x6, x7, x8 => (((30 : Int32) ≤ x8) → (p_BA_changeRange_89 s x1 x2 x3 x4 x5 x6 x7 x8)) ∧ (¬ ((30 : Int32) ≤ x8) → p_RO_get s 8 x1 x8 x2 ∧ ((((f_BA_isOutside s (f_RO_get s 8 x1 x8 x2) x3 x4) = 0) → (p_BA_changeRange_83 (p_BA_changeRange_42  n) s x1 x2 x3 x4 x5 x6 x7 x8)) ∧ (¬ ((f_BA_isOutside s (f_RO_get s 8 x1 x8 x2) x3 x4) = 0) → p_RO_set s 8 x1 x8 x2 (-1000000 : Int32) ∧ ((p_BA_changeRange_83 (p_BA_changeRange_42  n) (f_RO_set s 8 x1 x8 x2 (-1000000 : Int32)) x1 x2 x3 x4 x5 x6 x7 x8)))))
set_option maxRecDepth 8000 in
theorem w_BA_changeRange_42 {l : Launch} {g : am_Gl} (hg : g.2.2.2.1 = true) {ad0 : Nat → Nat}   : ∀ (n : Nat) (s : am_M) (x1 : Int32) (x2 : Int32) (x3 : Int32) (x4 : Int32) (x5 : Nat) (x6 : Int32) (x7 : Int32) (x8 : Int32), p_BA_changeRange_42  n s x1 x2 x3 x4 x5 x6 x7 x8 → AW l g m_BA_changeRange 207 ad0 (am_oC (f_BA_changeRange_42  n s x1 x2 x3 x4 x5 x6 x7 x8)) 0 0 207 s 42 [(0, .ref 1), (1, .int x1), (2, .int x2), (3, .int x3), (4, .int x4), (5, .ref x5), (6, .int x6), (7, .int x7), (8, .int x8)] [] := by
  intro n
  induction n with
  | zero => intro s x1 x2 x3 x4 x5 x6 x7 x8 h; exact h.elim
  | succ n hK42 =>
    intro s x1 x2 x3 x4 x5 x6 x7 x8 h
    refine am_iload (j := 8) d_BA_changeRange_42 rfl ?_
    refine am_bipush (v := (30 : Int32)) d_BA_changeRange_44 (by decide) ?_
    refine aj_ge (F := am_oC) (tgt := 89) d_BA_changeRange_46 (by decide) (fun c => ?_) (fun c => ?_)
    · have h := h.1 c
      exact w_BA_changeRange_89 hg h
    · have h := h.2 c
      refine am_aload_n (j := 0) d_BA_changeRange_49 rfl rfl ?_
      refine am_aload_n (j := 0) d_BA_changeRange_50 rfl rfl ?_
      refine am_getR (t := 8) d_BA_changeRange_51 fl_BA_43 hg (by decide) sh_1 (by decide) rfl (by decide) lk_1_9 (by decide) ?_
      refine am_iload_n (j := 1) d_BA_changeRange_54 rfl rfl ?_
      refine am_iload (j := 8) d_BA_changeRange_55 rfl ?_
      refine am_iload_n (j := 2) d_BA_changeRange_57 rfl rfl ?_
      obtain ⟨hc, h⟩ := h
      refine ak_VI (as := [.int x1, .int x8, .int x2]) (rest := [.ref 1]) d_BA_changeRange_58 cw_BA_changeRange_58 rfl rfl rfl (ct_RO_get hg hc) rfl rfl (by decide) sh_8 rfl (Nat.le_of_ble_eq_true rfl) (by decide) (by decide) ?_
      refine am_iload_n (j := 3) d_BA_changeRange_61 rfl rfl ?_
      refine am_iload (j := 4) d_BA_changeRange_62 rfl ?_
      refine ak_VI (as := [.int (f_RO_get s 8 x1 x8 x2), .int x3, .int x4]) (rest := []) d_BA_changeRange_64 cw_BA_changeRange_64 rfl rfl rfl (ct_BA_isOutside hg) rfl rfl (by decide) sh_1 rfl (Nat.le_of_ble_eq_true rfl) (by decide) (by decide) ?_
      refine ai_eq (F := am_oC) (tgt := 83) d_BA_changeRange_67 (by decide) (fun c => ?_) (fun c => ?_)
      · have h := h.1 c
        exact w_BA_changeRange_83 hg hK42 h
      · have h := h.2 c
        refine am_aload_n (j := 0) d_BA_changeRange_70 rfl rfl ?_
        refine am_getR (t := 8) d_BA_changeRange_71 fl_BA_43 hg (by decide) sh_1 (by decide) rfl (by decide) lk_1_9 (by decide) ?_
        refine am_iload_n (j := 1) d_BA_changeRange_74 rfl rfl ?_
        refine am_iload (j := 8) d_BA_changeRange_75 rfl ?_
        refine am_iload_n (j := 2) d_BA_changeRange_77 rfl rfl ?_
        refine am_ldc (v := (-1000000 : Int32)) d_BA_changeRange_78 aw_2_161 ?_
        obtain ⟨hc, h⟩ := h
        refine ak_VM (as := [.int x1, .int x8, .int x2, .int (-1000000 : Int32)]) (rest := []) d_BA_changeRange_80 cw_BA_changeRange_80 rfl rfl rfl (ct_RO_set hg hc) rfl rfl (by decide) sh_8 rfl (Nat.le_of_ble_eq_true rfl) (by decide) (by decide) ?_
        exact w_BA_changeRange_83 hg hK42 h
def f_BA_changeRange  (s : am_M) (x1 : Int32) (x2 : Int32) (x3 : Int32) (x4 : Int32) : Int32 × am_M := (f_BA_changeRange_42 am_F (am_set (am_set (f_BA_keep s) (f_BA_column s x1 x2) 1 x3) (f_BA_column s x1 x2) 2 x4) x1 x2 x3 x4 (f_BA_column s x1 x2) (s (f_BA_column s x1 x2) 1) (s (f_BA_column s x1 x2) 2) (0 : Int32))
def p_BA_changeRange  (s : am_M) (x1 : Int32) (x2 : Int32) (x3 : Int32) (x4 : Int32) : Prop := p_BA_column s x1 x2 ∧ (((f_BA_column s x1 x2) < 207 ∧ am_sh (f_BA_column s x1 x2) = (0, 3, 11)) ∧ (p_BA_keep s ∧ ((p_BA_changeRange_42 am_F (am_set (am_set (f_BA_keep s) (f_BA_column s x1 x2) 1 x3) (f_BA_column s x1 x2) 2 x4) x1 x2 x3 x4 (f_BA_column s x1 x2) (s (f_BA_column s x1 x2) 1) (s (f_BA_column s x1 x2) 2) (0 : Int32)))))
set_option maxRecDepth 8000 in
theorem w_BA_changeRange {l : Launch} {g : am_Gl} (hg : g.2.2.2.1 = true) {ad0 : Nat → Nat} {s : am_M} {x1 : Int32} {x2 : Int32} {x3 : Int32} {x4 : Int32} (h : p_BA_changeRange s x1 x2 x3 x4) : AW l g m_BA_changeRange 207 ad0 (am_oC (f_BA_changeRange s x1 x2 x3 x4)) 0 0 207 s 0 [(0, .ref 1), (1, .int x1), (2, .int x2), (3, .int x3), (4, .int x4)] [] := by
  refine am_aload_n (j := 0) d_BA_changeRange_0 rfl rfl ?_
  refine am_iload_n (j := 1) d_BA_changeRange_1 rfl rfl ?_
  refine am_iload_n (j := 2) d_BA_changeRange_2 rfl rfl ?_
  obtain ⟨hc, h⟩ := h
  refine ak_VR (as := [.int x1, .int x2]) (rest := []) d_BA_changeRange_3 cw_BA_changeRange_3 rfl rfl rfl (ct_BA_column hg hc) rfl rfl (by decide) sh_1 rfl (Nat.le_of_ble_eq_true rfl) (by decide) (by decide) ?_
  refine am_astore (lv2 := [(5, .ref (f_BA_column s x1 x2)), (0, .ref 1), (1, .int x1), (2, .int x2), (3, .int x3), (4, .int x4)]) d_BA_changeRange_6 (by decide) rfl ?_
  refine am_aload (j := 0) d_BA_changeRange_8 rfl ?_
  obtain ⟨⟨b1, t1⟩, h⟩ := h
  refine am_getI d_BA_changeRange_10 fl_BA_105 b1 t1 (by decide) rfl ?_
  refine am_istore (lv2 := [(6, .int (s (f_BA_column s x1 x2) 1)), (5, .ref (f_BA_column s x1 x2)), (0, .ref 1), (1, .int x1), (2, .int x2), (3, .int x3), (4, .int x4)]) d_BA_changeRange_13 (by decide) rfl ?_
  refine am_aload (j := 1) d_BA_changeRange_15 rfl ?_
  refine am_getI d_BA_changeRange_17 fl_BA_108 b1 t1 (by decide) rfl ?_
  refine am_istore (lv2 := [(7, .int (s (f_BA_column s x1 x2) 2)), (6, .int (s (f_BA_column s x1 x2) 1)), (5, .ref (f_BA_column s x1 x2)), (0, .ref 1), (1, .int x1), (2, .int x2), (3, .int x3), (4, .int x4)]) d_BA_changeRange_20 (by decide) rfl ?_
  refine am_aload_n (j := 3) d_BA_changeRange_22 rfl rfl ?_
  obtain ⟨hc, h⟩ := h
  refine ak_VM (as := []) (rest := []) d_BA_changeRange_23 cw_BA_changeRange_23 rfl rfl rfl (ct_BA_keep hg hc) rfl rfl (by decide) sh_1 rfl (Nat.le_of_ble_eq_true rfl) (by decide) (by decide) ?_
  refine am_aload (j := 2) d_BA_changeRange_26 rfl ?_
  refine am_iload_n (j := 6) d_BA_changeRange_28 rfl rfl ?_
  refine am_putI (ty := .int) d_BA_changeRange_29 fl_BA_105 ft_3_1 b1 t1 (by decide) rfl rfl rfl ?_
  refine am_aload (j := 2) d_BA_changeRange_32 rfl ?_
  refine am_iload (j := 7) d_BA_changeRange_34 rfl ?_
  refine am_putI (ty := .int) d_BA_changeRange_36 fl_BA_108 ft_3_2 b1 t1 (by decide) rfl rfl rfl ?_
  refine am_iconst (v := (0 : Int32)) d_BA_changeRange_39 (by decide) ?_
  refine am_istore (lv2 := [(8, .int (0 : Int32)), (7, .int (s (f_BA_column s x1 x2) 2)), (6, .int (s (f_BA_column s x1 x2) 1)), (5, .ref (f_BA_column s x1 x2)), (0, .ref 1), (1, .int x1), (2, .int x2), (3, .int x3), (4, .int x4)]) d_BA_changeRange_40 (by decide) rfl ?_
  refine am_sub [4, 5, 6, 7, 8, 3, 2, 1, 0] (lv2 := [(0, .ref 1), (1, .int x1), (2, .int x2), (3, .int x3), (4, .int x4), (5, .ref (f_BA_column s x1 x2)), (6, .int (s (f_BA_column s x1 x2) 1)), (7, .int (s (f_BA_column s x1 x2) 2)), (8, .int (0 : Int32))]) rfl ?_
  exact w_BA_changeRange_42 hg am_F _ _ _ _ _ _ _ _ _ h
theorem ct_BA_changeRange {l : Launch} {g : am_Gl} (hg : g.2.2.2.1 = true) {s : am_M} {x1 : Int32} {x2 : Int32} {x3 : Int32} {x4 : Int32} (h : p_BA_changeRange s x1 x2 x3 x4) : AC l g m_BA_changeRange 207 s [.ref 1, .int x1, .int x2, .int x3, .int x4] (am_oC (f_BA_changeRange s x1 x2 x3 x4)) := am_enter ok_BA_changeRange rfl (Nat.le_of_ble_eq_true rfl) rfl (fun ad0 => w_BA_changeRange hg h)
theorem cw_BA_changeNeeded_3 : am_cv m_BA_changeNeeded m_BA_column 79 2 := ⟨⟨ok_BA_column, rfl, by decide +kernel, by decide, by decide⟩, aw_2_93, aw_2_94, aw_2_95⟩
theorem cw_BA_changeNeeded_16 : am_cv m_BA_changeNeeded m_BA_keep 138 0 := ⟨⟨ok_BA_keep, rfl, by decide +kernel, by decide, by decide⟩, aw_2_142, aw_2_144, as_0_8⟩
theorem cw_BA_changeNeeded_26 : am_cv m_BA_changeNeeded m_BA_settle 141 0 := ⟨⟨ok_BA_settle, rfl, by decide +kernel, by decide, by decide⟩, aw_2_166, aw_2_168, as_0_9⟩
def f_BA_changeNeeded  (s : am_M) (x1 : Int32) (x2 : Int32) (x3 : Int32) : Int32 × am_M := (if (f_BA_settle (am_set (f_BA_keep s) (f_BA_column s x1 x2) 5 x3)).1 = 0 then ((f_BA_settle (am_set (f_BA_keep s) (f_BA_column s x1 x2) 5 x3)).1, (am_set (f_BA_settle (am_set (f_BA_keep s) (f_BA_column s x1 x2) 5 x3)).2 (f_BA_column s x1 x2) 5 (s (f_BA_column s x1 x2) 5))) else ((f_BA_settle (am_set (f_BA_keep s) (f_BA_column s x1 x2) 5 x3)).1, (f_BA_settle (am_set (f_BA_keep s) (f_BA_column s x1 x2) 5 x3)).2))
def p_BA_changeNeeded  (s : am_M) (x1 : Int32) (x2 : Int32) (x3 : Int32) : Prop := p_BA_column s x1 x2 ∧ (((f_BA_column s x1 x2) < 207 ∧ am_sh (f_BA_column s x1 x2) = (0, 3, 11)) ∧ (p_BA_keep s ∧ ((x3 = 0 ∨ x3 = 1) ∧ (p_BA_settle (am_set (f_BA_keep s) (f_BA_column s x1 x2) 5 x3) ∧ ((((f_BA_settle (am_set (f_BA_keep s) (f_BA_column s x1 x2) 5 x3)).1 = 0) → ((s (f_BA_column s x1 x2) 5) = 0 ∨ (s (f_BA_column s x1 x2) 5) = 1) ∧ (((f_BA_settle (am_set (f_BA_keep s) (f_BA_column s x1 x2) 5 x3)).1 = 0 ∨ (f_BA_settle (am_set (f_BA_keep s) (f_BA_column s x1 x2) 5 x3)).1 = 1) ∧ (True))) ∧ (¬ ((f_BA_settle (am_set (f_BA_keep s) (f_BA_column s x1 x2) 5 x3)).1 = 0) → ((f_BA_settle (am_set (f_BA_keep s) (f_BA_column s x1 x2) 5 x3)).1 = 0 ∨ (f_BA_settle (am_set (f_BA_keep s) (f_BA_column s x1 x2) 5 x3)).1 = 1) ∧ (True)))))))
set_option maxRecDepth 8000 in
theorem w_BA_changeNeeded {l : Launch} {g : am_Gl} (hg : g.2.2.2.1 = true) {ad0 : Nat → Nat} {s : am_M} {x1 : Int32} {x2 : Int32} {x3 : Int32} (h : p_BA_changeNeeded s x1 x2 x3) : AW l g m_BA_changeNeeded 207 ad0 (am_oC (f_BA_changeNeeded s x1 x2 x3)) 0 0 207 s 0 [(0, .ref 1), (1, .int x1), (2, .int x2), (3, .int x3)] [] := by
  refine am_aload_n (j := 0) d_BA_changeNeeded_0 rfl rfl ?_
  refine am_iload_n (j := 1) d_BA_changeNeeded_1 rfl rfl ?_
  refine am_iload_n (j := 2) d_BA_changeNeeded_2 rfl rfl ?_
  obtain ⟨hc, h⟩ := h
  refine ak_VR (as := [.int x1, .int x2]) (rest := []) d_BA_changeNeeded_3 cw_BA_changeNeeded_3 rfl rfl rfl (ct_BA_column hg hc) rfl rfl (by decide) sh_1 rfl (Nat.le_of_ble_eq_true rfl) (by decide) (by decide) ?_
  refine am_astore (lv2 := [(4, .ref (f_BA_column s x1 x2)), (0, .ref 1), (1, .int x1), (2, .int x2), (3, .int x3)]) d_BA_changeNeeded_6 (by decide) rfl ?_
  refine am_aload (j := 0) d_BA_changeNeeded_8 rfl ?_
  obtain ⟨⟨b1, t1⟩, h⟩ := h
  refine am_getI d_BA_changeNeeded_10 fl_BA_148 b1 t1 (by decide) rfl ?_
  refine am_istore (lv2 := [(5, .int (s (f_BA_column s x1 x2) 5)), (4, .ref (f_BA_column s x1 x2)), (0, .ref 1), (1, .int x1), (2, .int x2), (3, .int x3)]) d_BA_changeNeeded_13 (by decide) rfl ?_
  refine am_aload_n (j := 2) d_BA_changeNeeded_15 rfl rfl ?_
  obtain ⟨hc, h⟩ := h
  refine ak_VM (as := []) (rest := []) d_BA_changeNeeded_16 cw_BA_changeNeeded_16 rfl rfl rfl (ct_BA_keep hg hc) rfl rfl (by decide) sh_1 rfl (Nat.le_of_ble_eq_true rfl) (by decide) (by decide) ?_
  refine am_aload (j := 1) d_BA_changeNeeded_19 rfl ?_
  refine am_iload_n (j := 5) d_BA_changeNeeded_21 rfl rfl ?_
  obtain ⟨hz, h⟩ := h
  refine am_putI (ty := .boolean) d_BA_changeNeeded_22 fl_BA_148 ft_3_5 b1 t1 (by decide) rfl (am_bool hz).1 (am_bool hz).2 ?_
  refine am_aload_n (j := 2) d_BA_changeNeeded_25 rfl rfl ?_
  obtain ⟨hc, h⟩ := h
  refine ak_VC (as := []) (rest := []) d_BA_changeNeeded_26 cw_BA_changeNeeded_26 rfl rfl rfl (ct_BA_settle hg hc) rfl rfl (by decide) sh_1 rfl (Nat.le_of_ble_eq_true rfl) (by decide) (by decide) ?_
  refine am_istore (lv2 := [(6, .int (f_BA_settle (am_set (f_BA_keep s) (f_BA_column s x1 x2) 5 x3)).1), (5, .int (s (f_BA_column s x1 x2) 5)), (4, .ref (f_BA_column s x1 x2)), (0, .ref 1), (1, .int x1), (2, .int x2), (3, .int x3)]) d_BA_changeNeeded_29 (by decide) rfl ?_
  refine am_iload (j := 0) d_BA_changeNeeded_31 rfl ?_
  refine ai_ne (F := am_oC) (tgt := 43) d_BA_changeNeeded_33 (by decide) (fun c => ?_) (fun c => ?_)
  · have h := h.2 c
    refine am_iload (j := 0) d_BA_changeNeeded_43 rfl ?_
    obtain ⟨hz, h⟩ := h
    exact am_iret d_BA_changeNeeded_45 rfl (am_bool hz).1 (by decide) (by decide) am_oC_ok
  · have h := h.1 c
    refine am_aload (j := 2) d_BA_changeNeeded_36 rfl ?_
    refine am_iload (j := 1) d_BA_changeNeeded_38 rfl ?_
    obtain ⟨hz, h⟩ := h
    refine am_putI (ty := .boolean) d_BA_changeNeeded_40 fl_BA_148 ft_3_5 b1 t1 (by decide) rfl (am_bool hz).1 (am_bool hz).2 ?_
    refine am_iload (j := 0) d_BA_changeNeeded_43 rfl ?_
    obtain ⟨hz, h⟩ := h
    exact am_iret d_BA_changeNeeded_45 rfl (am_bool hz).1 (by decide) (by decide) am_oC_ok
theorem ct_BA_changeNeeded {l : Launch} {g : am_Gl} (hg : g.2.2.2.1 = true) {s : am_M} {x1 : Int32} {x2 : Int32} {x3 : Int32} (h : p_BA_changeNeeded s x1 x2 x3) : AC l g m_BA_changeNeeded 207 s [.ref 1, .int x1, .int x2, .int x3] (am_oC (f_BA_changeNeeded s x1 x2 x3)) := am_enter ok_BA_changeNeeded rfl (Nat.le_of_ble_eq_true rfl) rfl (fun ad0 => w_BA_changeNeeded hg h)
theorem cw_BA_changeFormula_3 : am_cv m_BA_changeFormula m_BA_column 79 2 := ⟨⟨ok_BA_column, rfl, by decide +kernel, by decide, by decide⟩, aw_2_93, aw_2_94, aw_2_95⟩
theorem cw_BA_changeFormula_37 : am_cv m_BA_changeFormula m_BA_keep 138 0 := ⟨⟨ok_BA_keep, rfl, by decide +kernel, by decide, by decide⟩, aw_2_142, aw_2_144, as_0_8⟩
theorem cw_BA_changeFormula_49 : am_cv m_BA_changeFormula m_CO_setFormula 117 4 := ⟨⟨ok_CO_setFormula, rfl, by decide +kernel, by decide, by decide⟩, aw_4_12, aw_4_13, aw_4_14⟩
theorem cw_BA_changeFormula_53 : am_cv m_BA_changeFormula m_BA_putInOrder 120 0 := ⟨⟨ok_BA_putInOrder, rfl, by decide +kernel, by decide, by decide⟩, aw_4_16, aw_4_18, as_3_4⟩
theorem cw_BA_changeFormula_71 : am_cv m_BA_changeFormula m_BA_refuse 144 3 := ⟨⟨ok_BA_refuse, rfl, by decide +kernel, by decide, by decide⟩, aw_3_199, aw_3_200, aw_3_201⟩
theorem cw_BA_changeFormula_60 : am_cv m_BA_changeFormula m_BA_settle 141 0 := ⟨⟨ok_BA_settle, rfl, by decide +kernel, by decide, by decide⟩, aw_2_166, aw_2_168, as_0_9⟩
theorem cw_BA_changeFormula_91 : am_cv m_BA_changeFormula m_CO_setFormula 117 4 := ⟨⟨ok_CO_setFormula, rfl, by decide +kernel, by decide, by decide⟩, aw_4_12, aw_4_13, aw_4_14⟩
theorem cw_BA_changeFormula_95 : am_cv m_BA_changeFormula m_BA_putInOrder 120 0 := ⟨⟨ok_BA_putInOrder, rfl, by decide +kernel, by decide, by decide⟩, aw_4_16, aw_4_18, as_3_4⟩
def f_BA_changeFormula_74  (s : am_M) (x1 : Int32) (x2 : Int32) (x3 : Int32) (x4 : Int32) (x5 : Int32) (x6 : Int32) (x7 : Nat) (x8 : Int32) (x9 : Int32) (x10 : Int32) (x11 : Int32) (y0 : Int32) : Int32 × am_M := (if y0 = 0 then (y0, (f_BA_putInOrder (f_CO_setFormula s x7 x8 x9 x10 x11)).2) else (y0, s))
def p_BA_changeFormula_74  (s : am_M) (x1 : Int32) (x2 : Int32) (x3 : Int32) (x4 : Int32) (x5 : Int32) (x6 : Int32) (x7 : Nat) (x8 : Int32) (x9 : Int32) (x10 : Int32) (x11 : Int32) (y0 : Int32) : Prop := ((y0 = 0) → p_CO_setFormula s x7 x8 x9 x10 x11 ∧ ((x7 < 207 ∧ am_sh x7 = (0, 3, 11)) ∧ (p_BA_putInOrder (f_CO_setFormula s x7 x8 x9 x10 x11) ∧ ((y0 = 0 ∨ y0 = 1) ∧ (True))))) ∧ (¬ (y0 = 0) → (y0 = 0 ∨ y0 = 1) ∧ (True))
set_option maxRecDepth 8000 in
theorem w_BA_changeFormula_74 {l : Launch} {g : am_Gl} (hg : g.2.2.2.1 = true) {ad0 : Nat → Nat}  {s : am_M} {x1 : Int32} {x2 : Int32} {x3 : Int32} {x4 : Int32} {x5 : Int32} {x6 : Int32} {x7 : Nat} {x8 : Int32} {x9 : Int32} {x10 : Int32} {x11 : Int32} {y0 : Int32} (h : p_BA_changeFormula_74  s x1 x2 x3 x4 x5 x6 x7 x8 x9 x10 x11 y0) : AW l g m_BA_changeFormula 207 ad0 (am_oC (f_BA_changeFormula_74  s x1 x2 x3 x4 x5 x6 x7 x8 x9 x10 x11 y0)) 0 0 207 s 74 [(0, .ref 1), (1, .int x1), (2, .int x2), (3, .int x3), (4, .int x4), (5, .int x5), (6, .int x6), (7, .ref x7), (8, .int x8), (9, .int x9), (10, .int x10), (11, .int x11)] [.int y0] := by
  refine am_istore (lv2 := [(12, .int y0), (0, .ref 1), (1, .int x1), (2, .int x2), (3, .int x3), (4, .int x4), (5, .int x5), (6, .int x6), (7, .ref x7), (8, .int x8), (9, .int x9), (10, .int x10), (11, .int x11)]) d_BA_changeFormula_74 (by decide) rfl ?_
  refine am_iload (j := 0) d_BA_changeFormula_76 rfl ?_
  refine ai_ne (F := am_oC) (tgt := 99) d_BA_changeFormula_78 (by decide) (fun c => ?_) (fun c => ?_)
  · have h := h.2 c
    refine am_iload (j := 0) d_BA_changeFormula_99 rfl ?_
    obtain ⟨hz, h⟩ := h
    exact am_iret d_BA_changeFormula_101 rfl (am_bool hz).1 (by decide) (by decide) am_oC_ok
  · have h := h.1 c
    refine am_aload (j := 8) d_BA_changeFormula_81 rfl ?_
    refine am_iload (j := 9) d_BA_changeFormula_83 rfl ?_
    refine am_iload (j := 10) d_BA_changeFormula_85 rfl ?_
    refine am_iload (j := 11) d_BA_changeFormula_87 rfl ?_
    refine am_iload (j := 12) d_BA_changeFormula_89 rfl ?_
    obtain ⟨hc, h⟩ := h
    obtain ⟨⟨b1, t1⟩, h⟩ := h
    refine ak_VM (as := [.int x8, .int x9, .int x10, .int x11]) (rest := []) d_BA_changeFormula_91 cw_BA_changeFormula_91 rfl rfl rfl (ct_CO_setFormula hg hc) rfl rfl b1 t1 rfl (Nat.le_of_ble_eq_true rfl) (by decide) (by decide) ?_
    refine am_aload_n (j := 1) d_BA_changeFormula_94 rfl rfl ?_
    obtain ⟨hc, h⟩ := h
    refine ak_VC (as := []) (rest := []) d_BA_changeFormula_95 cw_BA_changeFormula_95 rfl rfl rfl (ct_BA_putInOrder hg hc) rfl rfl (by decide) sh_1 rfl (Nat.le_of_ble_eq_true rfl) (by decide) (by decide) ?_
    refine am_pop d_BA_changeFormula_98 rfl ?_
    refine am_iload (j := 0) d_BA_changeFormula_99 rfl ?_
    obtain ⟨hz, h⟩ := h
    exact am_iret d_BA_changeFormula_101 rfl (am_bool hz).1 (by decide) (by decide) am_oC_ok
def f_BA_changeFormula  (s : am_M) (x1 : Int32) (x2 : Int32) (x3 : Int32) (x4 : Int32) (x5 : Int32) (x6 : Int32) : Int32 × am_M := (if (f_BA_putInOrder (f_CO_setFormula (f_BA_keep s) (f_BA_column s x1 x2) x3 x4 x5 x6)).1 = 0 then (f_BA_changeFormula_74 (f_BA_refuse (f_BA_putInOrder (f_CO_setFormula (f_BA_keep s) (f_BA_column s x1 x2) x3 x4 x5 x6)).2 (9 : Int32) x1 x2).2 x1 x2 x3 x4 x5 x6 (f_BA_column s x1 x2) (s (f_BA_column s x1 x2) 7) (s (f_BA_column s x1 x2) 8) (s (f_BA_column s x1 x2) 9) (s (f_BA_column s x1 x2) 10) (f_BA_refuse (f_BA_putInOrder (f_CO_setFormula (f_BA_keep s) (f_BA_column s x1 x2) x3 x4 x5 x6)).2 (9 : Int32) x1 x2).1) else (f_BA_changeFormula_74 (f_BA_settle (f_BA_putInOrder (f_CO_setFormula (f_BA_keep s) (f_BA_column s x1 x2) x3 x4 x5 x6)).2).2 x1 x2 x3 x4 x5 x6 (f_BA_column s x1 x2) (s (f_BA_column s x1 x2) 7) (s (f_BA_column s x1 x2) 8) (s (f_BA_column s x1 x2) 9) (s (f_BA_column s x1 x2) 10) (f_BA_settle (f_BA_putInOrder (f_CO_setFormula (f_BA_keep s) (f_BA_column s x1 x2) x3 x4 x5 x6)).2).1))
def p_BA_changeFormula  (s : am_M) (x1 : Int32) (x2 : Int32) (x3 : Int32) (x4 : Int32) (x5 : Int32) (x6 : Int32) : Prop := p_BA_column s x1 x2 ∧ (((f_BA_column s x1 x2) < 207 ∧ am_sh (f_BA_column s x1 x2) = (0, 3, 11)) ∧ (p_BA_keep s ∧ (p_CO_setFormula (f_BA_keep s) (f_BA_column s x1 x2) x3 x4 x5 x6 ∧ (p_BA_putInOrder (f_CO_setFormula (f_BA_keep s) (f_BA_column s x1 x2) x3 x4 x5 x6) ∧ ((((f_BA_putInOrder (f_CO_setFormula (f_BA_keep s) (f_BA_column s x1 x2) x3 x4 x5 x6)).1 = 0) → p_BA_refuse (f_BA_putInOrder (f_CO_setFormula (f_BA_keep s) (f_BA_column s x1 x2) x3 x4 x5 x6)).2 (9 : Int32) x1 x2 ∧ ((p_BA_changeFormula_74 (f_BA_refuse (f_BA_putInOrder (f_CO_setFormula (f_BA_keep s) (f_BA_column s x1 x2) x3 x4 x5 x6)).2 (9 : Int32) x1 x2).2 x1 x2 x3 x4 x5 x6 (f_BA_column s x1 x2) (s (f_BA_column s x1 x2) 7) (s (f_BA_column s x1 x2) 8) (s (f_BA_column s x1 x2) 9) (s (f_BA_column s x1 x2) 10) (f_BA_refuse (f_BA_putInOrder (f_CO_setFormula (f_BA_keep s) (f_BA_column s x1 x2) x3 x4 x5 x6)).2 (9 : Int32) x1 x2).1))) ∧ (¬ ((f_BA_putInOrder (f_CO_setFormula (f_BA_keep s) (f_BA_column s x1 x2) x3 x4 x5 x6)).1 = 0) → p_BA_settle (f_BA_putInOrder (f_CO_setFormula (f_BA_keep s) (f_BA_column s x1 x2) x3 x4 x5 x6)).2 ∧ ((p_BA_changeFormula_74 (f_BA_settle (f_BA_putInOrder (f_CO_setFormula (f_BA_keep s) (f_BA_column s x1 x2) x3 x4 x5 x6)).2).2 x1 x2 x3 x4 x5 x6 (f_BA_column s x1 x2) (s (f_BA_column s x1 x2) 7) (s (f_BA_column s x1 x2) 8) (s (f_BA_column s x1 x2) 9) (s (f_BA_column s x1 x2) 10) (f_BA_settle (f_BA_putInOrder (f_CO_setFormula (f_BA_keep s) (f_BA_column s x1 x2) x3 x4 x5 x6)).2).1))))))))
set_option maxRecDepth 8000 in
theorem w_BA_changeFormula {l : Launch} {g : am_Gl} (hg : g.2.2.2.1 = true) {ad0 : Nat → Nat} {s : am_M} {x1 : Int32} {x2 : Int32} {x3 : Int32} {x4 : Int32} {x5 : Int32} {x6 : Int32} (h : p_BA_changeFormula s x1 x2 x3 x4 x5 x6) : AW l g m_BA_changeFormula 207 ad0 (am_oC (f_BA_changeFormula s x1 x2 x3 x4 x5 x6)) 0 0 207 s 0 [(0, .ref 1), (1, .int x1), (2, .int x2), (3, .int x3), (4, .int x4), (5, .int x5), (6, .int x6)] [] := by
  refine am_aload_n (j := 0) d_BA_changeFormula_0 rfl rfl ?_
  refine am_iload_n (j := 1) d_BA_changeFormula_1 rfl rfl ?_
  refine am_iload_n (j := 2) d_BA_changeFormula_2 rfl rfl ?_
  obtain ⟨hc, h⟩ := h
  refine ak_VR (as := [.int x1, .int x2]) (rest := []) d_BA_changeFormula_3 cw_BA_changeFormula_3 rfl rfl rfl (ct_BA_column hg hc) rfl rfl (by decide) sh_1 rfl (Nat.le_of_ble_eq_true rfl) (by decide) (by decide) ?_
  refine am_astore (lv2 := [(7, .ref (f_BA_column s x1 x2)), (0, .ref 1), (1, .int x1), (2, .int x2), (3, .int x3), (4, .int x4), (5, .int x5), (6, .int x6)]) d_BA_changeFormula_6 (by decide) rfl ?_
  refine am_aload (j := 0) d_BA_changeFormula_8 rfl ?_
  obtain ⟨⟨b1, t1⟩, h⟩ := h
  refine am_getI d_BA_changeFormula_10 fl_BA_126 b1 t1 (by decide) rfl ?_
  refine am_istore (lv2 := [(8, .int (s (f_BA_column s x1 x2) 7)), (7, .ref (f_BA_column s x1 x2)), (0, .ref 1), (1, .int x1), (2, .int x2), (3, .int x3), (4, .int x4), (5, .int x5), (6, .int x6)]) d_BA_changeFormula_13 (by decide) rfl ?_
  refine am_aload (j := 1) d_BA_changeFormula_15 rfl ?_
  refine am_getI d_BA_changeFormula_17 fl_BA_129 b1 t1 (by decide) rfl ?_
  refine am_istore (lv2 := [(9, .int (s (f_BA_column s x1 x2) 8)), (8, .int (s (f_BA_column s x1 x2) 7)), (7, .ref (f_BA_column s x1 x2)), (0, .ref 1), (1, .int x1), (2, .int x2), (3, .int x3), (4, .int x4), (5, .int x5), (6, .int x6)]) d_BA_changeFormula_20 (by decide) rfl ?_
  refine am_aload (j := 2) d_BA_changeFormula_22 rfl ?_
  refine am_getI d_BA_changeFormula_24 fl_BA_132 b1 t1 (by decide) rfl ?_
  refine am_istore (lv2 := [(10, .int (s (f_BA_column s x1 x2) 9)), (9, .int (s (f_BA_column s x1 x2) 8)), (8, .int (s (f_BA_column s x1 x2) 7)), (7, .ref (f_BA_column s x1 x2)), (0, .ref 1), (1, .int x1), (2, .int x2), (3, .int x3), (4, .int x4), (5, .int x5), (6, .int x6)]) d_BA_changeFormula_27 (by decide) rfl ?_
  refine am_aload (j := 3) d_BA_changeFormula_29 rfl ?_
  refine am_getI d_BA_changeFormula_31 fl_BA_135 b1 t1 (by decide) rfl ?_
  refine am_istore (lv2 := [(11, .int (s (f_BA_column s x1 x2) 10)), (10, .int (s (f_BA_column s x1 x2) 9)), (9, .int (s (f_BA_column s x1 x2) 8)), (8, .int (s (f_BA_column s x1 x2) 7)), (7, .ref (f_BA_column s x1 x2)), (0, .ref 1), (1, .int x1), (2, .int x2), (3, .int x3), (4, .int x4), (5, .int x5), (6, .int x6)]) d_BA_changeFormula_34 (by decide) rfl ?_
  refine am_aload_n (j := 5) d_BA_changeFormula_36 rfl rfl ?_
  obtain ⟨hc, h⟩ := h
  refine ak_VM (as := []) (rest := []) d_BA_changeFormula_37 cw_BA_changeFormula_37 rfl rfl rfl (ct_BA_keep hg hc) rfl rfl (by decide) sh_1 rfl (Nat.le_of_ble_eq_true rfl) (by decide) (by decide) ?_
  refine am_aload (j := 4) d_BA_changeFormula_40 rfl ?_
  refine am_iload_n (j := 8) d_BA_changeFormula_42 rfl rfl ?_
  refine am_iload (j := 9) d_BA_changeFormula_43 rfl ?_
  refine am_iload (j := 10) d_BA_changeFormula_45 rfl ?_
  refine am_iload (j := 11) d_BA_changeFormula_47 rfl ?_
  obtain ⟨hc, h⟩ := h
  refine ak_VM (as := [.int x3, .int x4, .int x5, .int x6]) (rest := []) d_BA_changeFormula_49 cw_BA_changeFormula_49 rfl rfl rfl (ct_CO_setFormula hg hc) rfl rfl b1 t1 rfl (Nat.le_of_ble_eq_true rfl) (by decide) (by decide) ?_
  refine am_aload_n (j := 5) d_BA_changeFormula_52 rfl rfl ?_
  obtain ⟨hc, h⟩ := h
  refine ak_VC (as := []) (rest := []) d_BA_changeFormula_53 cw_BA_changeFormula_53 rfl rfl rfl (ct_BA_putInOrder hg hc) rfl rfl (by decide) sh_1 rfl (Nat.le_of_ble_eq_true rfl) (by decide) (by decide) ?_
  refine ai_eq (F := am_oC) (tgt := 66) d_BA_changeFormula_56 (by decide) (fun c => ?_) (fun c => ?_)
  · have h := h.1 c
    refine am_aload_n (j := 5) d_BA_changeFormula_66 rfl rfl ?_
    refine am_bipush (v := (9 : Int32)) d_BA_changeFormula_67 (by decide) ?_
    refine am_iload_n (j := 6) d_BA_changeFormula_69 rfl rfl ?_
    refine am_iload_n (j := 7) d_BA_changeFormula_70 rfl rfl ?_
    obtain ⟨hc, h⟩ := h
    refine ak_VC (as := [.int (9 : Int32), .int x1, .int x2]) (rest := []) d_BA_changeFormula_71 cw_BA_changeFormula_71 rfl rfl rfl (ct_BA_refuse hg hc) rfl rfl (by decide) sh_1 rfl (Nat.le_of_ble_eq_true rfl) (by decide) (by decide) ?_
    refine am_sub [5, 6, 7, 8, 9, 10, 11, 4, 3, 2, 1, 0] (lv2 := [(0, .ref 1), (1, .int x1), (2, .int x2), (3, .int x3), (4, .int x4), (5, .int x5), (6, .int x6), (7, .ref (f_BA_column s x1 x2)), (8, .int (s (f_BA_column s x1 x2) 7)), (9, .int (s (f_BA_column s x1 x2) 8)), (10, .int (s (f_BA_column s x1 x2) 9)), (11, .int (s (f_BA_column s x1 x2) 10))]) rfl ?_
    exact w_BA_changeFormula_74 hg h
  · have h := h.2 c
    refine am_aload_n (j := 5) d_BA_changeFormula_59 rfl rfl ?_
    obtain ⟨hc, h⟩ := h
    refine ak_VC (as := []) (rest := []) d_BA_changeFormula_60 cw_BA_changeFormula_60 rfl rfl rfl (ct_BA_settle hg hc) rfl rfl (by decide) sh_1 rfl (Nat.le_of_ble_eq_true rfl) (by decide) (by decide) ?_
    refine am_goto (tgt := 74) d_BA_changeFormula_63 (by decide) ?_
    refine am_sub [5, 6, 7, 8, 9, 10, 11, 4, 3, 2, 1, 0] (lv2 := [(0, .ref 1), (1, .int x1), (2, .int x2), (3, .int x3), (4, .int x4), (5, .int x5), (6, .int x6), (7, .ref (f_BA_column s x1 x2)), (8, .int (s (f_BA_column s x1 x2) 7)), (9, .int (s (f_BA_column s x1 x2) 8)), (10, .int (s (f_BA_column s x1 x2) 9)), (11, .int (s (f_BA_column s x1 x2) 10))]) rfl ?_
    exact w_BA_changeFormula_74 hg h
theorem ct_BA_changeFormula {l : Launch} {g : am_Gl} (hg : g.2.2.2.1 = true) {s : am_M} {x1 : Int32} {x2 : Int32} {x3 : Int32} {x4 : Int32} {x5 : Int32} {x6 : Int32} (h : p_BA_changeFormula s x1 x2 x3 x4 x5 x6) : AC l g m_BA_changeFormula 207 s [.ref 1, .int x1, .int x2, .int x3, .int x4, .int x5, .int x6] (am_oC (f_BA_changeFormula s x1 x2 x3 x4 x5 x6)) := am_enter ok_BA_changeFormula rfl (Nat.le_of_ble_eq_true rfl) rfl (fun ad0 => w_BA_changeFormula hg h)
theorem cw_BA_firstToGoing_28 : am_cv m_BA_firstToGoing m_RO_has 155 2 := ⟨⟨ok_RO_has, rfl, by decide +kernel, by decide, by decide⟩, aw_2_183, aw_2_184, aw_2_185⟩
theorem cw_BA_firstToGoing_38 : am_cv m_BA_firstToGoing m_BA_column 79 2 := ⟨⟨ok_BA_column, rfl, by decide +kernel, by decide, by decide⟩, aw_2_93, aw_2_94, aw_2_95⟩
theorem cw_BA_firstToGoing_52 : am_cv m_BA_firstToGoing m_RO_get 159 3 := ⟨⟨ok_RO_get, rfl, by decide +kernel, by decide, by decide⟩, aw_2_179, aw_2_180, aw_2_181⟩
theorem cw_BA_firstToGoing_86 : am_cv m_BA_firstToGoing m_RO_has 155 2 := ⟨⟨ok_RO_has, rfl, by decide +kernel, by decide, by decide⟩, aw_2_183, aw_2_184, aw_2_185⟩
def f_BA_firstToGoing_133 (K14 : Int32 → Int32 → Int32 → Int32 → Int32 → Int32) (s : am_M) (x1 : Int32) (x2 : Int32) (x3 : Int32) (x4 : Int32) (x5 : Int32) (x6 : Nat) (x7 : Int32) : Int32 := (K14 x1 x2 x3 x4 (x5 + (1 : Int32)))
def p_BA_firstToGoing_133 (KP14 : Int32 → Int32 → Int32 → Int32 → Int32 → Prop) (s : am_M) (x1 : Int32) (x2 : Int32) (x3 : Int32) (x4 : Int32) (x5 : Int32) (x6 : Nat) (x7 : Int32) : Prop := (KP14 x1 x2 x3 x4 (x5 + (1 : Int32)))
set_option maxRecDepth 8000 in
theorem w_BA_firstToGoing_133 {l : Launch} {g : am_Gl} (hg : g.2.2.2.1 = true) {ad0 : Nat → Nat} {s : am_M} {K14 : Int32 → Int32 → Int32 → Int32 → Int32 → Int32} {KP14 : Int32 → Int32 → Int32 → Int32 → Int32 → Prop} (hK14 : ∀ (x1 : Int32) (x2 : Int32) (x3 : Int32) (x4 : Int32) (x5 : Int32), KP14 x1 x2 x3 x4 x5 → AW l g m_BA_firstToGoing 207 ad0 ((am_oI s) (K14 x1 x2 x3 x4 x5)) 0 0 207 s 14 [(0, .ref 1), (1, .int x1), (2, .int x2), (3, .int x3), (4, .int x4), (5, .int x5)] []) {x1 : Int32} {x2 : Int32} {x3 : Int32} {x4 : Int32} {x5 : Int32} {x6 : Nat} {x7 : Int32} (h : p_BA_firstToGoing_133 KP14 s x1 x2 x3 x4 x5 x6 x7) : AW l g m_BA_firstToGoing 207 ad0 ((am_oI s) (f_BA_firstToGoing_133 K14 s x1 x2 x3 x4 x5 x6 x7)) 0 0 207 s 133 [(0, .ref 1), (1, .int x1), (2, .int x2), (3, .int x3), (4, .int x4), (5, .int x5), (6, .ref x6), (7, .int x7)] [] := by
  refine am_iinc (j := 5) (v := (x5 + (1 : Int32))) (lv2 := [(5, .int (x5 + (1 : Int32))), (0, .ref 1), (1, .int x1), (2, .int x2), (3, .int x3), (4, .int x4), (6, .ref x6), (7, .int x7)]) d_BA_firstToGoing_133 rfl rfl (by decide) rfl ?_
  refine am_goto (tgt := 14) d_BA_firstToGoing_136 (by decide) ?_
  refine am_sub [1, 2, 3, 4, 5, 0] (lv2 := [(0, .ref 1), (1, .int x1), (2, .int x2), (3, .int x3), (4, .int x4), (5, .int (x5 + (1 : Int32)))]) rfl ?_
  exact hK14 _ _ _ _ _ h
def f_BA_firstToGoing_14  : Nat → am_M → Int32 → Int32 → Int32 → Int32 → Int32 → Int32
  | 0, s, x1, x2, x3, x4, x5 => 0
  | n + 1, s, x1, x2, x3, x4, x5 => (if (6 : Int32) ≤ x5 then (-1 : Int32) else (if (f_RO_has s 8 x3 x4) = 0 then (-1 : Int32) else (if (s (f_BA_column s x3 x5) 0) = (2 : Int32) then (if (s (f_BA_column s x3 x5) 4) = x2 then (if (f_RO_has s 8 (s (f_BA_column s x3 x5) 3) (f_RO_get s 8 x3 x4 x5)) = 0 then (f_BA_firstToGoing_133 (f_BA_firstToGoing_14  n s) s x1 x2 x3 x4 x5 (f_BA_column s x3 x5) (f_RO_get s 8 x3 x4 x5)) else (if (((s (f_BA_column s x3 x5) 3) * (30 : Int32)) + (f_RO_get s 8 x3 x4 x5)) < 0 then (f_BA_firstToGoing_133 (f_BA_firstToGoing_14  n s) s x1 x2 x3 x4 x5 (f_BA_column s x3 x5) (f_RO_get s 8 x3 x4 x5)) else (if (120 : Int32) ≤ (((s (f_BA_column s x3 x5) 3) * (30 : Int32)) + (f_RO_get s 8 x3 x4 x5)) then (f_BA_firstToGoing_133 (f_BA_firstToGoing_14  n s) s x1 x2 x3 x4 x5 (f_BA_column s x3 x5) (f_RO_get s 8 x3 x4 x5)) else (if (s 18 ((((s (f_BA_column s x3 x5) 3) * (30 : Int32)) + (f_RO_get s 8 x3 x4 x5))).toNatClampNeg) = 0 then (f_BA_firstToGoing_133 (f_BA_firstToGoing_14  n s) s x1 x2 x3 x4 x5 (f_BA_column s x3 x5) (f_RO_get s 8 x3 x4 x5)) else x5)))) else (f_BA_firstToGoing_133 (f_BA_firstToGoing_14  n s) s x1 x2 x3 x4 x5 (f_BA_column s x3 x5) (f_RO_get s 8 x3 x4 x5))) else (f_BA_firstToGoing_133 (f_BA_firstToGoing_14  n s) s x1 x2 x3 x4 x5 (f_BA_column s x3 x5) (f_RO_get s 8 x3 x4 x5)))))
def p_BA_firstToGoing_14  : Nat → am_M → Int32 → Int32 → Int32 → Int32 → Int32 → Prop
  | 0, s, x1, x2, x3, x4, x5 => False
  | n + 1, s, x1, x2, x3, x4, x5 => (((6 : Int32) ≤ x5) → True) ∧ (¬ ((6 : Int32) ≤ x5) → p_RO_has s 8 x3 x4 ∧ ((((f_RO_has s 8 x3 x4) = 0) → True) ∧ (¬ ((f_RO_has s 8 x3 x4) = 0) → p_BA_column s x3 x5 ∧ (p_RO_get s 8 x3 x4 x5 ∧ (((f_BA_column s x3 x5) < 207 ∧ am_sh (f_BA_column s x3 x5) = (0, 3, 11)) ∧ ((((s (f_BA_column s x3 x5) 0) = (2 : Int32)) → (((s (f_BA_column s x3 x5) 4) = x2) → p_RO_has s 8 (s (f_BA_column s x3 x5) 3) (f_RO_get s 8 x3 x4 x5) ∧ ((((f_RO_has s 8 (s (f_BA_column s x3 x5) 3) (f_RO_get s 8 x3 x4 x5)) = 0) → (p_BA_firstToGoing_133 (p_BA_firstToGoing_14  n s) s x1 x2 x3 x4 x5 (f_BA_column s x3 x5) (f_RO_get s 8 x3 x4 x5))) ∧ (¬ ((f_RO_has s 8 (s (f_BA_column s x3 x5) 3) (f_RO_get s 8 x3 x4 x5)) = 0) → (((((s (f_BA_column s x3 x5) 3) * (30 : Int32)) + (f_RO_get s 8 x3 x4 x5)) < 0) → (p_BA_firstToGoing_133 (p_BA_firstToGoing_14  n s) s x1 x2 x3 x4 x5 (f_BA_column s x3 x5) (f_RO_get s 8 x3 x4 x5))) ∧ (¬ ((((s (f_BA_column s x3 x5) 3) * (30 : Int32)) + (f_RO_get s 8 x3 x4 x5)) < 0) → (((120 : Int32) ≤ (((s (f_BA_column s x3 x5) 3) * (30 : Int32)) + (f_RO_get s 8 x3 x4 x5))) → (p_BA_firstToGoing_133 (p_BA_firstToGoing_14  n s) s x1 x2 x3 x4 x5 (f_BA_column s x3 x5) (f_RO_get s 8 x3 x4 x5))) ∧ (¬ ((120 : Int32) ≤ (((s (f_BA_column s x3 x5) 3) * (30 : Int32)) + (f_RO_get s 8 x3 x4 x5))) → vp_in (((s (f_BA_column s x3 x5) 3) * (30 : Int32)) + (f_RO_get s 8 x3 x4 x5)) 120 ∧ ((((s 18 ((((s (f_BA_column s x3 x5) 3) * (30 : Int32)) + (f_RO_get s 8 x3 x4 x5))).toNatClampNeg) = 0) → (p_BA_firstToGoing_133 (p_BA_firstToGoing_14  n s) s x1 x2 x3 x4 x5 (f_BA_column s x3 x5) (f_RO_get s 8 x3 x4 x5))) ∧ (¬ ((s 18 ((((s (f_BA_column s x3 x5) 3) * (30 : Int32)) + (f_RO_get s 8 x3 x4 x5))).toNatClampNeg) = 0) → True))))))) ∧ (¬ ((s (f_BA_column s x3 x5) 4) = x2) → (p_BA_firstToGoing_133 (p_BA_firstToGoing_14  n s) s x1 x2 x3 x4 x5 (f_BA_column s x3 x5) (f_RO_get s 8 x3 x4 x5)))) ∧ (¬ ((s (f_BA_column s x3 x5) 0) = (2 : Int32)) → (p_BA_firstToGoing_133 (p_BA_firstToGoing_14  n s) s x1 x2 x3 x4 x5 (f_BA_column s x3 x5) (f_RO_get s 8 x3 x4 x5)))))))))
set_option maxRecDepth 8000 in
theorem w_BA_firstToGoing_14 {l : Launch} {g : am_Gl} (hg : g.2.2.2.1 = true) {ad0 : Nat → Nat} {s : am_M}   : ∀ (n : Nat) (x1 : Int32) (x2 : Int32) (x3 : Int32) (x4 : Int32) (x5 : Int32), p_BA_firstToGoing_14  n s x1 x2 x3 x4 x5 → AW l g m_BA_firstToGoing 207 ad0 ((am_oI s) (f_BA_firstToGoing_14  n s x1 x2 x3 x4 x5)) 0 0 207 s 14 [(0, .ref 1), (1, .int x1), (2, .int x2), (3, .int x3), (4, .int x4), (5, .int x5)] [] := by
  intro n
  induction n with
  | zero => intro x1 x2 x3 x4 x5 h; exact h.elim
  | succ n hK14 =>
    intro x1 x2 x3 x4 x5 h
    refine am_iload (j := 5) d_BA_firstToGoing_14 rfl ?_
    refine am_bipush (v := (6 : Int32)) d_BA_firstToGoing_16 (by decide) ?_
    refine aj_ge (F := (am_oI s)) (tgt := 139) d_BA_firstToGoing_18 (by decide) (fun c => ?_) (fun c => ?_)
    · have h := h.1 c
      refine am_iconst (v := (-1 : Int32)) d_BA_firstToGoing_139 (by decide) ?_
      exact am_iret d_BA_firstToGoing_140 rfl rfl (by decide) (by decide) am_oI_ok
    · have h := h.2 c
      refine am_aload_n (j := 0) d_BA_firstToGoing_21 rfl rfl ?_
      refine am_getR (t := 8) d_BA_firstToGoing_22 fl_BA_43 hg (by decide) sh_1 (by decide) rfl (by decide) lk_1_9 (by decide) ?_
      refine am_iload_n (j := 3) d_BA_firstToGoing_25 rfl rfl ?_
      refine am_iload (j := 4) d_BA_firstToGoing_26 rfl ?_
      obtain ⟨hc, h⟩ := h
      refine ak_VI (as := [.int x3, .int x4]) (rest := []) d_BA_firstToGoing_28 cw_BA_firstToGoing_28 rfl rfl rfl (ct_RO_has hg hc) rfl rfl (by decide) sh_8 rfl (Nat.le_of_ble_eq_true rfl) (by decide) (by decide) ?_
      refine ai_eq (F := (am_oI s)) (tgt := 139) d_BA_firstToGoing_31 (by decide) (fun c => ?_) (fun c => ?_)
      · have h := h.1 c
        refine am_iconst (v := (-1 : Int32)) d_BA_firstToGoing_139 (by decide) ?_
        exact am_iret d_BA_firstToGoing_140 rfl rfl (by decide) (by decide) am_oI_ok
      · have h := h.2 c
        refine am_aload_n (j := 0) d_BA_firstToGoing_34 rfl rfl ?_
        refine am_iload_n (j := 3) d_BA_firstToGoing_35 rfl rfl ?_
        refine am_iload (j := 5) d_BA_firstToGoing_36 rfl ?_
        obtain ⟨hc, h⟩ := h
        refine ak_VR (as := [.int x3, .int x5]) (rest := []) d_BA_firstToGoing_38 cw_BA_firstToGoing_38 rfl rfl rfl (ct_BA_column hg hc) rfl rfl (by decide) sh_1 rfl (Nat.le_of_ble_eq_true rfl) (by decide) (by decide) ?_
        refine am_astore (lv2 := [(6, .ref (f_BA_column s x3 x5)), (0, .ref 1), (1, .int x1), (2, .int x2), (3, .int x3), (4, .int x4), (5, .int x5)]) d_BA_firstToGoing_41 (by decide) rfl ?_
        refine am_aload_n (j := 1) d_BA_firstToGoing_43 rfl rfl ?_
        refine am_getR (t := 8) d_BA_firstToGoing_44 fl_BA_43 hg (by decide) sh_1 (by decide) rfl (by decide) lk_1_9 (by decide) ?_
        refine am_iload_n (j := 4) d_BA_firstToGoing_47 rfl rfl ?_
        refine am_iload (j := 5) d_BA_firstToGoing_48 rfl ?_
        refine am_iload (j := 6) d_BA_firstToGoing_50 rfl ?_
        obtain ⟨hc, h⟩ := h
        refine ak_VI (as := [.int x3, .int x4, .int x5]) (rest := []) d_BA_firstToGoing_52 cw_BA_firstToGoing_52 rfl rfl rfl (ct_RO_get hg hc) rfl rfl (by decide) sh_8 rfl (Nat.le_of_ble_eq_true rfl) (by decide) (by decide) ?_
        refine am_istore (lv2 := [(7, .int (f_RO_get s 8 x3 x4 x5)), (6, .ref (f_BA_column s x3 x5)), (0, .ref 1), (1, .int x1), (2, .int x2), (3, .int x3), (4, .int x4), (5, .int x5)]) d_BA_firstToGoing_55 (by decide) rfl ?_
        refine am_aload (j := 1) d_BA_firstToGoing_57 rfl ?_
        obtain ⟨⟨b1, t1⟩, h⟩ := h
        refine am_getI d_BA_firstToGoing_59 fl_BA_98 b1 t1 (by decide) rfl ?_
        refine am_iconst (v := (2 : Int32)) d_BA_firstToGoing_62 (by decide) ?_
        refine aj_ne (F := (am_oI s)) (tgt := 133) d_BA_firstToGoing_63 (by decide) (fun c => ?_) (fun c => ?_)
        · have h := h.2 c
          refine am_sub [2, 3, 4, 5, 6, 7, 1, 0] (lv2 := [(0, .ref 1), (1, .int x1), (2, .int x2), (3, .int x3), (4, .int x4), (5, .int x5), (6, .ref (f_BA_column s x3 x5)), (7, .int (f_RO_get s 8 x3 x4 x5))]) rfl ?_
          exact w_BA_firstToGoing_133 hg hK14 h
        · have h := h.1 c
          refine am_aload (j := 1) d_BA_firstToGoing_66 rfl ?_
          refine am_getI d_BA_firstToGoing_68 fl_BA_114 b1 t1 (by decide) rfl ?_
          refine am_iload_n (j := 4) d_BA_firstToGoing_71 rfl rfl ?_
          refine aj_ne (F := (am_oI s)) (tgt := 133) d_BA_firstToGoing_72 (by decide) (fun c => ?_) (fun c => ?_)
          · have h := h.2 c
            refine am_sub [2, 3, 4, 5, 6, 7, 1, 0] (lv2 := [(0, .ref 1), (1, .int x1), (2, .int x2), (3, .int x3), (4, .int x4), (5, .int x5), (6, .ref (f_BA_column s x3 x5)), (7, .int (f_RO_get s 8 x3 x4 x5))]) rfl ?_
            exact w_BA_firstToGoing_133 hg hK14 h
          · have h := h.1 c
            refine am_aload_n (j := 2) d_BA_firstToGoing_75 rfl rfl ?_
            refine am_getR (t := 8) d_BA_firstToGoing_76 fl_BA_43 hg (by decide) sh_1 (by decide) rfl (by decide) lk_1_9 (by decide) ?_
            refine am_aload (j := 1) d_BA_firstToGoing_79 rfl ?_
            refine am_getI d_BA_firstToGoing_81 fl_BA_111 b1 t1 (by decide) rfl ?_
            refine am_iload (j := 0) d_BA_firstToGoing_84 rfl ?_
            obtain ⟨hc, h⟩ := h
            refine ak_VI (as := [.int (s (f_BA_column s x3 x5) 3), .int (f_RO_get s 8 x3 x4 x5)]) (rest := []) d_BA_firstToGoing_86 cw_BA_firstToGoing_86 rfl rfl rfl (ct_RO_has hg hc) rfl rfl (by decide) sh_8 rfl (Nat.le_of_ble_eq_true rfl) (by decide) (by decide) ?_
            refine ai_eq (F := (am_oI s)) (tgt := 133) d_BA_firstToGoing_89 (by decide) (fun c => ?_) (fun c => ?_)
            · have h := h.1 c
              refine am_sub [2, 3, 4, 5, 6, 7, 1, 0] (lv2 := [(0, .ref 1), (1, .int x1), (2, .int x2), (3, .int x3), (4, .int x4), (5, .int x5), (6, .ref (f_BA_column s x3 x5)), (7, .int (f_RO_get s 8 x3 x4 x5))]) rfl ?_
              exact w_BA_firstToGoing_133 hg hK14 h
            · have h := h.2 c
              refine am_aload (j := 1) d_BA_firstToGoing_92 rfl ?_
              refine am_getI d_BA_firstToGoing_94 fl_BA_111 b1 t1 (by decide) rfl ?_
              refine am_bipush (v := (30 : Int32)) d_BA_firstToGoing_97 (by decide) ?_
              refine am_imul d_BA_firstToGoing_99 ?_
              refine am_iload (j := 0) d_BA_firstToGoing_100 rfl ?_
              refine am_iadd d_BA_firstToGoing_102 ?_
              refine am_istore (lv2 := [(8, .int (((s (f_BA_column s x3 x5) 3) * (30 : Int32)) + (f_RO_get s 8 x3 x4 x5))), (7, .int (f_RO_get s 8 x3 x4 x5)), (6, .ref (f_BA_column s x3 x5)), (0, .ref 1), (1, .int x1), (2, .int x2), (3, .int x3), (4, .int x4), (5, .int x5)]) d_BA_firstToGoing_103 (by decide) rfl ?_
              refine am_iload (j := 0) d_BA_firstToGoing_105 rfl ?_
              refine ai_lt (F := (am_oI s)) (tgt := 133) d_BA_firstToGoing_107 (by decide) (fun c => ?_) (fun c => ?_)
              · have h := h.1 c
                refine am_sub [3, 4, 5, 6, 7, 8, 2, 1] (lv2 := [(0, .ref 1), (1, .int x1), (2, .int x2), (3, .int x3), (4, .int x4), (5, .int x5), (6, .ref (f_BA_column s x3 x5)), (7, .int (f_RO_get s 8 x3 x4 x5))]) rfl ?_
                exact w_BA_firstToGoing_133 hg hK14 h
              · have h := h.2 c
                refine am_iload (j := 0) d_BA_firstToGoing_110 rfl ?_
                refine am_aload_n (j := 3) d_BA_firstToGoing_112 rfl rfl ?_
                refine am_getR (t := 18) d_BA_firstToGoing_113 fl_BA_61 hg (by decide) sh_1 (by decide) rfl (by decide) lk_1_14 (by decide) ?_
                refine am_alen (v := (120 : Int32)) d_BA_firstToGoing_116 (by decide) sh_18 (by decide) (by decide) ?_
                refine aj_ge (F := (am_oI s)) (tgt := 133) d_BA_firstToGoing_117 (by decide) (fun c => ?_) (fun c => ?_)
                · have h := h.1 c
                  refine am_sub [3, 4, 5, 6, 7, 8, 2, 1] (lv2 := [(0, .ref 1), (1, .int x1), (2, .int x2), (3, .int x3), (4, .int x4), (5, .int x5), (6, .ref (f_BA_column s x3 x5)), (7, .int (f_RO_get s 8 x3 x4 x5))]) rfl ?_
                  exact w_BA_firstToGoing_133 hg hK14 h
                · have h := h.2 c
                  refine am_aload_n (j := 3) d_BA_firstToGoing_120 rfl rfl ?_
                  refine am_getR (t := 18) d_BA_firstToGoing_121 fl_BA_61 hg (by decide) sh_1 (by decide) rfl (by decide) lk_1_14 (by decide) ?_
                  refine am_iload (j := 0) d_BA_firstToGoing_124 rfl ?_
                  obtain ⟨hv, h⟩ := h
                  refine am_zald d_BA_firstToGoing_126 (by decide) sh_18 hv ?_
                  refine ai_eq (F := (am_oI s)) (tgt := 133) d_BA_firstToGoing_127 (by decide) (fun c => ?_) (fun c => ?_)
                  · have h := h.1 c
                    refine am_sub [3, 4, 5, 6, 7, 8, 2, 1] (lv2 := [(0, .ref 1), (1, .int x1), (2, .int x2), (3, .int x3), (4, .int x4), (5, .int x5), (6, .ref (f_BA_column s x3 x5)), (7, .int (f_RO_get s 8 x3 x4 x5))]) rfl ?_
                    exact w_BA_firstToGoing_133 hg hK14 h
                  · have h := h.2 c
                    refine am_iload (j := 8) d_BA_firstToGoing_130 rfl ?_
                    exact am_iret d_BA_firstToGoing_132 rfl rfl (by decide) (by decide) am_oI_ok
def f_BA_firstToGoing  (s : am_M) (x1 : Int32) (x2 : Int32) : Int32 := (f_BA_firstToGoing_14 am_F s x1 x2 (x1 / (30 : Int32)) (x1 - x1 / (30 : Int32) * (30 : Int32)) (0 : Int32))
def p_BA_firstToGoing  (s : am_M) (x1 : Int32) (x2 : Int32) : Prop := (p_BA_firstToGoing_14 am_F s x1 x2 (x1 / (30 : Int32)) (x1 - x1 / (30 : Int32) * (30 : Int32)) (0 : Int32))
set_option maxRecDepth 8000 in
theorem w_BA_firstToGoing {l : Launch} {g : am_Gl} (hg : g.2.2.2.1 = true) {ad0 : Nat → Nat} {s : am_M} {x1 : Int32} {x2 : Int32} (h : p_BA_firstToGoing s x1 x2) : AW l g m_BA_firstToGoing 207 ad0 ((am_oI s) (f_BA_firstToGoing s x1 x2)) 0 0 207 s 0 [(0, .ref 1), (1, .int x1), (2, .int x2)] [] := by
  refine am_iload_n (j := 1) d_BA_firstToGoing_0 rfl rfl ?_
  refine am_bipush (v := (30 : Int32)) d_BA_firstToGoing_1 (by decide) ?_
  refine am_idiv d_BA_firstToGoing_3 (by decide) ?_
  refine am_istore_n (lv2 := [(3, .int (x1 / (30 : Int32))), (0, .ref 1), (1, .int x1), (2, .int x2)]) d_BA_firstToGoing_4 rfl (by decide) rfl ?_
  refine am_iload_n (j := 2) d_BA_firstToGoing_5 rfl rfl ?_
  refine am_bipush (v := (30 : Int32)) d_BA_firstToGoing_6 (by decide) ?_
  refine am_irem d_BA_firstToGoing_8 (by decide) ?_
  refine am_istore (lv2 := [(4, .int (x1 - x1 / (30 : Int32) * (30 : Int32))), (3, .int (x1 / (30 : Int32))), (0, .ref 1), (1, .int x1), (2, .int x2)]) d_BA_firstToGoing_9 (by decide) rfl ?_
  refine am_iconst (v := (0 : Int32)) d_BA_firstToGoing_11 (by decide) ?_
  refine am_istore (lv2 := [(5, .int (0 : Int32)), (4, .int (x1 - x1 / (30 : Int32) * (30 : Int32))), (3, .int (x1 / (30 : Int32))), (0, .ref 1), (1, .int x1), (2, .int x2)]) d_BA_firstToGoing_12 (by decide) rfl ?_
  refine am_sub [3, 4, 5, 2, 1, 0] (lv2 := [(0, .ref 1), (1, .int x1), (2, .int x2), (3, .int (x1 / (30 : Int32))), (4, .int (x1 - x1 / (30 : Int32) * (30 : Int32))), (5, .int (0 : Int32))]) rfl ?_
  exact w_BA_firstToGoing_14 hg am_F _ _ _ _ _ h
theorem ct_BA_firstToGoing {l : Launch} {g : am_Gl} (hg : g.2.2.2.1 = true) {s : am_M} {x1 : Int32} {x2 : Int32} (h : p_BA_firstToGoing s x1 x2) : AC l g m_BA_firstToGoing 207 s [.ref 1, .int x1, .int x2] ((am_oI s) (f_BA_firstToGoing s x1 x2)) := am_enter ok_BA_firstToGoing rfl (Nat.le_of_ble_eq_true rfl) rfl (fun ad0 => w_BA_firstToGoing hg h)
theorem cw_BA_spreadGoing_25 : am_cv m_BA_spreadGoing m_BA_firstToGoing 283 2 := ⟨⟨ok_BA_firstToGoing, rfl, by decide +kernel, by decide, by decide⟩, aw_3_57, aw_3_59, as_1_8⟩
def f_BA_spreadGoing_40 (K4 : am_M → Int32 → Int32 → Int32 × am_M) (s : am_M) (x1 : Int32) (x2 : Int32) : Int32 × am_M := (K4 s x1 (x2 + (1 : Int32)))
def p_BA_spreadGoing_40 (KP4 : am_M → Int32 → Int32 → Prop) (s : am_M) (x1 : Int32) (x2 : Int32) : Prop := (KP4 s x1 (x2 + (1 : Int32)))
set_option maxRecDepth 8000 in
theorem w_BA_spreadGoing_40 {l : Launch} {g : am_Gl} (hg : g.2.2.2.1 = true) {ad0 : Nat → Nat} {K4 : am_M → Int32 → Int32 → Int32 × am_M} {KP4 : am_M → Int32 → Int32 → Prop} (hK4 : ∀ (s : am_M) (x1 : Int32) (x2 : Int32), KP4 s x1 x2 → AW l g m_BA_spreadGoing 207 ad0 (am_oC (K4 s x1 x2)) 0 0 207 s 4 [(0, .ref 1), (1, .int x1), (2, .int x2)] []) {s : am_M} {x1 : Int32} {x2 : Int32} (h : p_BA_spreadGoing_40 KP4 s x1 x2) : AW l g m_BA_spreadGoing 207 ad0 (am_oC (f_BA_spreadGoing_40 K4 s x1 x2)) 0 0 207 s 40 [(0, .ref 1), (1, .int x1), (2, .int x2)] [] := by
  refine am_iinc (j := 2) (v := (x2 + (1 : Int32))) (lv2 := [(2, .int (x2 + (1 : Int32))), (0, .ref 1), (1, .int x1)]) d_BA_spreadGoing_40 rfl rfl (by decide) rfl ?_
  refine am_goto (tgt := 4) d_BA_spreadGoing_43 (by decide) ?_
  refine am_sub [1, 2, 0] (lv2 := [(0, .ref 1), (1, .int x1), (2, .int (x2 + (1 : Int32)))]) rfl ?_
  exact hK4 _ _ _ h
def f_BA_spreadGoing_4  : Nat → am_M → Int32 → Int32 → Int32 × am_M
  | 0, s, x1, x2 => (0, s)
  | n + 1, s, x1, x2 => (if (120 : Int32) ≤ x2 then (x1, s) else (if (s 18 (x2).toNatClampNeg) = 0 then (if (f_BA_firstToGoing s x2 (1 : Int32)) < 0 then (f_BA_spreadGoing_40 (f_BA_spreadGoing_4  n) s x1 x2) else (f_BA_spreadGoing_40 (f_BA_spreadGoing_4  n) (am_set s 18 (x2).toNatClampNeg (1 : Int32)) (1 : Int32) x2)) else (f_BA_spreadGoing_40 (f_BA_spreadGoing_4  n) s x1 x2)))
def p_BA_spreadGoing_4  : Nat → am_M → Int32 → Int32 → Prop
  | 0, s, x1, x2 => False
  | n + 1, s, x1, x2 => (((120 : Int32) ≤ x2) → (x1 = 0 ∨ x1 = 1) ∧ (True)) ∧ (¬ ((120 : Int32) ≤ x2) → vp_in x2 120 ∧ ((((s 18 (x2).toNatClampNeg) = 0) → p_BA_firstToGoing s x2 (1 : Int32) ∧ ((((f_BA_firstToGoing s x2 (1 : Int32)) < 0) → (p_BA_spreadGoing_40 (p_BA_spreadGoing_4  n) s x1 x2)) ∧ (¬ ((f_BA_firstToGoing s x2 (1 : Int32)) < 0) → vp_in x2 120 ∧ ((p_BA_spreadGoing_40 (p_BA_spreadGoing_4  n) (am_set s 18 (x2).toNatClampNeg (1 : Int32)) (1 : Int32) x2))))) ∧ (¬ ((s 18 (x2).toNatClampNeg) = 0) → (p_BA_spreadGoing_40 (p_BA_spreadGoing_4  n) s x1 x2))))
set_option maxRecDepth 8000 in
theorem w_BA_spreadGoing_4 {l : Launch} {g : am_Gl} (hg : g.2.2.2.1 = true) {ad0 : Nat → Nat}   : ∀ (n : Nat) (s : am_M) (x1 : Int32) (x2 : Int32), p_BA_spreadGoing_4  n s x1 x2 → AW l g m_BA_spreadGoing 207 ad0 (am_oC (f_BA_spreadGoing_4  n s x1 x2)) 0 0 207 s 4 [(0, .ref 1), (1, .int x1), (2, .int x2)] [] := by
  intro n
  induction n with
  | zero => intro s x1 x2 h; exact h.elim
  | succ n hK4 =>
    intro s x1 x2 h
    refine am_iload_n (j := 2) d_BA_spreadGoing_4 rfl rfl ?_
    refine am_aload_n (j := 0) d_BA_spreadGoing_5 rfl rfl ?_
    refine am_getR (t := 18) d_BA_spreadGoing_6 fl_BA_61 hg (by decide) sh_1 (by decide) rfl (by decide) lk_1_14 (by decide) ?_
    refine am_alen (v := (120 : Int32)) d_BA_spreadGoing_9 (by decide) sh_18 (by decide) (by decide) ?_
    refine aj_ge (F := am_oC) (tgt := 46) d_BA_spreadGoing_10 (by decide) (fun c => ?_) (fun c => ?_)
    · have h := h.1 c
      refine am_iload_n (j := 1) d_BA_spreadGoing_46 rfl rfl ?_
      obtain ⟨hz, h⟩ := h
      exact am_iret d_BA_spreadGoing_47 rfl (am_bool hz).1 (by decide) (by decide) am_oC_ok
    · have h := h.2 c
      refine am_aload_n (j := 0) d_BA_spreadGoing_13 rfl rfl ?_
      refine am_getR (t := 18) d_BA_spreadGoing_14 fl_BA_61 hg (by decide) sh_1 (by decide) rfl (by decide) lk_1_14 (by decide) ?_
      refine am_iload_n (j := 2) d_BA_spreadGoing_17 rfl rfl ?_
      obtain ⟨hv, h⟩ := h
      refine am_zald d_BA_spreadGoing_18 (by decide) sh_18 hv ?_
      refine ai_ne (F := am_oC) (tgt := 40) d_BA_spreadGoing_19 (by decide) (fun c => ?_) (fun c => ?_)
      · have h := h.2 c
        exact w_BA_spreadGoing_40 hg hK4 h
      · have h := h.1 c
        refine am_aload_n (j := 0) d_BA_spreadGoing_22 rfl rfl ?_
        refine am_iload_n (j := 2) d_BA_spreadGoing_23 rfl rfl ?_
        refine am_iconst (v := (1 : Int32)) d_BA_spreadGoing_24 (by decide) ?_
        obtain ⟨hc, h⟩ := h
        refine ak_VI (as := [.int x2, .int (1 : Int32)]) (rest := []) d_BA_spreadGoing_25 cw_BA_spreadGoing_25 rfl rfl rfl (ct_BA_firstToGoing hg hc) rfl rfl (by decide) sh_1 rfl (Nat.le_of_ble_eq_true rfl) (by decide) (by decide) ?_
        refine ai_lt (F := am_oC) (tgt := 40) d_BA_spreadGoing_28 (by decide) (fun c => ?_) (fun c => ?_)
        · have h := h.1 c
          exact w_BA_spreadGoing_40 hg hK4 h
        · have h := h.2 c
          refine am_aload_n (j := 0) d_BA_spreadGoing_31 rfl rfl ?_
          refine am_getR (t := 18) d_BA_spreadGoing_32 fl_BA_61 hg (by decide) sh_1 (by decide) rfl (by decide) lk_1_14 (by decide) ?_
          refine am_iload_n (j := 2) d_BA_spreadGoing_35 rfl rfl ?_
          refine am_iconst (v := (1 : Int32)) d_BA_spreadGoing_36 (by decide) ?_
          obtain ⟨hv, h⟩ := h
          refine am_zast d_BA_spreadGoing_37 (by decide) sh_18 hv (Or.inr rfl) ?_
          refine am_iconst (v := (1 : Int32)) d_BA_spreadGoing_38 (by decide) ?_
          refine am_istore_n (lv2 := [(1, .int (1 : Int32)), (0, .ref 1), (2, .int x2)]) d_BA_spreadGoing_39 rfl (by decide) rfl ?_
          refine am_sub [1, 0, 2] (lv2 := [(0, .ref 1), (1, .int (1 : Int32)), (2, .int x2)]) rfl ?_
          exact w_BA_spreadGoing_40 hg hK4 h
def f_BA_spreadGoing  (s : am_M)  : Int32 × am_M := (f_BA_spreadGoing_4 am_F s (0 : Int32) (0 : Int32))
def p_BA_spreadGoing  (s : am_M)  : Prop := (p_BA_spreadGoing_4 am_F s (0 : Int32) (0 : Int32))
set_option maxRecDepth 8000 in
theorem w_BA_spreadGoing {l : Launch} {g : am_Gl} (hg : g.2.2.2.1 = true) {ad0 : Nat → Nat} {s : am_M}  (h : p_BA_spreadGoing s ) : AW l g m_BA_spreadGoing 207 ad0 (am_oC (f_BA_spreadGoing s )) 0 0 207 s 0 [(0, .ref 1)] [] := by
  refine am_iconst (v := (0 : Int32)) d_BA_spreadGoing_0 (by decide) ?_
  refine am_istore_n (lv2 := [(1, .int (0 : Int32)), (0, .ref 1)]) d_BA_spreadGoing_1 rfl (by decide) rfl ?_
  refine am_iconst (v := (0 : Int32)) d_BA_spreadGoing_2 (by decide) ?_
  refine am_istore_n (lv2 := [(2, .int (0 : Int32)), (1, .int (0 : Int32)), (0, .ref 1)]) d_BA_spreadGoing_3 rfl (by decide) rfl ?_
  refine am_sub [2, 1, 0] (lv2 := [(0, .ref 1), (1, .int (0 : Int32)), (2, .int (0 : Int32))]) rfl ?_
  exact w_BA_spreadGoing_4 hg am_F _ _ _ h
theorem ct_BA_spreadGoing {l : Launch} {g : am_Gl} (hg : g.2.2.2.1 = true) {s : am_M}  (h : p_BA_spreadGoing s ) : AC l g m_BA_spreadGoing 207 s [.ref 1] (am_oC (f_BA_spreadGoing s )) := am_enter ok_BA_spreadGoing rfl (Nat.le_of_ble_eq_true rfl) rfl (fun ad0 => w_BA_spreadGoing hg h)
theorem cw_BA_isForbidden_27 : am_cv m_BA_isForbidden m_BA_firstToGoing 283 2 := ⟨⟨ok_BA_firstToGoing, rfl, by decide +kernel, by decide, by decide⟩, aw_3_57, aw_3_59, as_1_8⟩
theorem cw_BA_isForbidden_50 : am_cv m_BA_isForbidden m_RE_set 94 4 := ⟨⟨ok_RE_set, rfl, by decide +kernel, by decide, by decide⟩, aw_3_65, aw_2_208, aw_2_209⟩
def f_BA_isForbidden_35  (s : am_M) (x1 : Int32) (x2 : Int32) : Int32 × am_M := ((1 : Int32), (f_RE_set s 16 (6 : Int32) (x1 / (30 : Int32)) (x1 - x1 / (30 : Int32) * (30 : Int32)) x2))
def p_BA_isForbidden_35  (s : am_M) (x1 : Int32) (x2 : Int32) : Prop := p_RE_set s 16 (6 : Int32) (x1 / (30 : Int32)) (x1 - x1 / (30 : Int32) * (30 : Int32)) x2 ∧ (True)
set_option maxRecDepth 8000 in
theorem w_BA_isForbidden_35 {l : Launch} {g : am_Gl} (hg : g.2.2.2.1 = true) {ad0 : Nat → Nat}  {s : am_M} {x1 : Int32} {x2 : Int32} (h : p_BA_isForbidden_35  s x1 x2) : AW l g m_BA_isForbidden 207 ad0 (am_oC (f_BA_isForbidden_35  s x1 x2)) 0 0 207 s 35 [(0, .ref 1), (1, .int x1), (2, .int x2)] [] := by
  refine am_aload_n (j := 0) d_BA_isForbidden_35 rfl rfl ?_
  refine am_getR (t := 16) d_BA_isForbidden_36 fl_BA_53 hg (by decide) sh_1 (by decide) rfl (by decide) lk_1_11 (by decide) ?_
  refine am_bipush (v := (6 : Int32)) d_BA_isForbidden_39 (by decide) ?_
  refine am_iload_n (j := 1) d_BA_isForbidden_41 rfl rfl ?_
  refine am_bipush (v := (30 : Int32)) d_BA_isForbidden_42 (by decide) ?_
  refine am_idiv d_BA_isForbidden_44 (by decide) ?_
  refine am_iload_n (j := 1) d_BA_isForbidden_45 rfl rfl ?_
  refine am_bipush (v := (30 : Int32)) d_BA_isForbidden_46 (by decide) ?_
  refine am_irem d_BA_isForbidden_48 (by decide) ?_
  refine am_iload_n (j := 2) d_BA_isForbidden_49 rfl rfl ?_
  obtain ⟨hc, h⟩ := h
  refine ak_VM (as := [.int (6 : Int32), .int (x1 / (30 : Int32)), .int (x1 - x1 / (30 : Int32) * (30 : Int32)), .int x2]) (rest := []) d_BA_isForbidden_50 cw_BA_isForbidden_50 rfl rfl rfl (ct_RE_set hg hc) rfl rfl (by decide) sh_16 rfl (Nat.le_of_ble_eq_true rfl) (by decide) (by decide) ?_
  refine am_iconst (v := (1 : Int32)) d_BA_isForbidden_53 (by decide) ?_
  exact am_iret d_BA_isForbidden_54 rfl (am_bool (Or.inr rfl)).1 (by decide) (by decide) am_oC_ok
def f_BA_isForbidden_30 (K2 : am_M → Int32 → Int32 × am_M) (s : am_M) (x1 : Int32) (y0 : Int32) : Int32 × am_M := (if y0 < 0 then (K2 s (x1 + (1 : Int32))) else (f_BA_isForbidden_35 s x1 y0))
def p_BA_isForbidden_30 (KP2 : am_M → Int32 → Prop) (s : am_M) (x1 : Int32) (y0 : Int32) : Prop := ((y0 < 0) → (KP2 s (x1 + (1 : Int32)))) ∧ (¬ (y0 < 0) → (p_BA_isForbidden_35 s x1 y0))
set_option maxRecDepth 8000 in
theorem w_BA_isForbidden_30 {l : Launch} {g : am_Gl} (hg : g.2.2.2.1 = true) {ad0 : Nat → Nat} {K2 : am_M → Int32 → Int32 × am_M} {KP2 : am_M → Int32 → Prop} (hK2 : ∀ (s : am_M) (x1 : Int32), KP2 s x1 → AW l g m_BA_isForbidden 207 ad0 (am_oC (K2 s x1)) 0 0 207 s 2 [(0, .ref 1), (1, .int x1)] []) {s : am_M} {x1 : Int32} {y0 : Int32} (h : p_BA_isForbidden_30 KP2 s x1 y0) : AW l g m_BA_isForbidden 207 ad0 (am_oC (f_BA_isForbidden_30 K2 s x1 y0)) 0 0 207 s 30 [(0, .ref 1), (1, .int x1)] [.int y0] := by
  refine am_istore_n (lv2 := [(2, .int y0), (0, .ref 1), (1, .int x1)]) d_BA_isForbidden_30 rfl (by decide) rfl ?_
  refine am_iload_n (j := 0) d_BA_isForbidden_31 rfl rfl ?_
  refine ai_lt (F := am_oC) (tgt := 55) d_BA_isForbidden_32 (by decide) (fun c => ?_) (fun c => ?_)
  · have h := h.1 c
    refine am_iinc (j := 2) (v := (x1 + (1 : Int32))) (lv2 := [(1, .int (x1 + (1 : Int32))), (2, .int y0), (0, .ref 1)]) d_BA_isForbidden_55 rfl rfl (by decide) rfl ?_
    refine am_goto (tgt := 2) d_BA_isForbidden_58 (by decide) ?_
    refine am_sub [2, 0] (lv2 := [(0, .ref 1), (1, .int (x1 + (1 : Int32)))]) rfl ?_
    exact hK2 _ _ h
  · have h := h.2 c
    refine am_sub [1, 2, 0] (lv2 := [(0, .ref 1), (1, .int x1), (2, .int y0)]) rfl ?_
    exact w_BA_isForbidden_35 hg h
def f_BA_isForbidden_2  : Nat → am_M → Int32 → Int32 × am_M
  | 0, s, x1 => (0, s)
  | n + 1, s, x1 => (if (120 : Int32) ≤ x1 then ((0 : Int32), s) else (if (s 18 (x1).toNatClampNeg) = 0 then (f_BA_isForbidden_30 (f_BA_isForbidden_2  n) s x1 (f_BA_firstToGoing s x1 (0 : Int32))) else (f_BA_isForbidden_30 (f_BA_isForbidden_2  n) s x1 (-1 : Int32))))
def p_BA_isForbidden_2  : Nat → am_M → Int32 → Prop
  | 0, s, x1 => False
  | n + 1, s, x1 => (((120 : Int32) ≤ x1) → True) ∧ (¬ ((120 : Int32) ≤ x1) → vp_in x1 120 ∧ ((((s 18 (x1).toNatClampNeg) = 0) → p_BA_firstToGoing s x1 (0 : Int32) ∧ ((p_BA_isForbidden_30 (p_BA_isForbidden_2  n) s x1 (f_BA_firstToGoing s x1 (0 : Int32))))) ∧ (¬ ((s 18 (x1).toNatClampNeg) = 0) → (p_BA_isForbidden_30 (p_BA_isForbidden_2  n) s x1 (-1 : Int32)))))
set_option maxRecDepth 8000 in
theorem w_BA_isForbidden_2 {l : Launch} {g : am_Gl} (hg : g.2.2.2.1 = true) {ad0 : Nat → Nat}   : ∀ (n : Nat) (s : am_M) (x1 : Int32), p_BA_isForbidden_2  n s x1 → AW l g m_BA_isForbidden 207 ad0 (am_oC (f_BA_isForbidden_2  n s x1)) 0 0 207 s 2 [(0, .ref 1), (1, .int x1)] [] := by
  intro n
  induction n with
  | zero => intro s x1 h; exact h.elim
  | succ n hK2 =>
    intro s x1 h
    refine am_iload_n (j := 1) d_BA_isForbidden_2 rfl rfl ?_
    refine am_aload_n (j := 0) d_BA_isForbidden_3 rfl rfl ?_
    refine am_getR (t := 18) d_BA_isForbidden_4 fl_BA_61 hg (by decide) sh_1 (by decide) rfl (by decide) lk_1_14 (by decide) ?_
    refine am_alen (v := (120 : Int32)) d_BA_isForbidden_7 (by decide) sh_18 (by decide) (by decide) ?_
    refine aj_ge (F := am_oC) (tgt := 61) d_BA_isForbidden_8 (by decide) (fun c => ?_) (fun c => ?_)
    · have h := h.1 c
      refine am_iconst (v := (0 : Int32)) d_BA_isForbidden_61 (by decide) ?_
      exact am_iret d_BA_isForbidden_62 rfl (am_bool (Or.inl rfl)).1 (by decide) (by decide) am_oC_ok
    · have h := h.2 c
      refine am_aload_n (j := 0) d_BA_isForbidden_11 rfl rfl ?_
      refine am_getR (t := 18) d_BA_isForbidden_12 fl_BA_61 hg (by decide) sh_1 (by decide) rfl (by decide) lk_1_14 (by decide) ?_
      refine am_iload_n (j := 1) d_BA_isForbidden_15 rfl rfl ?_
      obtain ⟨hv, h⟩ := h
      refine am_zald d_BA_isForbidden_16 (by decide) sh_18 hv ?_
      refine ai_eq (F := am_oC) (tgt := 24) d_BA_isForbidden_17 (by decide) (fun c => ?_) (fun c => ?_)
      · have h := h.1 c
        refine am_aload_n (j := 0) d_BA_isForbidden_24 rfl rfl ?_
        refine am_iload_n (j := 1) d_BA_isForbidden_25 rfl rfl ?_
        refine am_iconst (v := (0 : Int32)) d_BA_isForbidden_26 (by decide) ?_
        obtain ⟨hc, h⟩ := h
        refine ak_VI (as := [.int x1, .int (0 : Int32)]) (rest := []) d_BA_isForbidden_27 cw_BA_isForbidden_27 rfl rfl rfl (ct_BA_firstToGoing hg hc) rfl rfl (by decide) sh_1 rfl (Nat.le_of_ble_eq_true rfl) (by decide) (by decide) ?_
        exact w_BA_isForbidden_30 hg hK2 h
      · have h := h.2 c
        refine am_iconst (v := (-1 : Int32)) d_BA_isForbidden_20 (by decide) ?_
        refine am_goto (tgt := 30) d_BA_isForbidden_21 (by decide) ?_
        exact w_BA_isForbidden_30 hg hK2 h
def f_BA_isForbidden  (s : am_M)  : Int32 × am_M := (f_BA_isForbidden_2 am_F s (0 : Int32))
def p_BA_isForbidden  (s : am_M)  : Prop := (p_BA_isForbidden_2 am_F s (0 : Int32))
set_option maxRecDepth 8000 in
theorem w_BA_isForbidden {l : Launch} {g : am_Gl} (hg : g.2.2.2.1 = true) {ad0 : Nat → Nat} {s : am_M}  (h : p_BA_isForbidden s ) : AW l g m_BA_isForbidden 207 ad0 (am_oC (f_BA_isForbidden s )) 0 0 207 s 0 [(0, .ref 1)] [] := by
  refine am_iconst (v := (0 : Int32)) d_BA_isForbidden_0 (by decide) ?_
  refine am_istore_n (lv2 := [(1, .int (0 : Int32)), (0, .ref 1)]) d_BA_isForbidden_1 rfl (by decide) rfl ?_
  refine am_sub [1, 0] (lv2 := [(0, .ref 1), (1, .int (0 : Int32))]) rfl ?_
  exact w_BA_isForbidden_2 hg am_F _ _ h
theorem ct_BA_isForbidden {l : Launch} {g : am_Gl} (hg : g.2.2.2.1 = true) {s : am_M}  (h : p_BA_isForbidden s ) : AC l g m_BA_isForbidden 207 s [.ref 1] (am_oC (f_BA_isForbidden s )) := am_enter ok_BA_isForbidden rfl (Nat.le_of_ble_eq_true rfl) rfl (fun ad0 => w_BA_isForbidden hg h)
theorem cw_BA_blankToGoing_31 : am_cv m_BA_blankToGoing m_BA_firstToGoing 283 2 := ⟨⟨ok_BA_firstToGoing, rfl, by decide +kernel, by decide, by decide⟩, aw_3_57, aw_3_59, as_1_8⟩
theorem cw_BA_blankToGoing_57 : am_cv m_BA_blankToGoing m_RO_set 166 4 := ⟨⟨ok_RO_set, rfl, by decide +kernel, by decide, by decide⟩, aw_2_162, aw_2_163, aw_2_164⟩
def f_BA_blankToGoing_66 (K2 : am_M → Int32 → am_M) (s : am_M) (x1 : Int32) (x2 : Int32) : am_M := (K2 s (x1 + (1 : Int32)))
def p_BA_blankToGoing_66 (KP2 : am_M → Int32 → Prop) (s : am_M) (x1 : Int32) (x2 : Int32) : Prop := (KP2 s (x1 + (1 : Int32)))
set_option maxRecDepth 8000 in
theorem w_BA_blankToGoing_66 {l : Launch} {g : am_Gl} (hg : g.2.2.2.1 = true) {ad0 : Nat → Nat} {K2 : am_M → Int32 → am_M} {KP2 : am_M → Int32 → Prop} (hK2 : ∀ (s : am_M) (x1 : Int32), KP2 s x1 → AW l g m_BA_blankToGoing 207 ad0 (am_oM (K2 s x1)) 0 0 207 s 2 [(0, .ref 1), (1, .int x1)] []) {s : am_M} {x1 : Int32} {x2 : Int32} (h : p_BA_blankToGoing_66 KP2 s x1 x2) : AW l g m_BA_blankToGoing 207 ad0 (am_oM (f_BA_blankToGoing_66 K2 s x1 x2)) 0 0 207 s 66 [(0, .ref 1), (1, .int x1), (2, .int x2)] [] := by
  refine am_iinc (j := 1) (v := (x1 + (1 : Int32))) (lv2 := [(1, .int (x1 + (1 : Int32))), (0, .ref 1), (2, .int x2)]) d_BA_blankToGoing_66 rfl rfl (by decide) rfl ?_
  refine am_goto (tgt := 2) d_BA_blankToGoing_69 (by decide) ?_
  refine am_sub [1, 0] (lv2 := [(0, .ref 1), (1, .int (x1 + (1 : Int32)))]) rfl ?_
  exact hK2 _ _ h
def f_BA_blankToGoing_39 (K2 : am_M → Int32 → am_M) (s : am_M) (x1 : Int32) (x2 : Int32) (x3 : Int32) : am_M := (f_BA_blankToGoing_66 K2 s x1 x2)
def p_BA_blankToGoing_39 (KP2 : am_M → Int32 → Prop) (s : am_M) (x1 : Int32) (x2 : Int32) (x3 : Int32) : Prop := (p_BA_blankToGoing_66 KP2 s x1 x2)
set_option maxRecDepth 8000 in
theorem w_BA_blankToGoing_39 {l : Launch} {g : am_Gl} (hg : g.2.2.2.1 = true) {ad0 : Nat → Nat} {K2 : am_M → Int32 → am_M} {KP2 : am_M → Int32 → Prop} (hK2 : ∀ (s : am_M) (x1 : Int32), KP2 s x1 → AW l g m_BA_blankToGoing 207 ad0 (am_oM (K2 s x1)) 0 0 207 s 2 [(0, .ref 1), (1, .int x1)] []) {s : am_M} {x1 : Int32} {x2 : Int32} {x3 : Int32} (h : p_BA_blankToGoing_39 KP2 s x1 x2 x3) : AW l g m_BA_blankToGoing 207 ad0 (am_oM (f_BA_blankToGoing_39 K2 s x1 x2 x3)) 0 0 207 s 39 [(0, .ref 1), (1, .int x1), (2, .int x2), (3, .int x3)] [] := by
  refine am_goto (tgt := 66) d_BA_blankToGoing_39 (by decide) ?_
  refine am_sub [0, 1, 2] (lv2 := [(0, .ref 1), (1, .int x1), (2, .int x2)]) rfl ?_
  exact w_BA_blankToGoing_66 hg hK2 h
def f_BA_blankToGoing_13 (K2 : am_M → Int32 → am_M) : Nat → am_M → Int32 → Int32 → am_M
  | 0, s, x1, x2 => s
  | n + 1, s, x1, x2 => (if (6 : Int32) ≤ x2 then (f_BA_blankToGoing_66 K2 s x1 x2) else (if (s 18 (x1).toNatClampNeg) = 0 then (if 0 ≤ (f_BA_firstToGoing s x1 (2 : Int32)) then ((f_BA_blankToGoing_13 K2 n) (f_RO_set s 8 (x1 / (30 : Int32)) (x1 - x1 / (30 : Int32) * (30 : Int32)) (f_BA_firstToGoing s x1 (2 : Int32)) (-1000000 : Int32)) x1 (x2 + (1 : Int32))) else (f_BA_blankToGoing_39 K2 s x1 x2 (f_BA_firstToGoing s x1 (2 : Int32)))) else (f_BA_blankToGoing_66 K2 s x1 x2)))
def p_BA_blankToGoing_13 (KP2 : am_M → Int32 → Prop) : Nat → am_M → Int32 → Int32 → Prop
  | 0, s, x1, x2 => False
  | n + 1, s, x1, x2 => (((6 : Int32) ≤ x2) → (p_BA_blankToGoing_66 KP2 s x1 x2)) ∧ (¬ ((6 : Int32) ≤ x2) → vp_in x1 120 ∧ ((((s 18 (x1).toNatClampNeg) = 0) → p_BA_firstToGoing s x1 (2 : Int32) ∧ (((0 ≤ (f_BA_firstToGoing s x1 (2 : Int32))) → p_RO_set s 8 (x1 / (30 : Int32)) (x1 - x1 / (30 : Int32) * (30 : Int32)) (f_BA_firstToGoing s x1 (2 : Int32)) (-1000000 : Int32) ∧ (((p_BA_blankToGoing_13 KP2 n) (f_RO_set s 8 (x1 / (30 : Int32)) (x1 - x1 / (30 : Int32) * (30 : Int32)) (f_BA_firstToGoing s x1 (2 : Int32)) (-1000000 : Int32)) x1 (x2 + (1 : Int32))))) ∧ (¬ (0 ≤ (f_BA_firstToGoing s x1 (2 : Int32))) → (p_BA_blankToGoing_39 KP2 s x1 x2 (f_BA_firstToGoing s x1 (2 : Int32)))))) ∧ (¬ ((s 18 (x1).toNatClampNeg) = 0) → (p_BA_blankToGoing_66 KP2 s x1 x2))))
set_option maxRecDepth 8000 in
theorem w_BA_blankToGoing_13 {l : Launch} {g : am_Gl} (hg : g.2.2.2.1 = true) {ad0 : Nat → Nat} {K2 : am_M → Int32 → am_M} {KP2 : am_M → Int32 → Prop}  (hK2 : ∀ (s : am_M) (x1 : Int32), KP2 s x1 → AW l g m_BA_blankToGoing 207 ad0 (am_oM (K2 s x1)) 0 0 207 s 2 [(0, .ref 1), (1, .int x1)] []) : ∀ (n : Nat) (s : am_M) (x1 : Int32) (x2 : Int32), p_BA_blankToGoing_13 KP2 n s x1 x2 → AW l g m_BA_blankToGoing 207 ad0 (am_oM (f_BA_blankToGoing_13 K2 n s x1 x2)) 0 0 207 s 13 [(0, .ref 1), (1, .int x1), (2, .int x2)] [] := by
  intro n
  induction n with
  | zero => intro s x1 x2 h; exact h.elim
  | succ n hK13 =>
    intro s x1 x2 h
    refine am_iload_n (j := 2) d_BA_blankToGoing_13 rfl rfl ?_
    refine am_bipush (v := (6 : Int32)) d_BA_blankToGoing_14 (by decide) ?_
    refine aj_ge (F := am_oM) (tgt := 66) d_BA_blankToGoing_16 (by decide) (fun c => ?_) (fun c => ?_)
    · have h := h.1 c
      exact w_BA_blankToGoing_66 hg hK2 h
    · have h := h.2 c
      refine am_aload_n (j := 0) d_BA_blankToGoing_19 rfl rfl ?_
      refine am_getR (t := 18) d_BA_blankToGoing_20 fl_BA_61 hg (by decide) sh_1 (by decide) rfl (by decide) lk_1_14 (by decide) ?_
      refine am_iload_n (j := 1) d_BA_blankToGoing_23 rfl rfl ?_
      obtain ⟨hv, h⟩ := h
      refine am_zald d_BA_blankToGoing_24 (by decide) sh_18 hv ?_
      refine ai_ne (F := am_oM) (tgt := 66) d_BA_blankToGoing_25 (by decide) (fun c => ?_) (fun c => ?_)
      · have h := h.2 c
        exact w_BA_blankToGoing_66 hg hK2 h
      · have h := h.1 c
        refine am_aload_n (j := 0) d_BA_blankToGoing_28 rfl rfl ?_
        refine am_iload_n (j := 1) d_BA_blankToGoing_29 rfl rfl ?_
        refine am_iconst (v := (2 : Int32)) d_BA_blankToGoing_30 (by decide) ?_
        obtain ⟨hc, h⟩ := h
        refine ak_VI (as := [.int x1, .int (2 : Int32)]) (rest := []) d_BA_blankToGoing_31 cw_BA_blankToGoing_31 rfl rfl rfl (ct_BA_firstToGoing hg hc) rfl rfl (by decide) sh_1 rfl (Nat.le_of_ble_eq_true rfl) (by decide) (by decide) ?_
        refine am_istore_n (lv2 := [(3, .int (f_BA_firstToGoing s x1 (2 : Int32))), (0, .ref 1), (1, .int x1), (2, .int x2)]) d_BA_blankToGoing_34 rfl (by decide) rfl ?_
        refine am_iload_n (j := 0) d_BA_blankToGoing_35 rfl rfl ?_
        refine ai_ge (F := am_oM) (tgt := 42) d_BA_blankToGoing_36 (by decide) (fun c => ?_) (fun c => ?_)
        · have h := h.1 c
          refine am_aload_n (j := 1) d_BA_blankToGoing_42 rfl rfl ?_
          refine am_getR (t := 8) d_BA_blankToGoing_43 fl_BA_43 hg (by decide) sh_1 (by decide) rfl (by decide) lk_1_9 (by decide) ?_
          refine am_iload_n (j := 2) d_BA_blankToGoing_46 rfl rfl ?_
          refine am_bipush (v := (30 : Int32)) d_BA_blankToGoing_47 (by decide) ?_
          refine am_idiv d_BA_blankToGoing_49 (by decide) ?_
          refine am_iload_n (j := 2) d_BA_blankToGoing_50 rfl rfl ?_
          refine am_bipush (v := (30 : Int32)) d_BA_blankToGoing_51 (by decide) ?_
          refine am_irem d_BA_blankToGoing_53 (by decide) ?_
          refine am_iload_n (j := 0) d_BA_blankToGoing_54 rfl rfl ?_
          refine am_ldc (v := (-1000000 : Int32)) d_BA_blankToGoing_55 aw_2_161 ?_
          obtain ⟨hc, h⟩ := h
          refine ak_VM (as := [.int (x1 / (30 : Int32)), .int (x1 - x1 / (30 : Int32) * (30 : Int32)), .int (f_BA_firstToGoing s x1 (2 : Int32)), .int (-1000000 : Int32)]) (rest := []) d_BA_blankToGoing_57 cw_BA_blankToGoing_57 rfl rfl rfl (ct_RO_set hg hc) rfl rfl (by decide) sh_8 rfl (Nat.le_of_ble_eq_true rfl) (by decide) (by decide) ?_
          refine am_iinc (j := 3) (v := (x2 + (1 : Int32))) (lv2 := [(2, .int (x2 + (1 : Int32))), (3, .int (f_BA_firstToGoing s x1 (2 : Int32))), (0, .ref 1), (1, .int x1)]) d_BA_blankToGoing_60 rfl rfl (by decide) rfl ?_
          refine am_goto (tgt := 13) d_BA_blankToGoing_63 (by decide) ?_
          refine am_sub [2, 3, 0] (lv2 := [(0, .ref 1), (1, .int x1), (2, .int (x2 + (1 : Int32)))]) rfl ?_
          exact hK13 _ _ _ h
        · have h := h.2 c
          refine am_sub [1, 2, 3, 0] (lv2 := [(0, .ref 1), (1, .int x1), (2, .int x2), (3, .int (f_BA_firstToGoing s x1 (2 : Int32)))]) rfl ?_
          exact w_BA_blankToGoing_39 hg hK2 h
def f_BA_blankToGoing_2  : Nat → am_M → Int32 → am_M
  | 0, s, x1 => s
  | n + 1, s, x1 => (if (120 : Int32) ≤ x1 then s else (f_BA_blankToGoing_13 (f_BA_blankToGoing_2  n) am_F s x1 (0 : Int32)))
def p_BA_blankToGoing_2  : Nat → am_M → Int32 → Prop
  | 0, s, x1 => False
  | n + 1, s, x1 => (((120 : Int32) ≤ x1) → True) ∧ (¬ ((120 : Int32) ≤ x1) → (p_BA_blankToGoing_13 (p_BA_blankToGoing_2  n) am_F s x1 (0 : Int32)))
set_option maxRecDepth 8000 in
theorem w_BA_blankToGoing_2 {l : Launch} {g : am_Gl} (hg : g.2.2.2.1 = true) {ad0 : Nat → Nat}   : ∀ (n : Nat) (s : am_M) (x1 : Int32), p_BA_blankToGoing_2  n s x1 → AW l g m_BA_blankToGoing 207 ad0 (am_oM (f_BA_blankToGoing_2  n s x1)) 0 0 207 s 2 [(0, .ref 1), (1, .int x1)] [] := by
  intro n
  induction n with
  | zero => intro s x1 h; exact h.elim
  | succ n hK2 =>
    intro s x1 h
    refine am_iload_n (j := 1) d_BA_blankToGoing_2 rfl rfl ?_
    refine am_aload_n (j := 0) d_BA_blankToGoing_3 rfl rfl ?_
    refine am_getR (t := 18) d_BA_blankToGoing_4 fl_BA_61 hg (by decide) sh_1 (by decide) rfl (by decide) lk_1_14 (by decide) ?_
    refine am_alen (v := (120 : Int32)) d_BA_blankToGoing_7 (by decide) sh_18 (by decide) (by decide) ?_
    refine aj_ge (F := am_oM) (tgt := 72) d_BA_blankToGoing_8 (by decide) (fun c => ?_) (fun c => ?_)
    · have h := h.1 c
      exact am_vret d_BA_blankToGoing_72 rfl (by decide) (by decide) am_oM_ok
    · have h := h.2 c
      refine am_iconst (v := (0 : Int32)) d_BA_blankToGoing_11 (by decide) ?_
      refine am_istore_n (lv2 := [(2, .int (0 : Int32)), (0, .ref 1), (1, .int x1)]) d_BA_blankToGoing_12 rfl (by decide) rfl ?_
      refine am_sub [1, 2, 0] (lv2 := [(0, .ref 1), (1, .int x1), (2, .int (0 : Int32))]) rfl ?_
      exact w_BA_blankToGoing_13 hg hK2 am_F _ _ _ h
def f_BA_blankToGoing  (s : am_M)  : am_M := (f_BA_blankToGoing_2 am_F s (0 : Int32))
def p_BA_blankToGoing  (s : am_M)  : Prop := (p_BA_blankToGoing_2 am_F s (0 : Int32))
set_option maxRecDepth 8000 in
theorem w_BA_blankToGoing {l : Launch} {g : am_Gl} (hg : g.2.2.2.1 = true) {ad0 : Nat → Nat} {s : am_M}  (h : p_BA_blankToGoing s ) : AW l g m_BA_blankToGoing 207 ad0 (am_oM (f_BA_blankToGoing s )) 0 0 207 s 0 [(0, .ref 1)] [] := by
  refine am_iconst (v := (0 : Int32)) d_BA_blankToGoing_0 (by decide) ?_
  refine am_istore_n (lv2 := [(1, .int (0 : Int32)), (0, .ref 1)]) d_BA_blankToGoing_1 rfl (by decide) rfl ?_
  refine am_sub [1, 0] (lv2 := [(0, .ref 1), (1, .int (0 : Int32))]) rfl ?_
  exact w_BA_blankToGoing_2 hg am_F _ _ h
theorem ct_BA_blankToGoing {l : Launch} {g : am_Gl} (hg : g.2.2.2.1 = true) {s : am_M}  (h : p_BA_blankToGoing s ) : AC l g m_BA_blankToGoing 207 s [.ref 1] (am_oM (f_BA_blankToGoing s )) := am_enter ok_BA_blankToGoing rfl (Nat.le_of_ble_eq_true rfl) rfl (fun ad0 => w_BA_blankToGoing hg h)
theorem cw_BA_takeOut_50 : am_cv m_BA_takeOut m_BA_spreadGoing 270 0 := ⟨⟨ok_BA_spreadGoing, rfl, by decide +kernel, by decide, by decide⟩, aw_3_53, aw_3_55, as_1_7⟩
theorem cw_BA_takeOut_66 : am_cv m_BA_takeOut m_BA_isForbidden 273 0 := ⟨⟨ok_BA_isForbidden, rfl, by decide +kernel, by decide, by decide⟩, aw_3_61, aw_3_63, as_1_9⟩
theorem cw_BA_takeOut_75 : am_cv m_BA_takeOut m_BA_keep 138 0 := ⟨⟨ok_BA_keep, rfl, by decide +kernel, by decide, by decide⟩, aw_2_142, aw_2_144, as_0_8⟩
theorem cw_BA_takeOut_79 : am_cv m_BA_takeOut m_BA_blankToGoing 276 0 := ⟨⟨ok_BA_blankToGoing, rfl, by decide +kernel, by decide, by decide⟩, aw_3_66, aw_3_68, as_1_10⟩
theorem cw_BA_takeOut_125 : am_cv m_BA_takeOut m_BA_settle 141 0 := ⟨⟨ok_BA_settle, rfl, by decide +kernel, by decide, by decide⟩, aw_2_166, aw_2_168, as_0_9⟩
theorem cw_BA_takeOut_115 : am_cv m_BA_takeOut m_RO_setSerial 279 3 := ⟨⟨ok_RO_setSerial, rfl, by decide +kernel, by decide, by decide⟩, aw_3_70, aw_3_71, aw_3_72⟩
def f_BA_takeOut_31 (K2 : am_M → Int32 → Int32 → Int32 → Int32 × am_M) (s : am_M) (x1 : Int32) (x2 : Int32) (x3 : Int32) (y1 : Int32) (y2 : Int32) : Int32 × am_M := (K2 (am_set s 18 (y1).toNatClampNeg y2) x1 x2 (x3 + (1 : Int32)))
def p_BA_takeOut_31 (KP2 : am_M → Int32 → Int32 → Int32 → Prop) (s : am_M) (x1 : Int32) (x2 : Int32) (x3 : Int32) (y1 : Int32) (y2 : Int32) : Prop := vp_in y1 120 ∧ ((y2 = 0 ∨ y2 = 1) ∧ ((KP2 (am_set s 18 (y1).toNatClampNeg y2) x1 x2 (x3 + (1 : Int32)))))
set_option maxRecDepth 8000 in
theorem w_BA_takeOut_31 {l : Launch} {g : am_Gl} (hg : g.2.2.2.1 = true) {ad0 : Nat → Nat} {K2 : am_M → Int32 → Int32 → Int32 → Int32 × am_M} {KP2 : am_M → Int32 → Int32 → Int32 → Prop} (hK2 : ∀ (s : am_M) (x1 : Int32) (x2 : Int32) (x3 : Int32), KP2 s x1 x2 x3 → AW l g m_BA_takeOut 207 ad0 (am_oC (K2 s x1 x2 x3)) 0 0 207 s 2 [(0, .ref 1), (1, .int x1), (2, .int x2), (3, .int x3)] []) {s : am_M} {x1 : Int32} {x2 : Int32} {x3 : Int32} {y1 : Int32} {y2 : Int32} (h : p_BA_takeOut_31 KP2 s x1 x2 x3 y1 y2) : AW l g m_BA_takeOut 207 ad0 (am_oC (f_BA_takeOut_31 K2 s x1 x2 x3 y1 y2)) 0 0 207 s 31 [(0, .ref 1), (1, .int x1), (2, .int x2), (3, .int x3)] [.int y2, .int y1, .ref 18] := by
  obtain ⟨hv, h⟩ := h
  obtain ⟨hz, h⟩ := h
  refine am_zast d_BA_takeOut_31 (by decide) sh_18 hv hz ?_
  refine am_iinc (j := 3) (v := (x3 + (1 : Int32))) (lv2 := [(3, .int (x3 + (1 : Int32))), (0, .ref 1), (1, .int x1), (2, .int x2)]) d_BA_takeOut_32 rfl rfl (by decide) rfl ?_
  refine am_goto (tgt := 2) d_BA_takeOut_35 (by decide) ?_
  refine am_sub [1, 2, 3, 0] (lv2 := [(0, .ref 1), (1, .int x1), (2, .int x2), (3, .int (x3 + (1 : Int32)))]) rfl ?_
  exact hK2 _ _ _ _ h
def f_BA_takeOut_118 (K84 : am_M → Int32 → Int32 → Int32 → Int32 × am_M) (s : am_M) (x1 : Int32) (x2 : Int32) (x3 : Int32) : Int32 × am_M := (K84 s x1 x2 (x3 + (1 : Int32)))
def p_BA_takeOut_118 (KP84 : am_M → Int32 → Int32 → Int32 → Prop) (s : am_M) (x1 : Int32) (x2 : Int32) (x3 : Int32) : Prop := (KP84 s x1 x2 (x3 + (1 : Int32)))
set_option maxRecDepth 8000 in
theorem w_BA_takeOut_118 {l : Launch} {g : am_Gl} (hg : g.2.2.2.1 = true) {ad0 : Nat → Nat} {K84 : am_M → Int32 → Int32 → Int32 → Int32 × am_M} {KP84 : am_M → Int32 → Int32 → Int32 → Prop} (hK84 : ∀ (s : am_M) (x1 : Int32) (x2 : Int32) (x3 : Int32), KP84 s x1 x2 x3 → AW l g m_BA_takeOut 207 ad0 (am_oC (K84 s x1 x2 x3)) 0 0 207 s 84 [(0, .ref 1), (1, .int x1), (2, .int x2), (3, .int x3)] []) {s : am_M} {x1 : Int32} {x2 : Int32} {x3 : Int32} (h : p_BA_takeOut_118 KP84 s x1 x2 x3) : AW l g m_BA_takeOut 207 ad0 (am_oC (f_BA_takeOut_118 K84 s x1 x2 x3)) 0 0 207 s 118 [(0, .ref 1), (1, .int x1), (2, .int x2), (3, .int x3)] [] := by
  refine am_iinc (j := 3) (v := (x3 + (1 : Int32))) (lv2 := [(3, .int (x3 + (1 : Int32))), (0, .ref 1), (1, .int x1), (2, .int x2)]) d_BA_takeOut_118 rfl rfl (by decide) rfl ?_
  refine am_goto (tgt := 84) d_BA_takeOut_121 (by decide) ?_
  refine am_sub [1, 2, 3, 0] (lv2 := [(0, .ref 1), (1, .int x1), (2, .int x2), (3, .int (x3 + (1 : Int32)))]) rfl ?_
  exact hK84 _ _ _ _ h
def f_BA_takeOut_84  : Nat → am_M → Int32 → Int32 → Int32 → Int32 × am_M
  | 0, s, x1, x2, x3 => (0, s)
  | n + 1, s, x1, x2, x3 => (if (120 : Int32) ≤ x3 then ((f_BA_settle s).1, (f_BA_settle s).2) else (if (s 18 (x3).toNatClampNeg) = 0 then (f_BA_takeOut_118 (f_BA_takeOut_84  n) s x1 x2 x3) else (f_BA_takeOut_118 (f_BA_takeOut_84  n) (f_RO_setSerial s 8 (x3 / (30 : Int32)) (x3 - x3 / (30 : Int32) * (30 : Int32)) (0 : Int32)) x1 x2 x3)))
def p_BA_takeOut_84  : Nat → am_M → Int32 → Int32 → Int32 → Prop
  | 0, s, x1, x2, x3 => False
  | n + 1, s, x1, x2, x3 => (((120 : Int32) ≤ x3) → p_BA_settle s ∧ (((f_BA_settle s).1 = 0 ∨ (f_BA_settle s).1 = 1) ∧ (True))) ∧ (¬ ((120 : Int32) ≤ x3) → vp_in x3 120 ∧ ((((s 18 (x3).toNatClampNeg) = 0) → (p_BA_takeOut_118 (p_BA_takeOut_84  n) s x1 x2 x3)) ∧ (¬ ((s 18 (x3).toNatClampNeg) = 0) → p_RO_setSerial s 8 (x3 / (30 : Int32)) (x3 - x3 / (30 : Int32) * (30 : Int32)) (0 : Int32) ∧ ((p_BA_takeOut_118 (p_BA_takeOut_84  n) (f_RO_setSerial s 8 (x3 / (30 : Int32)) (x3 - x3 / (30 : Int32) * (30 : Int32)) (0 : Int32)) x1 x2 x3)))))
set_option maxRecDepth 8000 in
theorem w_BA_takeOut_84 {l : Launch} {g : am_Gl} (hg : g.2.2.2.1 = true) {ad0 : Nat → Nat}   : ∀ (n : Nat) (s : am_M) (x1 : Int32) (x2 : Int32) (x3 : Int32), p_BA_takeOut_84  n s x1 x2 x3 → AW l g m_BA_takeOut 207 ad0 (am_oC (f_BA_takeOut_84  n s x1 x2 x3)) 0 0 207 s 84 [(0, .ref 1), (1, .int x1), (2, .int x2), (3, .int x3)] [] := by
  intro n
  induction n with
  | zero => intro s x1 x2 x3 h; exact h.elim
  | succ n hK84 =>
    intro s x1 x2 x3 h
    refine am_iload_n (j := 3) d_BA_takeOut_84 rfl rfl ?_
    refine am_aload_n (j := 0) d_BA_takeOut_85 rfl rfl ?_
    refine am_getR (t := 18) d_BA_takeOut_86 fl_BA_61 hg (by decide) sh_1 (by decide) rfl (by decide) lk_1_14 (by decide) ?_
    refine am_alen (v := (120 : Int32)) d_BA_takeOut_89 (by decide) sh_18 (by decide) (by decide) ?_
    refine aj_ge (F := am_oC) (tgt := 124) d_BA_takeOut_90 (by decide) (fun c => ?_) (fun c => ?_)
    · have h := h.1 c
      refine am_aload_n (j := 0) d_BA_takeOut_124 rfl rfl ?_
      obtain ⟨hc, h⟩ := h
      refine ak_VC (as := []) (rest := []) d_BA_takeOut_125 cw_BA_takeOut_125 rfl rfl rfl (ct_BA_settle hg hc) rfl rfl (by decide) sh_1 rfl (Nat.le_of_ble_eq_true rfl) (by decide) (by decide) ?_
      obtain ⟨hz, h⟩ := h
      exact am_iret d_BA_takeOut_128 rfl (am_bool hz).1 (by decide) (by decide) am_oC_ok
    · have h := h.2 c
      refine am_aload_n (j := 0) d_BA_takeOut_93 rfl rfl ?_
      refine am_getR (t := 18) d_BA_takeOut_94 fl_BA_61 hg (by decide) sh_1 (by decide) rfl (by decide) lk_1_14 (by decide) ?_
      refine am_iload_n (j := 3) d_BA_takeOut_97 rfl rfl ?_
      obtain ⟨hv, h⟩ := h
      refine am_zald d_BA_takeOut_98 (by decide) sh_18 hv ?_
      refine ai_eq (F := am_oC) (tgt := 118) d_BA_takeOut_99 (by decide) (fun c => ?_) (fun c => ?_)
      · have h := h.1 c
        exact w_BA_takeOut_118 hg hK84 h
      · have h := h.2 c
        refine am_aload_n (j := 0) d_BA_takeOut_102 rfl rfl ?_
        refine am_getR (t := 8) d_BA_takeOut_103 fl_BA_43 hg (by decide) sh_1 (by decide) rfl (by decide) lk_1_9 (by decide) ?_
        refine am_iload_n (j := 3) d_BA_takeOut_106 rfl rfl ?_
        refine am_bipush (v := (30 : Int32)) d_BA_takeOut_107 (by decide) ?_
        refine am_idiv d_BA_takeOut_109 (by decide) ?_
        refine am_iload_n (j := 3) d_BA_takeOut_110 rfl rfl ?_
        refine am_bipush (v := (30 : Int32)) d_BA_takeOut_111 (by decide) ?_
        refine am_irem d_BA_takeOut_113 (by decide) ?_
        refine am_iconst (v := (0 : Int32)) d_BA_takeOut_114 (by decide) ?_
        obtain ⟨hc, h⟩ := h
        refine ak_VM (as := [.int (x3 / (30 : Int32)), .int (x3 - x3 / (30 : Int32) * (30 : Int32)), .int (0 : Int32)]) (rest := []) d_BA_takeOut_115 cw_BA_takeOut_115 rfl rfl rfl (ct_RO_setSerial hg hc) rfl rfl (by decide) sh_8 rfl (Nat.le_of_ble_eq_true rfl) (by decide) (by decide) ?_
        exact w_BA_takeOut_118 hg hK84 h
def f_BA_takeOut_65  (s : am_M) (x1 : Int32) (x2 : Int32) (x3 : Int32) : Int32 × am_M := (if (f_BA_isForbidden s).1 = 0 then (f_BA_takeOut_84 am_F (f_BA_blankToGoing (f_BA_keep (f_BA_isForbidden s).2)) x1 x2 (0 : Int32)) else ((0 : Int32), (f_BA_isForbidden s).2))
def p_BA_takeOut_65  (s : am_M) (x1 : Int32) (x2 : Int32) (x3 : Int32) : Prop := p_BA_isForbidden s ∧ ((((f_BA_isForbidden s).1 = 0) → p_BA_keep (f_BA_isForbidden s).2 ∧ (p_BA_blankToGoing (f_BA_keep (f_BA_isForbidden s).2) ∧ ((p_BA_takeOut_84 am_F (f_BA_blankToGoing (f_BA_keep (f_BA_isForbidden s).2)) x1 x2 (0 : Int32))))) ∧ (¬ ((f_BA_isForbidden s).1 = 0) → True))
set_option maxRecDepth 8000 in
theorem w_BA_takeOut_65 {l : Launch} {g : am_Gl} (hg : g.2.2.2.1 = true) {ad0 : Nat → Nat}  {s : am_M} {x1 : Int32} {x2 : Int32} {x3 : Int32} (h : p_BA_takeOut_65  s x1 x2 x3) : AW l g m_BA_takeOut 207 ad0 (am_oC (f_BA_takeOut_65  s x1 x2 x3)) 0 0 207 s 65 [(0, .ref 1), (1, .int x1), (2, .int x2), (3, .int x3)] [] := by
  refine am_aload_n (j := 0) d_BA_takeOut_65 rfl rfl ?_
  obtain ⟨hc, h⟩ := h
  refine ak_VC (as := []) (rest := []) d_BA_takeOut_66 cw_BA_takeOut_66 rfl rfl rfl (ct_BA_isForbidden hg hc) rfl rfl (by decide) sh_1 rfl (Nat.le_of_ble_eq_true rfl) (by decide) (by decide) ?_
  refine ai_eq (F := am_oC) (tgt := 74) d_BA_takeOut_69 (by decide) (fun c => ?_) (fun c => ?_)
  · have h := h.1 c
    refine am_aload_n (j := 0) d_BA_takeOut_74 rfl rfl ?_
    obtain ⟨hc, h⟩ := h
    refine ak_VM (as := []) (rest := []) d_BA_takeOut_75 cw_BA_takeOut_75 rfl rfl rfl (ct_BA_keep hg hc) rfl rfl (by decide) sh_1 rfl (Nat.le_of_ble_eq_true rfl) (by decide) (by decide) ?_
    refine am_aload_n (j := 0) d_BA_takeOut_78 rfl rfl ?_
    obtain ⟨hc, h⟩ := h
    refine ak_VM (as := []) (rest := []) d_BA_takeOut_79 cw_BA_takeOut_79 rfl rfl rfl (ct_BA_blankToGoing hg hc) rfl rfl (by decide) sh_1 rfl (Nat.le_of_ble_eq_true rfl) (by decide) (by decide) ?_
    refine am_iconst (v := (0 : Int32)) d_BA_takeOut_82 (by decide) ?_
    refine am_istore_n (lv2 := [(3, .int (0 : Int32)), (0, .ref 1), (1, .int x1), (2, .int x2)]) d_BA_takeOut_83 rfl (by decide) rfl ?_
    refine am_sub [1, 2, 3, 0] (lv2 := [(0, .ref 1), (1, .int x1), (2, .int x2), (3, .int (0 : Int32))]) rfl ?_
    exact w_BA_takeOut_84 hg am_F _ _ _ _ h
  · have h := h.2 c
    refine am_iconst (v := (0 : Int32)) d_BA_takeOut_72 (by decide) ?_
    exact am_iret d_BA_takeOut_73 rfl (am_bool (Or.inl rfl)).1 (by decide) (by decide) am_oC_ok
def f_BA_takeOut_56  (s : am_M) (x1 : Int32) (x2 : Int32) (x3 : Int32) : Int32 × am_M := (f_BA_takeOut_65 s x1 x2 x3)
def p_BA_takeOut_56  (s : am_M) (x1 : Int32) (x2 : Int32) (x3 : Int32) : Prop := (p_BA_takeOut_65 s x1 x2 x3)
set_option maxRecDepth 8000 in
theorem w_BA_takeOut_56 {l : Launch} {g : am_Gl} (hg : g.2.2.2.1 = true) {ad0 : Nat → Nat}  {s : am_M} {x1 : Int32} {x2 : Int32} {x3 : Int32} (h : p_BA_takeOut_56  s x1 x2 x3) : AW l g m_BA_takeOut 207 ad0 (am_oC (f_BA_takeOut_56  s x1 x2 x3)) 0 0 207 s 56 [(0, .ref 1), (1, .int x1), (2, .int x2), (3, .int x3)] [] := by
  refine am_goto (tgt := 65) d_BA_takeOut_56 (by decide) ?_
  exact w_BA_takeOut_65 hg h
def f_BA_takeOut_40  : Nat → am_M → Int32 → Int32 → Int32 → Int32 × am_M
  | 0, s, x1, x2, x3 => (0, s)
  | n + 1, s, x1, x2, x3 => (if (120 : Int32) ≤ x3 then (f_BA_takeOut_65 s x1 x2 x3) else (if (f_BA_spreadGoing s).1 = 0 then (f_BA_takeOut_56 (f_BA_spreadGoing s).2 x1 x2 x3) else ((f_BA_takeOut_40  n) (f_BA_spreadGoing s).2 x1 x2 (x3 + (1 : Int32)))))
def p_BA_takeOut_40  : Nat → am_M → Int32 → Int32 → Int32 → Prop
  | 0, s, x1, x2, x3 => False
  | n + 1, s, x1, x2, x3 => (((120 : Int32) ≤ x3) → (p_BA_takeOut_65 s x1 x2 x3)) ∧ (¬ ((120 : Int32) ≤ x3) → p_BA_spreadGoing s ∧ ((((f_BA_spreadGoing s).1 = 0) → (p_BA_takeOut_56 (f_BA_spreadGoing s).2 x1 x2 x3)) ∧ (¬ ((f_BA_spreadGoing s).1 = 0) → ((p_BA_takeOut_40  n) (f_BA_spreadGoing s).2 x1 x2 (x3 + (1 : Int32))))))
set_option maxRecDepth 8000 in
theorem w_BA_takeOut_40 {l : Launch} {g : am_Gl} (hg : g.2.2.2.1 = true) {ad0 : Nat → Nat}   : ∀ (n : Nat) (s : am_M) (x1 : Int32) (x2 : Int32) (x3 : Int32), p_BA_takeOut_40  n s x1 x2 x3 → AW l g m_BA_takeOut 207 ad0 (am_oC (f_BA_takeOut_40  n s x1 x2 x3)) 0 0 207 s 40 [(0, .ref 1), (1, .int x1), (2, .int x2), (3, .int x3)] [] := by
  intro n
  induction n with
  | zero => intro s x1 x2 x3 h; exact h.elim
  | succ n hK40 =>
    intro s x1 x2 x3 h
    refine am_iload_n (j := 3) d_BA_takeOut_40 rfl rfl ?_
    refine am_aload_n (j := 0) d_BA_takeOut_41 rfl rfl ?_
    refine am_getR (t := 18) d_BA_takeOut_42 fl_BA_61 hg (by decide) sh_1 (by decide) rfl (by decide) lk_1_14 (by decide) ?_
    refine am_alen (v := (120 : Int32)) d_BA_takeOut_45 (by decide) sh_18 (by decide) (by decide) ?_
    refine aj_ge (F := am_oC) (tgt := 65) d_BA_takeOut_46 (by decide) (fun c => ?_) (fun c => ?_)
    · have h := h.1 c
      exact w_BA_takeOut_65 hg h
    · have h := h.2 c
      refine am_aload_n (j := 0) d_BA_takeOut_49 rfl rfl ?_
      obtain ⟨hc, h⟩ := h
      refine ak_VC (as := []) (rest := []) d_BA_takeOut_50 cw_BA_takeOut_50 rfl rfl rfl (ct_BA_spreadGoing hg hc) rfl rfl (by decide) sh_1 rfl (Nat.le_of_ble_eq_true rfl) (by decide) (by decide) ?_
      refine ai_ne (F := am_oC) (tgt := 59) d_BA_takeOut_53 (by decide) (fun c => ?_) (fun c => ?_)
      · have h := h.2 c
        refine am_iinc (j := 3) (v := (x3 + (1 : Int32))) (lv2 := [(3, .int (x3 + (1 : Int32))), (0, .ref 1), (1, .int x1), (2, .int x2)]) d_BA_takeOut_59 rfl rfl (by decide) rfl ?_
        refine am_goto (tgt := 40) d_BA_takeOut_62 (by decide) ?_
        refine am_sub [1, 2, 3, 0] (lv2 := [(0, .ref 1), (1, .int x1), (2, .int x2), (3, .int (x3 + (1 : Int32)))]) rfl ?_
        exact hK40 _ _ _ _ h
      · have h := h.1 c
        exact w_BA_takeOut_56 hg h
def f_BA_takeOut_38  (s : am_M) (x1 : Int32) (x2 : Int32) (x3 : Int32) : Int32 × am_M := (f_BA_takeOut_40 am_F s x1 x2 (0 : Int32))
def p_BA_takeOut_38  (s : am_M) (x1 : Int32) (x2 : Int32) (x3 : Int32) : Prop := (p_BA_takeOut_40 am_F s x1 x2 (0 : Int32))
set_option maxRecDepth 8000 in
theorem w_BA_takeOut_38 {l : Launch} {g : am_Gl} (hg : g.2.2.2.1 = true) {ad0 : Nat → Nat}  {s : am_M} {x1 : Int32} {x2 : Int32} {x3 : Int32} (h : p_BA_takeOut_38  s x1 x2 x3) : AW l g m_BA_takeOut 207 ad0 (am_oC (f_BA_takeOut_38  s x1 x2 x3)) 0 0 207 s 38 [(0, .ref 1), (1, .int x1), (2, .int x2), (3, .int x3)] [] := by
  refine am_iconst (v := (0 : Int32)) d_BA_takeOut_38 (by decide) ?_
  refine am_istore_n (lv2 := [(3, .int (0 : Int32)), (0, .ref 1), (1, .int x1), (2, .int x2)]) d_BA_takeOut_39 rfl (by decide) rfl ?_
  refine am_sub [1, 2, 3, 0] (lv2 := [(0, .ref 1), (1, .int x1), (2, .int x2), (3, .int (0 : Int32))]) rfl ?_
  exact w_BA_takeOut_40 hg am_F _ _ _ _ h
def f_BA_takeOut_2  : Nat → am_M → Int32 → Int32 → Int32 → Int32 × am_M
  | 0, s, x1, x2, x3 => (0, s)
  | n + 1, s, x1, x2, x3 => (if (120 : Int32) ≤ x3 then (f_BA_takeOut_38 s x1 x2 x3) else (if x3 = ((x1 * (30 : Int32)) + x2) then (f_BA_takeOut_31 (f_BA_takeOut_2  n) s x1 x2 x3 x3 (1 : Int32)) else (f_BA_takeOut_31 (f_BA_takeOut_2  n) s x1 x2 x3 x3 (0 : Int32))))
def p_BA_takeOut_2  : Nat → am_M → Int32 → Int32 → Int32 → Prop
  | 0, s, x1, x2, x3 => False
  | n + 1, s, x1, x2, x3 => (((120 : Int32) ≤ x3) → (p_BA_takeOut_38 s x1 x2 x3)) ∧ (¬ ((120 : Int32) ≤ x3) → ((x3 = ((x1 * (30 : Int32)) + x2)) → (p_BA_takeOut_31 (p_BA_takeOut_2  n) s x1 x2 x3 x3 (1 : Int32))) ∧ (¬ (x3 = ((x1 * (30 : Int32)) + x2)) → (p_BA_takeOut_31 (p_BA_takeOut_2  n) s x1 x2 x3 x3 (0 : Int32))))
set_option maxRecDepth 8000 in
theorem w_BA_takeOut_2 {l : Launch} {g : am_Gl} (hg : g.2.2.2.1 = true) {ad0 : Nat → Nat}   : ∀ (n : Nat) (s : am_M) (x1 : Int32) (x2 : Int32) (x3 : Int32), p_BA_takeOut_2  n s x1 x2 x3 → AW l g m_BA_takeOut 207 ad0 (am_oC (f_BA_takeOut_2  n s x1 x2 x3)) 0 0 207 s 2 [(0, .ref 1), (1, .int x1), (2, .int x2), (3, .int x3)] [] := by
  intro n
  induction n with
  | zero => intro s x1 x2 x3 h; exact h.elim
  | succ n hK2 =>
    intro s x1 x2 x3 h
    refine am_iload_n (j := 3) d_BA_takeOut_2 rfl rfl ?_
    refine am_aload_n (j := 0) d_BA_takeOut_3 rfl rfl ?_
    refine am_getR (t := 18) d_BA_takeOut_4 fl_BA_61 hg (by decide) sh_1 (by decide) rfl (by decide) lk_1_14 (by decide) ?_
    refine am_alen (v := (120 : Int32)) d_BA_takeOut_7 (by decide) sh_18 (by decide) (by decide) ?_
    refine aj_ge (F := am_oC) (tgt := 38) d_BA_takeOut_8 (by decide) (fun c => ?_) (fun c => ?_)
    · have h := h.1 c
      exact w_BA_takeOut_38 hg h
    · have h := h.2 c
      refine am_aload_n (j := 0) d_BA_takeOut_11 rfl rfl ?_
      refine am_getR (t := 18) d_BA_takeOut_12 fl_BA_61 hg (by decide) sh_1 (by decide) rfl (by decide) lk_1_14 (by decide) ?_
      refine am_iload_n (j := 3) d_BA_takeOut_15 rfl rfl ?_
      refine am_iload_n (j := 3) d_BA_takeOut_16 rfl rfl ?_
      refine am_iload_n (j := 1) d_BA_takeOut_17 rfl rfl ?_
      refine am_bipush (v := (30 : Int32)) d_BA_takeOut_18 (by decide) ?_
      refine am_imul d_BA_takeOut_20 ?_
      refine am_iload_n (j := 2) d_BA_takeOut_21 rfl rfl ?_
      refine am_iadd d_BA_takeOut_22 ?_
      refine aj_ne (F := am_oC) (tgt := 30) d_BA_takeOut_23 (by decide) (fun c => ?_) (fun c => ?_)
      · have h := h.2 c
        refine am_iconst (v := (0 : Int32)) d_BA_takeOut_30 (by decide) ?_
        exact w_BA_takeOut_31 hg hK2 h
      · have h := h.1 c
        refine am_iconst (v := (1 : Int32)) d_BA_takeOut_26 (by decide) ?_
        refine am_goto (tgt := 31) d_BA_takeOut_27 (by decide) ?_
        exact w_BA_takeOut_31 hg hK2 h
def f_BA_takeOut  (s : am_M) (x1 : Int32) (x2 : Int32) : Int32 × am_M := (f_BA_takeOut_2 am_F s x1 x2 (0 : Int32))
def p_BA_takeOut  (s : am_M) (x1 : Int32) (x2 : Int32) : Prop := (p_BA_takeOut_2 am_F s x1 x2 (0 : Int32))
set_option maxRecDepth 8000 in
theorem w_BA_takeOut {l : Launch} {g : am_Gl} (hg : g.2.2.2.1 = true) {ad0 : Nat → Nat} {s : am_M} {x1 : Int32} {x2 : Int32} (h : p_BA_takeOut s x1 x2) : AW l g m_BA_takeOut 207 ad0 (am_oC (f_BA_takeOut s x1 x2)) 0 0 207 s 0 [(0, .ref 1), (1, .int x1), (2, .int x2)] [] := by
  refine am_iconst (v := (0 : Int32)) d_BA_takeOut_0 (by decide) ?_
  refine am_istore_n (lv2 := [(3, .int (0 : Int32)), (0, .ref 1), (1, .int x1), (2, .int x2)]) d_BA_takeOut_1 rfl (by decide) rfl ?_
  refine am_sub [1, 2, 3, 0] (lv2 := [(0, .ref 1), (1, .int x1), (2, .int x2), (3, .int (0 : Int32))]) rfl ?_
  exact w_BA_takeOut_2 hg am_F _ _ _ _ h
theorem ct_BA_takeOut {l : Launch} {g : am_Gl} (hg : g.2.2.2.1 = true) {s : am_M} {x1 : Int32} {x2 : Int32} (h : p_BA_takeOut s x1 x2) : AC l g m_BA_takeOut 207 s [.ref 1, .int x1, .int x2] (am_oC (f_BA_takeOut s x1 x2)) := am_enter ok_BA_takeOut rfl (Nat.le_of_ble_eq_true rfl) rfl (fun ad0 => w_BA_takeOut hg h)
theorem cw_BA_changeSingle_3 : am_cv m_BA_changeSingle m_BA_column 79 2 := ⟨⟨ok_BA_column, rfl, by decide +kernel, by decide, by decide⟩, aw_2_93, aw_2_94, aw_2_95⟩
theorem cw_BA_changeSingle_16 : am_cv m_BA_changeSingle m_BA_keep 138 0 := ⟨⟨ok_BA_keep, rfl, by decide +kernel, by decide, by decide⟩, aw_2_142, aw_2_144, as_0_8⟩
theorem cw_BA_changeSingle_26 : am_cv m_BA_changeSingle m_BA_settle 141 0 := ⟨⟨ok_BA_settle, rfl, by decide +kernel, by decide, by decide⟩, aw_2_166, aw_2_168, as_0_9⟩
def f_BA_changeSingle  (s : am_M) (x1 : Int32) (x2 : Int32) (x3 : Int32) : Int32 × am_M := (if (f_BA_settle (am_set (f_BA_keep s) (f_BA_column s x1 x2) 6 x3)).1 = 0 then ((f_BA_settle (am_set (f_BA_keep s) (f_BA_column s x1 x2) 6 x3)).1, (am_set (f_BA_settle (am_set (f_BA_keep s) (f_BA_column s x1 x2) 6 x3)).2 (f_BA_column s x1 x2) 6 (s (f_BA_column s x1 x2) 6))) else ((f_BA_settle (am_set (f_BA_keep s) (f_BA_column s x1 x2) 6 x3)).1, (f_BA_settle (am_set (f_BA_keep s) (f_BA_column s x1 x2) 6 x3)).2))
def p_BA_changeSingle  (s : am_M) (x1 : Int32) (x2 : Int32) (x3 : Int32) : Prop := p_BA_column s x1 x2 ∧ (((f_BA_column s x1 x2) < 207 ∧ am_sh (f_BA_column s x1 x2) = (0, 3, 11)) ∧ (p_BA_keep s ∧ ((x3 = 0 ∨ x3 = 1) ∧ (p_BA_settle (am_set (f_BA_keep s) (f_BA_column s x1 x2) 6 x3) ∧ ((((f_BA_settle (am_set (f_BA_keep s) (f_BA_column s x1 x2) 6 x3)).1 = 0) → ((s (f_BA_column s x1 x2) 6) = 0 ∨ (s (f_BA_column s x1 x2) 6) = 1) ∧ (((f_BA_settle (am_set (f_BA_keep s) (f_BA_column s x1 x2) 6 x3)).1 = 0 ∨ (f_BA_settle (am_set (f_BA_keep s) (f_BA_column s x1 x2) 6 x3)).1 = 1) ∧ (True))) ∧ (¬ ((f_BA_settle (am_set (f_BA_keep s) (f_BA_column s x1 x2) 6 x3)).1 = 0) → ((f_BA_settle (am_set (f_BA_keep s) (f_BA_column s x1 x2) 6 x3)).1 = 0 ∨ (f_BA_settle (am_set (f_BA_keep s) (f_BA_column s x1 x2) 6 x3)).1 = 1) ∧ (True)))))))
set_option maxRecDepth 8000 in
theorem w_BA_changeSingle {l : Launch} {g : am_Gl} (hg : g.2.2.2.1 = true) {ad0 : Nat → Nat} {s : am_M} {x1 : Int32} {x2 : Int32} {x3 : Int32} (h : p_BA_changeSingle s x1 x2 x3) : AW l g m_BA_changeSingle 207 ad0 (am_oC (f_BA_changeSingle s x1 x2 x3)) 0 0 207 s 0 [(0, .ref 1), (1, .int x1), (2, .int x2), (3, .int x3)] [] := by
  refine am_aload_n (j := 0) d_BA_changeSingle_0 rfl rfl ?_
  refine am_iload_n (j := 1) d_BA_changeSingle_1 rfl rfl ?_
  refine am_iload_n (j := 2) d_BA_changeSingle_2 rfl rfl ?_
  obtain ⟨hc, h⟩ := h
  refine ak_VR (as := [.int x1, .int x2]) (rest := []) d_BA_changeSingle_3 cw_BA_changeSingle_3 rfl rfl rfl (ct_BA_column hg hc) rfl rfl (by decide) sh_1 rfl (Nat.le_of_ble_eq_true rfl) (by decide) (by decide) ?_
  refine am_astore (lv2 := [(4, .ref (f_BA_column s x1 x2)), (0, .ref 1), (1, .int x1), (2, .int x2), (3, .int x3)]) d_BA_changeSingle_6 (by decide) rfl ?_
  refine am_aload (j := 0) d_BA_changeSingle_8 rfl ?_
  obtain ⟨⟨b1, t1⟩, h⟩ := h
  refine am_getI d_BA_changeSingle_10 fl_BA_151 b1 t1 (by decide) rfl ?_
  refine am_istore (lv2 := [(5, .int (s (f_BA_column s x1 x2) 6)), (4, .ref (f_BA_column s x1 x2)), (0, .ref 1), (1, .int x1), (2, .int x2), (3, .int x3)]) d_BA_changeSingle_13 (by decide) rfl ?_
  refine am_aload_n (j := 2) d_BA_changeSingle_15 rfl rfl ?_
  obtain ⟨hc, h⟩ := h
  refine ak_VM (as := []) (rest := []) d_BA_changeSingle_16 cw_BA_changeSingle_16 rfl rfl rfl (ct_BA_keep hg hc) rfl rfl (by decide) sh_1 rfl (Nat.le_of_ble_eq_true rfl) (by decide) (by decide) ?_
  refine am_aload (j := 1) d_BA_changeSingle_19 rfl ?_
  refine am_iload_n (j := 5) d_BA_changeSingle_21 rfl rfl ?_
  obtain ⟨hz, h⟩ := h
  refine am_putI (ty := .boolean) d_BA_changeSingle_22 fl_BA_151 ft_3_6 b1 t1 (by decide) rfl (am_bool hz).1 (am_bool hz).2 ?_
  refine am_aload_n (j := 2) d_BA_changeSingle_25 rfl rfl ?_
  obtain ⟨hc, h⟩ := h
  refine ak_VC (as := []) (rest := []) d_BA_changeSingle_26 cw_BA_changeSingle_26 rfl rfl rfl (ct_BA_settle hg hc) rfl rfl (by decide) sh_1 rfl (Nat.le_of_ble_eq_true rfl) (by decide) (by decide) ?_
  refine am_istore (lv2 := [(6, .int (f_BA_settle (am_set (f_BA_keep s) (f_BA_column s x1 x2) 6 x3)).1), (5, .int (s (f_BA_column s x1 x2) 6)), (4, .ref (f_BA_column s x1 x2)), (0, .ref 1), (1, .int x1), (2, .int x2), (3, .int x3)]) d_BA_changeSingle_29 (by decide) rfl ?_
  refine am_iload (j := 0) d_BA_changeSingle_31 rfl ?_
  refine ai_ne (F := am_oC) (tgt := 43) d_BA_changeSingle_33 (by decide) (fun c => ?_) (fun c => ?_)
  · have h := h.2 c
    refine am_iload (j := 0) d_BA_changeSingle_43 rfl ?_
    obtain ⟨hz, h⟩ := h
    exact am_iret d_BA_changeSingle_45 rfl (am_bool hz).1 (by decide) (by decide) am_oC_ok
  · have h := h.1 c
    refine am_aload (j := 2) d_BA_changeSingle_36 rfl ?_
    refine am_iload (j := 1) d_BA_changeSingle_38 rfl ?_
    obtain ⟨hz, h⟩ := h
    refine am_putI (ty := .boolean) d_BA_changeSingle_40 fl_BA_151 ft_3_6 b1 t1 (by decide) rfl (am_bool hz).1 (am_bool hz).2 ?_
    refine am_iload (j := 0) d_BA_changeSingle_43 rfl ?_
    obtain ⟨hz, h⟩ := h
    exact am_iret d_BA_changeSingle_45 rfl (am_bool hz).1 (by decide) (by decide) am_oC_ok
theorem ct_BA_changeSingle {l : Launch} {g : am_Gl} (hg : g.2.2.2.1 = true) {s : am_M} {x1 : Int32} {x2 : Int32} {x3 : Int32} (h : p_BA_changeSingle s x1 x2 x3) : AC l g m_BA_changeSingle 207 s [.ref 1, .int x1, .int x2, .int x3] (am_oC (f_BA_changeSingle s x1 x2 x3)) := am_enter ok_BA_changeSingle rfl (Nat.le_of_ble_eq_true rfl) rfl (fun ad0 => w_BA_changeSingle hg h)
theorem cw_BA_countOutside_20 : am_cv m_BA_countOutside m_RO_has 155 2 := ⟨⟨ok_RO_has, rfl, by decide +kernel, by decide, by decide⟩, aw_2_183, aw_2_184, aw_2_185⟩
theorem cw_BA_countOutside_35 : am_cv m_BA_countOutside m_RO_get 159 3 := ⟨⟨ok_RO_get, rfl, by decide +kernel, by decide, by decide⟩, aw_2_179, aw_2_180, aw_2_181⟩
theorem cw_BA_countOutside_41 : am_cv m_BA_countOutside m_BA_isOutside 163 3 := ⟨⟨ok_BA_isOutside, rfl, by decide +kernel, by decide, by decide⟩, aw_2_219, aw_2_221, as_0_14⟩
def f_BA_countOutside_50 (K6 : Int32 → Int32 → Int32 → Int32 → Int32 → Int32 → Int32) (s : am_M) (x1 : Int32) (x2 : Int32) (x3 : Int32) (x4 : Int32) (x5 : Int32) (x6 : Int32) : Int32 := (K6 x1 x2 x3 x4 x5 (x6 + (1 : Int32)))
def p_BA_countOutside_50 (KP6 : Int32 → Int32 → Int32 → Int32 → Int32 → Int32 → Prop) (s : am_M) (x1 : Int32) (x2 : Int32) (x3 : Int32) (x4 : Int32) (x5 : Int32) (x6 : Int32) : Prop := (KP6 x1 x2 x3 x4 x5 (x6 + (1 : Int32)))
set_option maxRecDepth 8000 in
theorem w_BA_countOutside_50 {l : Launch} {g : am_Gl} (hg : g.2.2.2.1 = true) {ad0 : Nat → Nat} {s : am_M} {K6 : Int32 → Int32 → Int32 → Int32 → Int32 → Int32 → Int32} {KP6 : Int32 → Int32 → Int32 → Int32 → Int32 → Int32 → Prop} (hK6 : ∀ (x1 : Int32) (x2 : Int32) (x3 : Int32) (x4 : Int32) (x5 : Int32) (x6 : Int32), KP6 x1 x2 x3 x4 x5 x6 → AW l g m_BA_countOutside 207 ad0 ((am_oI s) (K6 x1 x2 x3 x4 x5 x6)) 0 0 207 s 6 [(0, .ref 1), (1, .int x1), (2, .int x2), (3, .int x3), (4, .int x4), (5, .int x5), (6, .int x6)] []) {x1 : Int32} {x2 : Int32} {x3 : Int32} {x4 : Int32} {x5 : Int32} {x6 : Int32} (h : p_BA_countOutside_50 KP6 s x1 x2 x3 x4 x5 x6) : AW l g m_BA_countOutside 207 ad0 ((am_oI s) (f_BA_countOutside_50 K6 s x1 x2 x3 x4 x5 x6)) 0 0 207 s 50 [(0, .ref 1), (1, .int x1), (2, .int x2), (3, .int x3), (4, .int x4), (5, .int x5), (6, .int x6)] [] := by
  refine am_iinc (j := 6) (v := (x6 + (1 : Int32))) (lv2 := [(6, .int (x6 + (1 : Int32))), (0, .ref 1), (1, .int x1), (2, .int x2), (3, .int x3), (4, .int x4), (5, .int x5)]) d_BA_countOutside_50 rfl rfl (by decide) rfl ?_
  refine am_goto (tgt := 6) d_BA_countOutside_53 (by decide) ?_
  refine am_sub [1, 2, 3, 4, 5, 6, 0] (lv2 := [(0, .ref 1), (1, .int x1), (2, .int x2), (3, .int x3), (4, .int x4), (5, .int x5), (6, .int (x6 + (1 : Int32)))]) rfl ?_
  exact hK6 _ _ _ _ _ _ h
def f_BA_countOutside_6  : Nat → am_M → Int32 → Int32 → Int32 → Int32 → Int32 → Int32 → Int32
  | 0, s, x1, x2, x3, x4, x5, x6 => 0
  | n + 1, s, x1, x2, x3, x4, x5, x6 => (if (30 : Int32) ≤ x6 then x5 else (if (f_RO_has s 8 x1 x6) = 0 then (f_BA_countOutside_50 (f_BA_countOutside_6  n s) s x1 x2 x3 x4 x5 x6) else (if (f_BA_isOutside s (f_RO_get s 8 x1 x6 x2) x3 x4) = 0 then (f_BA_countOutside_50 (f_BA_countOutside_6  n s) s x1 x2 x3 x4 x5 x6) else (f_BA_countOutside_50 (f_BA_countOutside_6  n s) s x1 x2 x3 x4 (x5 + (1 : Int32)) x6))))
def p_BA_countOutside_6  : Nat → am_M → Int32 → Int32 → Int32 → Int32 → Int32 → Int32 → Prop
  | 0, s, x1, x2, x3, x4, x5, x6 => False
  | n + 1, s, x1, x2, x3, x4, x5, x6 => (((30 : Int32) ≤ x6) → True) ∧ (¬ ((30 : Int32) ≤ x6) → p_RO_has s 8 x1 x6 ∧ ((((f_RO_has s 8 x1 x6) = 0) → (p_BA_countOutside_50 (p_BA_countOutside_6  n s) s x1 x2 x3 x4 x5 x6)) ∧ (¬ ((f_RO_has s 8 x1 x6) = 0) → p_RO_get s 8 x1 x6 x2 ∧ ((((f_BA_isOutside s (f_RO_get s 8 x1 x6 x2) x3 x4) = 0) → (p_BA_countOutside_50 (p_BA_countOutside_6  n s) s x1 x2 x3 x4 x5 x6)) ∧ (¬ ((f_BA_isOutside s (f_RO_get s 8 x1 x6 x2) x3 x4) = 0) → (p_BA_countOutside_50 (p_BA_countOutside_6  n s) s x1 x2 x3 x4 (x5 + (1 : Int32)) x6))))))
set_option maxRecDepth 8000 in
theorem w_BA_countOutside_6 {l : Launch} {g : am_Gl} (hg : g.2.2.2.1 = true) {ad0 : Nat → Nat} {s : am_M}   : ∀ (n : Nat) (x1 : Int32) (x2 : Int32) (x3 : Int32) (x4 : Int32) (x5 : Int32) (x6 : Int32), p_BA_countOutside_6  n s x1 x2 x3 x4 x5 x6 → AW l g m_BA_countOutside 207 ad0 ((am_oI s) (f_BA_countOutside_6  n s x1 x2 x3 x4 x5 x6)) 0 0 207 s 6 [(0, .ref 1), (1, .int x1), (2, .int x2), (3, .int x3), (4, .int x4), (5, .int x5), (6, .int x6)] [] := by
  intro n
  induction n with
  | zero => intro x1 x2 x3 x4 x5 x6 h; exact h.elim
  | succ n hK6 =>
    intro x1 x2 x3 x4 x5 x6 h
    refine am_iload (j := 6) d_BA_countOutside_6 rfl ?_
    refine am_bipush (v := (30 : Int32)) d_BA_countOutside_8 (by decide) ?_
    refine aj_ge (F := (am_oI s)) (tgt := 56) d_BA_countOutside_10 (by decide) (fun c => ?_) (fun c => ?_)
    · have h := h.1 c
      refine am_iload (j := 5) d_BA_countOutside_56 rfl ?_
      exact am_iret d_BA_countOutside_58 rfl rfl (by decide) (by decide) am_oI_ok
    · have h := h.2 c
      refine am_aload_n (j := 0) d_BA_countOutside_13 rfl rfl ?_
      refine am_getR (t := 8) d_BA_countOutside_14 fl_BA_43 hg (by decide) sh_1 (by decide) rfl (by decide) lk_1_9 (by decide) ?_
      refine am_iload_n (j := 1) d_BA_countOutside_17 rfl rfl ?_
      refine am_iload (j := 6) d_BA_countOutside_18 rfl ?_
      obtain ⟨hc, h⟩ := h
      refine ak_VI (as := [.int x1, .int x6]) (rest := []) d_BA_countOutside_20 cw_BA_countOutside_20 rfl rfl rfl (ct_RO_has hg hc) rfl rfl (by decide) sh_8 rfl (Nat.le_of_ble_eq_true rfl) (by decide) (by decide) ?_
      refine ai_eq (F := (am_oI s)) (tgt := 50) d_BA_countOutside_23 (by decide) (fun c => ?_) (fun c => ?_)
      · have h := h.1 c
        exact w_BA_countOutside_50 hg hK6 h
      · have h := h.2 c
        refine am_aload_n (j := 0) d_BA_countOutside_26 rfl rfl ?_
        refine am_aload_n (j := 0) d_BA_countOutside_27 rfl rfl ?_
        refine am_getR (t := 8) d_BA_countOutside_28 fl_BA_43 hg (by decide) sh_1 (by decide) rfl (by decide) lk_1_9 (by decide) ?_
        refine am_iload_n (j := 1) d_BA_countOutside_31 rfl rfl ?_
        refine am_iload (j := 6) d_BA_countOutside_32 rfl ?_
        refine am_iload_n (j := 2) d_BA_countOutside_34 rfl rfl ?_
        obtain ⟨hc, h⟩ := h
        refine ak_VI (as := [.int x1, .int x6, .int x2]) (rest := [.ref 1]) d_BA_countOutside_35 cw_BA_countOutside_35 rfl rfl rfl (ct_RO_get hg hc) rfl rfl (by decide) sh_8 rfl (Nat.le_of_ble_eq_true rfl) (by decide) (by decide) ?_
        refine am_iload_n (j := 3) d_BA_countOutside_38 rfl rfl ?_
        refine am_iload (j := 4) d_BA_countOutside_39 rfl ?_
        refine ak_VI (as := [.int (f_RO_get s 8 x1 x6 x2), .int x3, .int x4]) (rest := []) d_BA_countOutside_41 cw_BA_countOutside_41 rfl rfl rfl (ct_BA_isOutside hg) rfl rfl (by decide) sh_1 rfl (Nat.le_of_ble_eq_true rfl) (by decide) (by decide) ?_
        refine ai_eq (F := (am_oI s)) (tgt := 50) d_BA_countOutside_44 (by decide) (fun c => ?_) (fun c => ?_)
        · have h := h.1 c
          exact w_BA_countOutside_50 hg hK6 h
        · have h := h.2 c
          refine am_iinc (j := 5) (v := (x5 + (1 : Int32))) (lv2 := [(5, .int (x5 + (1 : Int32))), (0, .ref 1), (1, .int x1), (2, .int x2), (3, .int x3), (4, .int x4), (6, .int x6)]) d_BA_countOutside_47 rfl rfl (by decide) rfl ?_
          refine am_sub [1, 2, 3, 4, 5, 0, 6] (lv2 := [(0, .ref 1), (1, .int x1), (2, .int x2), (3, .int x3), (4, .int x4), (5, .int (x5 + (1 : Int32))), (6, .int x6)]) rfl ?_
          exact w_BA_countOutside_50 hg hK6 h
def f_BA_countOutside  (s : am_M) (x1 : Int32) (x2 : Int32) (x3 : Int32) (x4 : Int32) : Int32 := (f_BA_countOutside_6 am_F s x1 x2 x3 x4 (0 : Int32) (0 : Int32))
def p_BA_countOutside  (s : am_M) (x1 : Int32) (x2 : Int32) (x3 : Int32) (x4 : Int32) : Prop := (p_BA_countOutside_6 am_F s x1 x2 x3 x4 (0 : Int32) (0 : Int32))
set_option maxRecDepth 8000 in
theorem w_BA_countOutside {l : Launch} {g : am_Gl} (hg : g.2.2.2.1 = true) {ad0 : Nat → Nat} {s : am_M} {x1 : Int32} {x2 : Int32} {x3 : Int32} {x4 : Int32} (h : p_BA_countOutside s x1 x2 x3 x4) : AW l g m_BA_countOutside 207 ad0 ((am_oI s) (f_BA_countOutside s x1 x2 x3 x4)) 0 0 207 s 0 [(0, .ref 1), (1, .int x1), (2, .int x2), (3, .int x3), (4, .int x4)] [] := by
  refine am_iconst (v := (0 : Int32)) d_BA_countOutside_0 (by decide) ?_
  refine am_istore (lv2 := [(5, .int (0 : Int32)), (0, .ref 1), (1, .int x1), (2, .int x2), (3, .int x3), (4, .int x4)]) d_BA_countOutside_1 (by decide) rfl ?_
  refine am_iconst (v := (0 : Int32)) d_BA_countOutside_3 (by decide) ?_
  refine am_istore (lv2 := [(6, .int (0 : Int32)), (5, .int (0 : Int32)), (0, .ref 1), (1, .int x1), (2, .int x2), (3, .int x3), (4, .int x4)]) d_BA_countOutside_4 (by decide) rfl ?_
  refine am_sub [2, 3, 4, 5, 6, 1, 0] (lv2 := [(0, .ref 1), (1, .int x1), (2, .int x2), (3, .int x3), (4, .int x4), (5, .int (0 : Int32)), (6, .int (0 : Int32))]) rfl ?_
  exact w_BA_countOutside_6 hg am_F _ _ _ _ _ _ h
theorem ct_BA_countOutside {l : Launch} {g : am_Gl} (hg : g.2.2.2.1 = true) {s : am_M} {x1 : Int32} {x2 : Int32} {x3 : Int32} {x4 : Int32} (h : p_BA_countOutside s x1 x2 x3 x4) : AC l g m_BA_countOutside 207 s [.ref 1, .int x1, .int x2, .int x3, .int x4] ((am_oI s) (f_BA_countOutside s x1 x2 x3 x4)) := am_enter ok_BA_countOutside rfl (Nat.le_of_ble_eq_true rfl) rfl (fun ad0 => w_BA_countOutside hg h)
theorem cw_BA_countFilled_19 : am_cv m_BA_countFilled m_RO_has 155 2 := ⟨⟨ok_RO_has, rfl, by decide +kernel, by decide, by decide⟩, aw_2_183, aw_2_184, aw_2_185⟩
theorem cw_BA_countFilled_33 : am_cv m_BA_countFilled m_RO_get 159 3 := ⟨⟨ok_RO_get, rfl, by decide +kernel, by decide, by decide⟩, aw_2_179, aw_2_180, aw_2_181⟩
def f_BA_countFilled_44 (K5 : Int32 → Int32 → Int32 → Int32 → Int32) (s : am_M) (x1 : Int32) (x2 : Int32) (x3 : Int32) (x4 : Int32) : Int32 := (K5 x1 x2 x3 (x4 + (1 : Int32)))
def p_BA_countFilled_44 (KP5 : Int32 → Int32 → Int32 → Int32 → Prop) (s : am_M) (x1 : Int32) (x2 : Int32) (x3 : Int32) (x4 : Int32) : Prop := (KP5 x1 x2 x3 (x4 + (1 : Int32)))
set_option maxRecDepth 8000 in
theorem w_BA_countFilled_44 {l : Launch} {g : am_Gl} (hg : g.2.2.2.1 = true) {ad0 : Nat → Nat} {s : am_M} {K5 : Int32 → Int32 → Int32 → Int32 → Int32} {KP5 : Int32 → Int32 → Int32 → Int32 → Prop} (hK5 : ∀ (x1 : Int32) (x2 : Int32) (x3 : Int32) (x4 : Int32), KP5 x1 x2 x3 x4 → AW l g m_BA_countFilled 207 ad0 ((am_oI s) (K5 x1 x2 x3 x4)) 0 0 207 s 5 [(0, .ref 1), (1, .int x1), (2, .int x2), (3, .int x3), (4, .int x4)] []) {x1 : Int32} {x2 : Int32} {x3 : Int32} {x4 : Int32} (h : p_BA_countFilled_44 KP5 s x1 x2 x3 x4) : AW l g m_BA_countFilled 207 ad0 ((am_oI s) (f_BA_countFilled_44 K5 s x1 x2 x3 x4)) 0 0 207 s 44 [(0, .ref 1), (1, .int x1), (2, .int x2), (3, .int x3), (4, .int x4)] [] := by
  refine am_iinc (j := 4) (v := (x4 + (1 : Int32))) (lv2 := [(4, .int (x4 + (1 : Int32))), (0, .ref 1), (1, .int x1), (2, .int x2), (3, .int x3)]) d_BA_countFilled_44 rfl rfl (by decide) rfl ?_
  refine am_goto (tgt := 5) d_BA_countFilled_47 (by decide) ?_
  refine am_sub [1, 2, 3, 4, 0] (lv2 := [(0, .ref 1), (1, .int x1), (2, .int x2), (3, .int x3), (4, .int (x4 + (1 : Int32)))]) rfl ?_
  exact hK5 _ _ _ _ h
def f_BA_countFilled_5  : Nat → am_M → Int32 → Int32 → Int32 → Int32 → Int32
  | 0, s, x1, x2, x3, x4 => 0
  | n + 1, s, x1, x2, x3, x4 => (if (30 : Int32) ≤ x4 then x3 else (if (f_RO_has s 8 x1 x4) = 0 then (f_BA_countFilled_44 (f_BA_countFilled_5  n s) s x1 x2 x3 x4) else (if (f_RO_get s 8 x1 x4 x2) = (-1000000 : Int32) then (f_BA_countFilled_44 (f_BA_countFilled_5  n s) s x1 x2 x3 x4) else (f_BA_countFilled_44 (f_BA_countFilled_5  n s) s x1 x2 (x3 + (1 : Int32)) x4))))
def p_BA_countFilled_5  : Nat → am_M → Int32 → Int32 → Int32 → Int32 → Prop
  | 0, s, x1, x2, x3, x4 => False
  | n + 1, s, x1, x2, x3, x4 => (((30 : Int32) ≤ x4) → True) ∧ (¬ ((30 : Int32) ≤ x4) → p_RO_has s 8 x1 x4 ∧ ((((f_RO_has s 8 x1 x4) = 0) → (p_BA_countFilled_44 (p_BA_countFilled_5  n s) s x1 x2 x3 x4)) ∧ (¬ ((f_RO_has s 8 x1 x4) = 0) → p_RO_get s 8 x1 x4 x2 ∧ ((((f_RO_get s 8 x1 x4 x2) = (-1000000 : Int32)) → (p_BA_countFilled_44 (p_BA_countFilled_5  n s) s x1 x2 x3 x4)) ∧ (¬ ((f_RO_get s 8 x1 x4 x2) = (-1000000 : Int32)) → (p_BA_countFilled_44 (p_BA_countFilled_5  n s) s x1 x2 (x3 + (1 : Int32)) x4))))))
set_option maxRecDepth 8000 in
theorem w_BA_countFilled_5 {l : Launch} {g : am_Gl} (hg : g.2.2.2.1 = true) {ad0 : Nat → Nat} {s : am_M}   : ∀ (n : Nat) (x1 : Int32) (x2 : Int32) (x3 : Int32) (x4 : Int32), p_BA_countFilled_5  n s x1 x2 x3 x4 → AW l g m_BA_countFilled 207 ad0 ((am_oI s) (f_BA_countFilled_5  n s x1 x2 x3 x4)) 0 0 207 s 5 [(0, .ref 1), (1, .int x1), (2, .int x2), (3, .int x3), (4, .int x4)] [] := by
  intro n
  induction n with
  | zero => intro x1 x2 x3 x4 h; exact h.elim
  | succ n hK5 =>
    intro x1 x2 x3 x4 h
    refine am_iload (j := 4) d_BA_countFilled_5 rfl ?_
    refine am_bipush (v := (30 : Int32)) d_BA_countFilled_7 (by decide) ?_
    refine aj_ge (F := (am_oI s)) (tgt := 50) d_BA_countFilled_9 (by decide) (fun c => ?_) (fun c => ?_)
    · have h := h.1 c
      refine am_iload_n (j := 3) d_BA_countFilled_50 rfl rfl ?_
      exact am_iret d_BA_countFilled_51 rfl rfl (by decide) (by decide) am_oI_ok
    · have h := h.2 c
      refine am_aload_n (j := 0) d_BA_countFilled_12 rfl rfl ?_
      refine am_getR (t := 8) d_BA_countFilled_13 fl_BA_43 hg (by decide) sh_1 (by decide) rfl (by decide) lk_1_9 (by decide) ?_
      refine am_iload_n (j := 1) d_BA_countFilled_16 rfl rfl ?_
      refine am_iload (j := 4) d_BA_countFilled_17 rfl ?_
      obtain ⟨hc, h⟩ := h
      refine ak_VI (as := [.int x1, .int x4]) (rest := []) d_BA_countFilled_19 cw_BA_countFilled_19 rfl rfl rfl (ct_RO_has hg hc) rfl rfl (by decide) sh_8 rfl (Nat.le_of_ble_eq_true rfl) (by decide) (by decide) ?_
      refine ai_eq (F := (am_oI s)) (tgt := 44) d_BA_countFilled_22 (by decide) (fun c => ?_) (fun c => ?_)
      · have h := h.1 c
        exact w_BA_countFilled_44 hg hK5 h
      · have h := h.2 c
        refine am_aload_n (j := 0) d_BA_countFilled_25 rfl rfl ?_
        refine am_getR (t := 8) d_BA_countFilled_26 fl_BA_43 hg (by decide) sh_1 (by decide) rfl (by decide) lk_1_9 (by decide) ?_
        refine am_iload_n (j := 1) d_BA_countFilled_29 rfl rfl ?_
        refine am_iload (j := 4) d_BA_countFilled_30 rfl ?_
        refine am_iload_n (j := 2) d_BA_countFilled_32 rfl rfl ?_
        obtain ⟨hc, h⟩ := h
        refine ak_VI (as := [.int x1, .int x4, .int x2]) (rest := []) d_BA_countFilled_33 cw_BA_countFilled_33 rfl rfl rfl (ct_RO_get hg hc) rfl rfl (by decide) sh_8 rfl (Nat.le_of_ble_eq_true rfl) (by decide) (by decide) ?_
        refine am_ldc (v := (-1000000 : Int32)) d_BA_countFilled_36 aw_2_161 ?_
        refine aj_eq (F := (am_oI s)) (tgt := 44) d_BA_countFilled_38 (by decide) (fun c => ?_) (fun c => ?_)
        · have h := h.1 c
          exact w_BA_countFilled_44 hg hK5 h
        · have h := h.2 c
          refine am_iinc (j := 3) (v := (x3 + (1 : Int32))) (lv2 := [(3, .int (x3 + (1 : Int32))), (0, .ref 1), (1, .int x1), (2, .int x2), (4, .int x4)]) d_BA_countFilled_41 rfl rfl (by decide) rfl ?_
          refine am_sub [1, 2, 3, 0, 4] (lv2 := [(0, .ref 1), (1, .int x1), (2, .int x2), (3, .int (x3 + (1 : Int32))), (4, .int x4)]) rfl ?_
          exact w_BA_countFilled_44 hg hK5 h
def f_BA_countFilled  (s : am_M) (x1 : Int32) (x2 : Int32) : Int32 := (f_BA_countFilled_5 am_F s x1 x2 (0 : Int32) (0 : Int32))
def p_BA_countFilled  (s : am_M) (x1 : Int32) (x2 : Int32) : Prop := (p_BA_countFilled_5 am_F s x1 x2 (0 : Int32) (0 : Int32))
set_option maxRecDepth 8000 in
theorem w_BA_countFilled {l : Launch} {g : am_Gl} (hg : g.2.2.2.1 = true) {ad0 : Nat → Nat} {s : am_M} {x1 : Int32} {x2 : Int32} (h : p_BA_countFilled s x1 x2) : AW l g m_BA_countFilled 207 ad0 ((am_oI s) (f_BA_countFilled s x1 x2)) 0 0 207 s 0 [(0, .ref 1), (1, .int x1), (2, .int x2)] [] := by
  refine am_iconst (v := (0 : Int32)) d_BA_countFilled_0 (by decide) ?_
  refine am_istore_n (lv2 := [(3, .int (0 : Int32)), (0, .ref 1), (1, .int x1), (2, .int x2)]) d_BA_countFilled_1 rfl (by decide) rfl ?_
  refine am_iconst (v := (0 : Int32)) d_BA_countFilled_2 (by decide) ?_
  refine am_istore (lv2 := [(4, .int (0 : Int32)), (3, .int (0 : Int32)), (0, .ref 1), (1, .int x1), (2, .int x2)]) d_BA_countFilled_3 (by decide) rfl ?_
  refine am_sub [2, 3, 4, 1, 0] (lv2 := [(0, .ref 1), (1, .int x1), (2, .int x2), (3, .int (0 : Int32)), (4, .int (0 : Int32))]) rfl ?_
  exact w_BA_countFilled_5 hg am_F _ _ _ _ h
theorem ct_BA_countFilled {l : Launch} {g : am_Gl} (hg : g.2.2.2.1 = true) {s : am_M} {x1 : Int32} {x2 : Int32} (h : p_BA_countFilled s x1 x2) : AC l g m_BA_countFilled 207 s [.ref 1, .int x1, .int x2] ((am_oI s) (f_BA_countFilled s x1 x2)) := am_enter ok_BA_countFilled rfl (Nat.le_of_ble_eq_true rfl) rfl (fun ad0 => w_BA_countFilled hg h)
end

noncomputable section
theorem cw_LH_isChoiceSo_1 : am_cv m_LH_isChoiceSo m_CB_reason 181 0 := ⟨⟨ok_CB_reason, rfl, by decide +kernel, by decide, by decide⟩, aw_5_83, aw_5_84, aw_5_85⟩
theorem cw_LH_isChoiceSo_16 : am_sh9 m_LH_isChoiceSo m_LH_sets 163 8 := ⟨ok_LH_sets, ⟨_, rfl⟩, by decide +kernel, by decide, by decide, aw_3_221, aw_3_222⟩
theorem cw_LH_isChoiceSo_31 : am_sh9 m_LH_isChoiceSo m_LH_sets 163 8 := ⟨ok_LH_sets, ⟨_, rfl⟩, by decide +kernel, by decide, by decide, aw_3_221, aw_3_222⟩
theorem cw_LH_isChoiceSo_40 : am_cv m_LH_isChoiceSo m_CB_reason 181 0 := ⟨⟨ok_CB_reason, rfl, by decide +kernel, by decide, by decide⟩, aw_5_83, aw_5_84, aw_5_85⟩
theorem cw_LH_isChoiceSo_86 : am_sh9 m_LH_isChoiceSo m_LH_sets 163 8 := ⟨ok_LH_sets, ⟨_, rfl⟩, by decide +kernel, by decide, by decide, aw_3_221, aw_3_222⟩
theorem cw_LH_isChoiceSo_105 : am_sh9 m_LH_isChoiceSo m_LH_sets 163 8 := ⟨ok_LH_sets, ⟨_, rfl⟩, by decide +kernel, by decide, by decide, aw_3_221, aw_3_222⟩
theorem cw_LH_isChoiceSo_134 : am_sh9 m_LH_isChoiceSo m_LH_sets 163 8 := ⟨ok_LH_sets, ⟨_, rfl⟩, by decide +kernel, by decide, by decide, aw_3_221, aw_3_222⟩
theorem cw_LH_isChoiceSo_152 : am_sh9 m_LH_isChoiceSo m_LH_sets 163 8 := ⟨ok_LH_sets, ⟨_, rfl⟩, by decide +kernel, by decide, by decide, aw_3_221, aw_3_222⟩
theorem cw_LH_isChoiceSo_164 : am_cv m_LH_isChoiceSo m_CB_cell 101 3 := ⟨⟨ok_CB_cell, rfl, by decide +kernel, by decide, by decide⟩, aw_4_144, aw_4_145, aw_4_146⟩
def f_LH_isChoiceSo_116  (s : am_M) (t : am_M) (x2 : Int32) (x3 : Int32) (x4 : Int32) (x5 : Int32) (x6 : Int32) (x7 : Int32) (y0 : Int32) : Int32 × am_M × am_M := (if y0 = 0 then ((0 : Int32), s, t) else (if (f_LH_sets s (8 : Int32) x2 x3 x4 x6 (0 : Int32) (0 : Int32)).1 = (1 : Int32) then (if (f_LH_sets t (8 : Int32) x2 x3 x4 x6 (0 : Int32) (0 : Int32)).1 = (1 : Int32) then (if (f_CB_cell (f_LH_sets s (8 : Int32) x2 x3 x4 x6 (0 : Int32) (0 : Int32)).2 x2 x3 x4).2.1 = x6 then ((1 : Int32), (f_CB_cell (f_LH_sets s (8 : Int32) x2 x3 x4 x6 (0 : Int32) (0 : Int32)).2 x2 x3 x4).2.2, (f_LH_sets t (8 : Int32) x2 x3 x4 x6 (0 : Int32) (0 : Int32)).2) else ((0 : Int32), (f_CB_cell (f_LH_sets s (8 : Int32) x2 x3 x4 x6 (0 : Int32) (0 : Int32)).2 x2 x3 x4).2.2, (f_LH_sets t (8 : Int32) x2 x3 x4 x6 (0 : Int32) (0 : Int32)).2)) else ((0 : Int32), (f_LH_sets s (8 : Int32) x2 x3 x4 x6 (0 : Int32) (0 : Int32)).2, (f_LH_sets t (8 : Int32) x2 x3 x4 x6 (0 : Int32) (0 : Int32)).2)) else ((0 : Int32), (f_LH_sets s (8 : Int32) x2 x3 x4 x6 (0 : Int32) (0 : Int32)).2, t)))
def p_LH_isChoiceSo_116  (s : am_M) (t : am_M) (x2 : Int32) (x3 : Int32) (x4 : Int32) (x5 : Int32) (x6 : Int32) (x7 : Int32) (y0 : Int32) : Prop := ((y0 = 0) → True) ∧ (¬ (y0 = 0) → p_LH_sets s (8 : Int32) x2 x3 x4 x6 (0 : Int32) (0 : Int32) ∧ ((((f_LH_sets s (8 : Int32) x2 x3 x4 x6 (0 : Int32) (0 : Int32)).1 = (1 : Int32)) → p_LH_sets t (8 : Int32) x2 x3 x4 x6 (0 : Int32) (0 : Int32) ∧ ((((f_LH_sets t (8 : Int32) x2 x3 x4 x6 (0 : Int32) (0 : Int32)).1 = (1 : Int32)) → p_CB_cell (f_LH_sets s (8 : Int32) x2 x3 x4 x6 (0 : Int32) (0 : Int32)).2 x2 x3 x4 ∧ ((f_CB_cell (f_LH_sets s (8 : Int32) x2 x3 x4 x6 (0 : Int32) (0 : Int32)).2 x2 x3 x4).1 = 0 ∧ ((((f_CB_cell (f_LH_sets s (8 : Int32) x2 x3 x4 x6 (0 : Int32) (0 : Int32)).2 x2 x3 x4).2.1 = x6) → True) ∧ (¬ ((f_CB_cell (f_LH_sets s (8 : Int32) x2 x3 x4 x6 (0 : Int32) (0 : Int32)).2 x2 x3 x4).2.1 = x6) → True)))) ∧ (¬ ((f_LH_sets t (8 : Int32) x2 x3 x4 x6 (0 : Int32) (0 : Int32)).1 = (1 : Int32)) → True))) ∧ (¬ ((f_LH_sets s (8 : Int32) x2 x3 x4 x6 (0 : Int32) (0 : Int32)).1 = (1 : Int32)) → True)))
set_option maxRecDepth 100000 in
theorem w_LH_isChoiceSo_116 {l : Launch} {g : am_Gl} (hg : g.2.2.2.1 = true) {ad0 : Nat → Nat}  {s : am_M} {t : am_M} {x2 : Int32} {x3 : Int32} {x4 : Int32} {x5 : Int32} {x6 : Int32} {x7 : Int32} {y0 : Int32} {k z : Nat} (hk : k ≤ 64) (hz : z ≤ 384) (h : p_LH_isChoiceSo_116  s t x2 x3 x4 x5 x6 x7 y0) : AW l g m_LH_isChoiceSo 414 ad0 (am_oC2 (f_LH_isChoiceSo_116  s t x2 x3 x4 x5 x6 x7 y0)) k z 414 (jn s t) 116 [(0, .ref 0), (1, .ref 207), (2, .int x2), (3, .int x3), (4, .int x4), (5, .int x5), (6, .int x6), (7, .int x7)] [.int y0] := by
  refine am_istore (lv2 := [(7, .int y0), (0, .ref 0), (1, .ref 207), (2, .int x2), (3, .int x3), (4, .int x4), (5, .int x5), (6, .int x6)]) d_LH_isChoiceSo_116 (by decide) rfl ?_
  refine am_iload (j := 0) d_LH_isChoiceSo_118 rfl ?_
  refine ai_eq (F := am_oC2) (tgt := 176) d_LH_isChoiceSo_120 (by decide) (fun c => ?_) (fun c => ?_)
  · have h := h.1 c
    refine am_iconst (v := (0 : Int32)) d_LH_isChoiceSo_176 (by decide) ?_
    exact am_iret d_LH_isChoiceSo_177 rfl (am_bool (Or.inl rfl)).1 (by show k ≤ 98; omega) (by show z ≤ 588; omega) am_oC2_ok
  · have h := h.2 c
    refine am_aload_n (j := 1) d_LH_isChoiceSo_123 rfl rfl ?_
    refine am_bipush (v := (8 : Int32)) d_LH_isChoiceSo_124 (by decide) ?_
    refine am_iload_n (j := 3) d_LH_isChoiceSo_126 rfl rfl ?_
    refine am_iload_n (j := 4) d_LH_isChoiceSo_127 rfl rfl ?_
    refine am_iload (j := 5) d_LH_isChoiceSo_128 rfl ?_
    refine am_iload (j := 7) d_LH_isChoiceSo_130 rfl ?_
    refine am_iconst (v := (0 : Int32)) d_LH_isChoiceSo_132 (by decide) ?_
    refine am_iconst (v := (0 : Int32)) d_LH_isChoiceSo_133 (by decide) ?_
    obtain ⟨hc, h⟩ := h
    refine ak9_SX (as := [.ref 0, .int (8 : Int32), .int x2, .int x3, .int x4, .int x6, .int (0 : Int32), .int (0 : Int32)]) (rest := []) d_LH_isChoiceSo_134 cw_LH_isChoiceSo_134 rfl (am_2O hg rfl (fun A9 => am_1C (ct_LH_sets (g := am_ga g A9) hg hc))) rfl rfl (Nat.le_of_ble_eq_true rfl) (by show k + 16 ≤ 98; omega) (by show z + 96 ≤ 588; omega) ?_
    refine am_iconst (v := (1 : Int32)) d_LH_isChoiceSo_137 (by decide) ?_
    refine aj_ne (F := am_oC2) (tgt := 176) d_LH_isChoiceSo_138 (by decide) (fun c => ?_) (fun c => ?_)
    · have h := h.2 c
      refine am_iconst (v := (0 : Int32)) d_LH_isChoiceSo_176 (by decide) ?_
      exact am_iret d_LH_isChoiceSo_177 rfl (am_bool (Or.inl rfl)).1 (by show k + 16 ≤ 98; omega) (by show z + 96 ≤ 588; omega) am_oC2_ok
    · have h := h.1 c
      refine am_aload_n (j := 2) d_LH_isChoiceSo_141 rfl rfl ?_
      refine am_bipush (v := (8 : Int32)) d_LH_isChoiceSo_142 (by decide) ?_
      refine am_iload_n (j := 3) d_LH_isChoiceSo_144 rfl rfl ?_
      refine am_iload_n (j := 4) d_LH_isChoiceSo_145 rfl rfl ?_
      refine am_iload (j := 5) d_LH_isChoiceSo_146 rfl ?_
      refine am_iload (j := 7) d_LH_isChoiceSo_148 rfl ?_
      refine am_iconst (v := (0 : Int32)) d_LH_isChoiceSo_150 (by decide) ?_
      refine am_iconst (v := (0 : Int32)) d_LH_isChoiceSo_151 (by decide) ?_
      obtain ⟨hc, h⟩ := h
      refine ak9_SX (as := [.ref 207, .int (8 : Int32), .int x2, .int x3, .int x4, .int x6, .int (0 : Int32), .int (0 : Int32)]) (rest := []) d_LH_isChoiceSo_152 cw_LH_isChoiceSo_152 rfl (am_2P (av1 := [.ref 0, .int (8 : Int32), .int x2, .int x3, .int x4, .int x6, .int (0 : Int32), .int (0 : Int32)]) hg rfl (fun _ => rfl) (fun A9 => am_1C (ct_LH_sets (g := am_ga g A9) hg hc))) rfl rfl (Nat.le_of_ble_eq_true rfl) (by show k + 16 + 16 ≤ 98; omega) (by show z + 96 + 96 ≤ 588; omega) ?_
      refine am_iconst (v := (1 : Int32)) d_LH_isChoiceSo_155 (by decide) ?_
      refine aj_ne (F := am_oC2) (tgt := 176) d_LH_isChoiceSo_156 (by decide) (fun c => ?_) (fun c => ?_)
      · have h := h.2 c
        refine am_iconst (v := (0 : Int32)) d_LH_isChoiceSo_176 (by decide) ?_
        exact am_iret d_LH_isChoiceSo_177 rfl (am_bool (Or.inl rfl)).1 (by show k + 16 + 16 ≤ 98; omega) (by show z + 96 + 96 ≤ 588; omega) am_oC2_ok
      · have h := h.1 c
        refine am_aload_n (j := 1) d_LH_isChoiceSo_159 rfl rfl ?_
        refine am_iload_n (j := 3) d_LH_isChoiceSo_160 rfl rfl ?_
        refine am_iload_n (j := 4) d_LH_isChoiceSo_161 rfl rfl ?_
        refine am_iload (j := 5) d_LH_isChoiceSo_162 rfl ?_
        obtain ⟨hc, h⟩ := h
        obtain ⟨h0, h⟩ := h
        refine ak9_VX (as := [.int x2, .int x3, .int x4]) (rest := []) d_LH_isChoiceSo_164 cw_LH_isChoiceSo_164 rfl (am_2O hg rfl (fun A9 => am_1E h0 (ct_CB_cell (g := am_ga g A9) hg hc))) rfl rfl rc_1 (Nat.le_of_ble_eq_true rfl) (by show k + 16 + 16 + 2 ≤ 98; omega) (by show z + 96 + 96 + 12 ≤ 588; omega) ?_
        refine am_iload (j := 7) d_LH_isChoiceSo_167 rfl ?_
        refine aj_ne (F := am_oC2) (tgt := 176) d_LH_isChoiceSo_169 (by decide) (fun c => ?_) (fun c => ?_)
        · have h := h.2 c
          refine am_iconst (v := (0 : Int32)) d_LH_isChoiceSo_176 (by decide) ?_
          exact am_iret d_LH_isChoiceSo_177 rfl (am_bool (Or.inl rfl)).1 (by show k + 16 + 16 + 2 ≤ 98; omega) (by show z + 96 + 96 + 12 ≤ 588; omega) am_oC2_ok
        · have h := h.1 c
          refine am_iconst (v := (1 : Int32)) d_LH_isChoiceSo_172 (by decide) ?_
          refine am_goto (tgt := 177) d_LH_isChoiceSo_173 (by decide) ?_
          exact am_iret d_LH_isChoiceSo_177 rfl (am_bool (Or.inr rfl)).1 (by show k + 16 + 16 + 2 ≤ 98; omega) (by show z + 96 + 96 + 12 ≤ 588; omega) am_oC2_ok
def f_LH_isChoiceSo_111  (s : am_M) (t : am_M) (x2 : Int32) (x3 : Int32) (x4 : Int32) (x5 : Int32) (x6 : Int32) (x7 : Int32) : Int32 × am_M × am_M := (f_LH_isChoiceSo_116 s t x2 x3 x4 x5 x6 x7 (1 : Int32))
def p_LH_isChoiceSo_111  (s : am_M) (t : am_M) (x2 : Int32) (x3 : Int32) (x4 : Int32) (x5 : Int32) (x6 : Int32) (x7 : Int32) : Prop := (p_LH_isChoiceSo_116 s t x2 x3 x4 x5 x6 x7 (1 : Int32))
set_option maxRecDepth 100000 in
theorem w_LH_isChoiceSo_111 {l : Launch} {g : am_Gl} (hg : g.2.2.2.1 = true) {ad0 : Nat → Nat}  {s : am_M} {t : am_M} {x2 : Int32} {x3 : Int32} {x4 : Int32} {x5 : Int32} {x6 : Int32} {x7 : Int32} {k z : Nat} (hk : k ≤ 64) (hz : z ≤ 384) (h : p_LH_isChoiceSo_111  s t x2 x3 x4 x5 x6 x7) : AW l g m_LH_isChoiceSo 414 ad0 (am_oC2 (f_LH_isChoiceSo_111  s t x2 x3 x4 x5 x6 x7)) k z 414 (jn s t) 111 [(0, .ref 0), (1, .ref 207), (2, .int x2), (3, .int x3), (4, .int x4), (5, .int x5), (6, .int x6), (7, .int x7)] [] := by
  refine am_iconst (v := (1 : Int32)) d_LH_isChoiceSo_111 (by decide) ?_
  refine am_goto (tgt := 116) d_LH_isChoiceSo_112 (by decide) ?_
  exact w_LH_isChoiceSo_116 hg  (by show k ≤ 64; omega) (by show z ≤ 384; omega) h
def f_LH_isChoiceSo_115  (s : am_M) (t : am_M) (x2 : Int32) (x3 : Int32) (x4 : Int32) (x5 : Int32) (x6 : Int32) (x7 : Int32) : Int32 × am_M × am_M := (f_LH_isChoiceSo_116 s t x2 x3 x4 x5 x6 x7 (0 : Int32))
def p_LH_isChoiceSo_115  (s : am_M) (t : am_M) (x2 : Int32) (x3 : Int32) (x4 : Int32) (x5 : Int32) (x6 : Int32) (x7 : Int32) : Prop := (p_LH_isChoiceSo_116 s t x2 x3 x4 x5 x6 x7 (0 : Int32))
set_option maxRecDepth 100000 in
theorem w_LH_isChoiceSo_115 {l : Launch} {g : am_Gl} (hg : g.2.2.2.1 = true) {ad0 : Nat → Nat}  {s : am_M} {t : am_M} {x2 : Int32} {x3 : Int32} {x4 : Int32} {x5 : Int32} {x6 : Int32} {x7 : Int32} {k z : Nat} (hk : k ≤ 64) (hz : z ≤ 384) (h : p_LH_isChoiceSo_115  s t x2 x3 x4 x5 x6 x7) : AW l g m_LH_isChoiceSo 414 ad0 (am_oC2 (f_LH_isChoiceSo_115  s t x2 x3 x4 x5 x6 x7)) k z 414 (jn s t) 115 [(0, .ref 0), (1, .ref 207), (2, .int x2), (3, .int x3), (4, .int x4), (5, .int x5), (6, .int x6), (7, .int x7)] [] := by
  refine am_iconst (v := (0 : Int32)) d_LH_isChoiceSo_115 (by decide) ?_
  exact w_LH_isChoiceSo_116 hg  (by show k ≤ 64; omega) (by show z ≤ 384; omega) h
def f_LH_isChoiceSo_53  (s : am_M) (t : am_M) (x2 : Int32) (x3 : Int32) (x4 : Int32) (x5 : Int32) (x6 : Int32) (y0 : Int32) : Int32 × am_M × am_M := (if 0 ≤ x6 then (if y0 = 0 then (f_LH_isChoiceSo_115 s t x2 x3 x4 x5 x6 y0) else (if x6 = 0 then (f_LH_isChoiceSo_111 s t x2 x3 x4 x5 x6 y0) else (if (f_LH_sets s (8 : Int32) x2 x3 x4 (x6 - (1 : Int32)) (0 : Int32) (0 : Int32)).1 = 0 then (if (f_LH_sets t (8 : Int32) x2 x3 x4 (x6 - (1 : Int32)) (0 : Int32) (0 : Int32)).1 = 0 then (f_LH_isChoiceSo_111 (f_LH_sets s (8 : Int32) x2 x3 x4 (x6 - (1 : Int32)) (0 : Int32) (0 : Int32)).2 (f_LH_sets t (8 : Int32) x2 x3 x4 (x6 - (1 : Int32)) (0 : Int32) (0 : Int32)).2 x2 x3 x4 x5 x6 y0) else (f_LH_isChoiceSo_115 (f_LH_sets s (8 : Int32) x2 x3 x4 (x6 - (1 : Int32)) (0 : Int32) (0 : Int32)).2 (f_LH_sets t (8 : Int32) x2 x3 x4 (x6 - (1 : Int32)) (0 : Int32) (0 : Int32)).2 x2 x3 x4 x5 x6 y0)) else (f_LH_isChoiceSo_115 (f_LH_sets s (8 : Int32) x2 x3 x4 (x6 - (1 : Int32)) (0 : Int32) (0 : Int32)).2 t x2 x3 x4 x5 x6 y0)))) else (y0, s, t))
def p_LH_isChoiceSo_53  (s : am_M) (t : am_M) (x2 : Int32) (x3 : Int32) (x4 : Int32) (x5 : Int32) (x6 : Int32) (y0 : Int32) : Prop := ((0 ≤ x6) → ((y0 = 0) → (p_LH_isChoiceSo_115 s t x2 x3 x4 x5 x6 y0)) ∧ (¬ (y0 = 0) → ((x6 = 0) → (p_LH_isChoiceSo_111 s t x2 x3 x4 x5 x6 y0)) ∧ (¬ (x6 = 0) → p_LH_sets s (8 : Int32) x2 x3 x4 (x6 - (1 : Int32)) (0 : Int32) (0 : Int32) ∧ ((((f_LH_sets s (8 : Int32) x2 x3 x4 (x6 - (1 : Int32)) (0 : Int32) (0 : Int32)).1 = 0) → p_LH_sets t (8 : Int32) x2 x3 x4 (x6 - (1 : Int32)) (0 : Int32) (0 : Int32) ∧ ((((f_LH_sets t (8 : Int32) x2 x3 x4 (x6 - (1 : Int32)) (0 : Int32) (0 : Int32)).1 = 0) → (p_LH_isChoiceSo_111 (f_LH_sets s (8 : Int32) x2 x3 x4 (x6 - (1 : Int32)) (0 : Int32) (0 : Int32)).2 (f_LH_sets t (8 : Int32) x2 x3 x4 (x6 - (1 : Int32)) (0 : Int32) (0 : Int32)).2 x2 x3 x4 x5 x6 y0)) ∧ (¬ ((f_LH_sets t (8 : Int32) x2 x3 x4 (x6 - (1 : Int32)) (0 : Int32) (0 : Int32)).1 = 0) → (p_LH_isChoiceSo_115 (f_LH_sets s (8 : Int32) x2 x3 x4 (x6 - (1 : Int32)) (0 : Int32) (0 : Int32)).2 (f_LH_sets t (8 : Int32) x2 x3 x4 (x6 - (1 : Int32)) (0 : Int32) (0 : Int32)).2 x2 x3 x4 x5 x6 y0)))) ∧ (¬ ((f_LH_sets s (8 : Int32) x2 x3 x4 (x6 - (1 : Int32)) (0 : Int32) (0 : Int32)).1 = 0) → (p_LH_isChoiceSo_115 (f_LH_sets s (8 : Int32) x2 x3 x4 (x6 - (1 : Int32)) (0 : Int32) (0 : Int32)).2 t x2 x3 x4 x5 x6 y0)))))) ∧ (¬ (0 ≤ x6) → (y0 = 0 ∨ y0 = 1) ∧ (True))
set_option maxRecDepth 100000 in
theorem w_LH_isChoiceSo_53 {l : Launch} {g : am_Gl} (hg : g.2.2.2.1 = true) {ad0 : Nat → Nat}  {s : am_M} {t : am_M} {x2 : Int32} {x3 : Int32} {x4 : Int32} {x5 : Int32} {x6 : Int32} {y0 : Int32} {k z : Nat} (hk : k ≤ 32) (hz : z ≤ 192) (h : p_LH_isChoiceSo_53  s t x2 x3 x4 x5 x6 y0) : AW l g m_LH_isChoiceSo 414 ad0 (am_oC2 (f_LH_isChoiceSo_53  s t x2 x3 x4 x5 x6 y0)) k z 414 (jn s t) 53 [(0, .ref 0), (1, .ref 207), (2, .int x2), (3, .int x3), (4, .int x4), (5, .int x5), (6, .int x6)] [.int y0] := by
  refine am_istore (lv2 := [(7, .int y0), (0, .ref 0), (1, .ref 207), (2, .int x2), (3, .int x3), (4, .int x4), (5, .int x5), (6, .int x6)]) d_LH_isChoiceSo_53 (by decide) rfl ?_
  refine am_iload (j := 7) d_LH_isChoiceSo_55 rfl ?_
  refine ai_ge (F := am_oC2) (tgt := 63) d_LH_isChoiceSo_57 (by decide) (fun c => ?_) (fun c => ?_)
  · have h := h.1 c
    refine am_iload (j := 0) d_LH_isChoiceSo_63 rfl ?_
    refine ai_eq (F := am_oC2) (tgt := 115) d_LH_isChoiceSo_65 (by decide) (fun c => ?_) (fun c => ?_)
    · have h := h.1 c
      refine am_sub [1, 2, 3, 4, 5, 6, 7, 0] (lv2 := [(0, .ref 0), (1, .ref 207), (2, .int x2), (3, .int x3), (4, .int x4), (5, .int x5), (6, .int x6), (7, .int y0)]) rfl ?_
      exact w_LH_isChoiceSo_115 hg  (by show k ≤ 64; omega) (by show z ≤ 384; omega) h
    · have h := h.2 c
      refine am_iload (j := 7) d_LH_isChoiceSo_68 rfl ?_
      refine ai_eq (F := am_oC2) (tgt := 111) d_LH_isChoiceSo_70 (by decide) (fun c => ?_) (fun c => ?_)
      · have h := h.1 c
        refine am_sub [1, 2, 3, 4, 5, 6, 7, 0] (lv2 := [(0, .ref 0), (1, .ref 207), (2, .int x2), (3, .int x3), (4, .int x4), (5, .int x5), (6, .int x6), (7, .int y0)]) rfl ?_
        exact w_LH_isChoiceSo_111 hg  (by show k ≤ 64; omega) (by show z ≤ 384; omega) h
      · have h := h.2 c
        refine am_aload_n (j := 1) d_LH_isChoiceSo_73 rfl rfl ?_
        refine am_bipush (v := (8 : Int32)) d_LH_isChoiceSo_74 (by decide) ?_
        refine am_iload_n (j := 3) d_LH_isChoiceSo_76 rfl rfl ?_
        refine am_iload_n (j := 4) d_LH_isChoiceSo_77 rfl rfl ?_
        refine am_iload (j := 5) d_LH_isChoiceSo_78 rfl ?_
        refine am_iload (j := 7) d_LH_isChoiceSo_80 rfl ?_
        refine am_iconst (v := (1 : Int32)) d_LH_isChoiceSo_82 (by decide) ?_
        refine am_isub d_LH_isChoiceSo_83 ?_
        refine am_iconst (v := (0 : Int32)) d_LH_isChoiceSo_84 (by decide) ?_
        refine am_iconst (v := (0 : Int32)) d_LH_isChoiceSo_85 (by decide) ?_
        obtain ⟨hc, h⟩ := h
        refine ak9_SX (as := [.ref 0, .int (8 : Int32), .int x2, .int x3, .int x4, .int (x6 - (1 : Int32)), .int (0 : Int32), .int (0 : Int32)]) (rest := []) d_LH_isChoiceSo_86 cw_LH_isChoiceSo_86 rfl (am_2O hg rfl (fun A9 => am_1C (ct_LH_sets (g := am_ga g A9) hg hc))) rfl rfl (Nat.le_of_ble_eq_true rfl) (by show k + 16 ≤ 98; omega) (by show z + 96 ≤ 588; omega) ?_
        refine ai_ne (F := am_oC2) (tgt := 115) d_LH_isChoiceSo_89 (by decide) (fun c => ?_) (fun c => ?_)
        · have h := h.2 c
          refine am_sub [1, 2, 3, 4, 5, 6, 7, 0] (lv2 := [(0, .ref 0), (1, .ref 207), (2, .int x2), (3, .int x3), (4, .int x4), (5, .int x5), (6, .int x6), (7, .int y0)]) rfl ?_
          exact w_LH_isChoiceSo_115 hg  (by show k + 16 ≤ 64; omega) (by show z + 96 ≤ 384; omega) h
        · have h := h.1 c
          refine am_aload_n (j := 2) d_LH_isChoiceSo_92 rfl rfl ?_
          refine am_bipush (v := (8 : Int32)) d_LH_isChoiceSo_93 (by decide) ?_
          refine am_iload_n (j := 3) d_LH_isChoiceSo_95 rfl rfl ?_
          refine am_iload_n (j := 4) d_LH_isChoiceSo_96 rfl rfl ?_
          refine am_iload (j := 5) d_LH_isChoiceSo_97 rfl ?_
          refine am_iload (j := 7) d_LH_isChoiceSo_99 rfl ?_
          refine am_iconst (v := (1 : Int32)) d_LH_isChoiceSo_101 (by decide) ?_
          refine am_isub d_LH_isChoiceSo_102 ?_
          refine am_iconst (v := (0 : Int32)) d_LH_isChoiceSo_103 (by decide) ?_
          refine am_iconst (v := (0 : Int32)) d_LH_isChoiceSo_104 (by decide) ?_
          obtain ⟨hc, h⟩ := h
          refine ak9_SX (as := [.ref 207, .int (8 : Int32), .int x2, .int x3, .int x4, .int (x6 - (1 : Int32)), .int (0 : Int32), .int (0 : Int32)]) (rest := []) d_LH_isChoiceSo_105 cw_LH_isChoiceSo_105 rfl (am_2P (av1 := [.ref 0, .int (8 : Int32), .int x2, .int x3, .int x4, .int (x6 - (1 : Int32)), .int (0 : Int32), .int (0 : Int32)]) hg rfl (fun _ => rfl) (fun A9 => am_1C (ct_LH_sets (g := am_ga g A9) hg hc))) rfl rfl (Nat.le_of_ble_eq_true rfl) (by show k + 16 + 16 ≤ 98; omega) (by show z + 96 + 96 ≤ 588; omega) ?_
          refine ai_ne (F := am_oC2) (tgt := 115) d_LH_isChoiceSo_108 (by decide) (fun c => ?_) (fun c => ?_)
          · have h := h.2 c
            refine am_sub [1, 2, 3, 4, 5, 6, 7, 0] (lv2 := [(0, .ref 0), (1, .ref 207), (2, .int x2), (3, .int x3), (4, .int x4), (5, .int x5), (6, .int x6), (7, .int y0)]) rfl ?_
            exact w_LH_isChoiceSo_115 hg  (by show k + 16 + 16 ≤ 64; omega) (by show z + 96 + 96 ≤ 384; omega) h
          · have h := h.1 c
            refine am_sub [1, 2, 3, 4, 5, 6, 7, 0] (lv2 := [(0, .ref 0), (1, .ref 207), (2, .int x2), (3, .int x3), (4, .int x4), (5, .int x5), (6, .int x6), (7, .int y0)]) rfl ?_
            exact w_LH_isChoiceSo_111 hg  (by show k + 16 + 16 ≤ 64; omega) (by show z + 96 + 96 ≤ 384; omega) h
  · have h := h.2 c
    refine am_iload (j := 0) d_LH_isChoiceSo_60 rfl ?_
    obtain ⟨hz, h⟩ := h
    exact am_iret d_LH_isChoiceSo_62 rfl (am_bool hz).1 (by show k ≤ 98; omega) (by show z ≤ 588; omega) am_oC2_ok
def f_LH_isChoiceSo_52  (s : am_M) (t : am_M) (x2 : Int32) (x3 : Int32) (x4 : Int32) (x5 : Int32) (x6 : Int32) : Int32 × am_M × am_M := (f_LH_isChoiceSo_53 s t x2 x3 x4 x5 x6 (0 : Int32))
def p_LH_isChoiceSo_52  (s : am_M) (t : am_M) (x2 : Int32) (x3 : Int32) (x4 : Int32) (x5 : Int32) (x6 : Int32) : Prop := (p_LH_isChoiceSo_53 s t x2 x3 x4 x5 x6 (0 : Int32))
set_option maxRecDepth 100000 in
theorem w_LH_isChoiceSo_52 {l : Launch} {g : am_Gl} (hg : g.2.2.2.1 = true) {ad0 : Nat → Nat}  {s : am_M} {t : am_M} {x2 : Int32} {x3 : Int32} {x4 : Int32} {x5 : Int32} {x6 : Int32} {k z : Nat} (hk : k ≤ 32) (hz : z ≤ 192) (h : p_LH_isChoiceSo_52  s t x2 x3 x4 x5 x6) : AW l g m_LH_isChoiceSo 414 ad0 (am_oC2 (f_LH_isChoiceSo_52  s t x2 x3 x4 x5 x6)) k z 414 (jn s t) 52 [(0, .ref 0), (1, .ref 207), (2, .int x2), (3, .int x3), (4, .int x4), (5, .int x5), (6, .int x6)] [] := by
  refine am_iconst (v := (0 : Int32)) d_LH_isChoiceSo_52 (by decide) ?_
  exact w_LH_isChoiceSo_53 hg  (by show k ≤ 32; omega) (by show z ≤ 192; omega) h
def f_LH_isChoiceSo (s : am_M) (t : am_M) (x2 : Int32) (x3 : Int32) (x4 : Int32) : Int32 × am_M × am_M := (if (f_LH_sets t (9 : Int32) x2 x3 x4 (0 : Int32) (0 : Int32) (0 : Int32)).1 = (f_LH_sets s (9 : Int32) x2 x3 x4 (0 : Int32) (0 : Int32) (0 : Int32)).1 then (if (f_CB_reason (f_LH_sets s (9 : Int32) x2 x3 x4 (0 : Int32) (0 : Int32) (0 : Int32)).2) = (f_CB_reason s) then (f_LH_isChoiceSo_53 (f_LH_sets s (9 : Int32) x2 x3 x4 (0 : Int32) (0 : Int32) (0 : Int32)).2 (f_LH_sets t (9 : Int32) x2 x3 x4 (0 : Int32) (0 : Int32) (0 : Int32)).2 x2 x3 x4 (f_CB_reason s) (f_LH_sets s (9 : Int32) x2 x3 x4 (0 : Int32) (0 : Int32) (0 : Int32)).1 (1 : Int32)) else (f_LH_isChoiceSo_52 (f_LH_sets s (9 : Int32) x2 x3 x4 (0 : Int32) (0 : Int32) (0 : Int32)).2 (f_LH_sets t (9 : Int32) x2 x3 x4 (0 : Int32) (0 : Int32) (0 : Int32)).2 x2 x3 x4 (f_CB_reason s) (f_LH_sets s (9 : Int32) x2 x3 x4 (0 : Int32) (0 : Int32) (0 : Int32)).1)) else (f_LH_isChoiceSo_52 (f_LH_sets s (9 : Int32) x2 x3 x4 (0 : Int32) (0 : Int32) (0 : Int32)).2 (f_LH_sets t (9 : Int32) x2 x3 x4 (0 : Int32) (0 : Int32) (0 : Int32)).2 x2 x3 x4 (f_CB_reason s) (f_LH_sets s (9 : Int32) x2 x3 x4 (0 : Int32) (0 : Int32) (0 : Int32)).1))
def p_LH_isChoiceSo (s : am_M) (t : am_M) (x2 : Int32) (x3 : Int32) (x4 : Int32) : Prop := p_LH_sets s (9 : Int32) x2 x3 x4 (0 : Int32) (0 : Int32) (0 : Int32) ∧ (p_LH_sets t (9 : Int32) x2 x3 x4 (0 : Int32) (0 : Int32) (0 : Int32) ∧ ((((f_LH_sets t (9 : Int32) x2 x3 x4 (0 : Int32) (0 : Int32) (0 : Int32)).1 = (f_LH_sets s (9 : Int32) x2 x3 x4 (0 : Int32) (0 : Int32) (0 : Int32)).1) → (((f_CB_reason (f_LH_sets s (9 : Int32) x2 x3 x4 (0 : Int32) (0 : Int32) (0 : Int32)).2) = (f_CB_reason s)) → (p_LH_isChoiceSo_53 (f_LH_sets s (9 : Int32) x2 x3 x4 (0 : Int32) (0 : Int32) (0 : Int32)).2 (f_LH_sets t (9 : Int32) x2 x3 x4 (0 : Int32) (0 : Int32) (0 : Int32)).2 x2 x3 x4 (f_CB_reason s) (f_LH_sets s (9 : Int32) x2 x3 x4 (0 : Int32) (0 : Int32) (0 : Int32)).1 (1 : Int32))) ∧ (¬ ((f_CB_reason (f_LH_sets s (9 : Int32) x2 x3 x4 (0 : Int32) (0 : Int32) (0 : Int32)).2) = (f_CB_reason s)) → (p_LH_isChoiceSo_52 (f_LH_sets s (9 : Int32) x2 x3 x4 (0 : Int32) (0 : Int32) (0 : Int32)).2 (f_LH_sets t (9 : Int32) x2 x3 x4 (0 : Int32) (0 : Int32) (0 : Int32)).2 x2 x3 x4 (f_CB_reason s) (f_LH_sets s (9 : Int32) x2 x3 x4 (0 : Int32) (0 : Int32) (0 : Int32)).1))) ∧ (¬ ((f_LH_sets t (9 : Int32) x2 x3 x4 (0 : Int32) (0 : Int32) (0 : Int32)).1 = (f_LH_sets s (9 : Int32) x2 x3 x4 (0 : Int32) (0 : Int32) (0 : Int32)).1) → (p_LH_isChoiceSo_52 (f_LH_sets s (9 : Int32) x2 x3 x4 (0 : Int32) (0 : Int32) (0 : Int32)).2 (f_LH_sets t (9 : Int32) x2 x3 x4 (0 : Int32) (0 : Int32) (0 : Int32)).2 x2 x3 x4 (f_CB_reason s) (f_LH_sets s (9 : Int32) x2 x3 x4 (0 : Int32) (0 : Int32) (0 : Int32)).1))))
set_option maxRecDepth 100000 in
theorem w_LH_isChoiceSo {l : Launch} {g : am_Gl} (hg : g.2.2.2.1 = true) {ad0 : Nat → Nat} {s : am_M} {t : am_M} {x2 : Int32} {x3 : Int32} {x4 : Int32} (h : p_LH_isChoiceSo s t x2 x3 x4) : AW l g m_LH_isChoiceSo 414 ad0 (am_oC2 (f_LH_isChoiceSo s t x2 x3 x4)) 0 0 414 (jn s t) 0 [(0, .ref 0), (1, .ref 207), (2, .int x2), (3, .int x3), (4, .int x4)] [] := by
  refine am_aload_n (j := 0) d_LH_isChoiceSo_0 rfl rfl ?_
  refine ak9_V (as := []) (rest := []) d_LH_isChoiceSo_1 cw_LH_isChoiceSo_1 rfl (am_2O hg rfl (fun A9 => am_1I (ct_CB_reason (g := am_ga g A9) hg))) rfl rfl rc_1 (Nat.le_of_ble_eq_true rfl) (by show 0 + 0 ≤ 98; omega) (by show 0 + 0 ≤ 588; omega) ?_
  refine am_istore (lv2 := [(5, .int (f_CB_reason s)), (0, .ref 0), (1, .ref 207), (2, .int x2), (3, .int x3), (4, .int x4)]) d_LH_isChoiceSo_4 (by decide) rfl ?_
  refine am_aload_n (j := 1) d_LH_isChoiceSo_6 rfl rfl ?_
  refine am_bipush (v := (9 : Int32)) d_LH_isChoiceSo_7 (by decide) ?_
  refine am_iload_n (j := 3) d_LH_isChoiceSo_9 rfl rfl ?_
  refine am_iload_n (j := 4) d_LH_isChoiceSo_10 rfl rfl ?_
  refine am_iload (j := 5) d_LH_isChoiceSo_11 rfl ?_
  refine am_iconst (v := (0 : Int32)) d_LH_isChoiceSo_13 (by decide) ?_
  refine am_iconst (v := (0 : Int32)) d_LH_isChoiceSo_14 (by decide) ?_
  refine am_iconst (v := (0 : Int32)) d_LH_isChoiceSo_15 (by decide) ?_
  obtain ⟨hc, h⟩ := h
  refine ak9_SX (as := [.ref 0, .int (9 : Int32), .int x2, .int x3, .int x4, .int (0 : Int32), .int (0 : Int32), .int (0 : Int32)]) (rest := []) d_LH_isChoiceSo_16 cw_LH_isChoiceSo_16 rfl (am_2O hg rfl (fun A9 => am_1C (ct_LH_sets (g := am_ga g A9) hg hc))) rfl rfl (Nat.le_of_ble_eq_true rfl) (by show 0 + 0 + 16 ≤ 98; omega) (by show 0 + 0 + 96 ≤ 588; omega) ?_
  refine am_istore (lv2 := [(6, .int (f_LH_sets s (9 : Int32) x2 x3 x4 (0 : Int32) (0 : Int32) (0 : Int32)).1), (5, .int (f_CB_reason s)), (0, .ref 0), (1, .ref 207), (2, .int x2), (3, .int x3), (4, .int x4)]) d_LH_isChoiceSo_19 (by decide) rfl ?_
  refine am_aload_n (j := 3) d_LH_isChoiceSo_21 rfl rfl ?_
  refine am_bipush (v := (9 : Int32)) d_LH_isChoiceSo_22 (by decide) ?_
  refine am_iload_n (j := 4) d_LH_isChoiceSo_24 rfl rfl ?_
  refine am_iload_n (j := 5) d_LH_isChoiceSo_25 rfl rfl ?_
  refine am_iload (j := 6) d_LH_isChoiceSo_26 rfl ?_
  refine am_iconst (v := (0 : Int32)) d_LH_isChoiceSo_28 (by decide) ?_
  refine am_iconst (v := (0 : Int32)) d_LH_isChoiceSo_29 (by decide) ?_
  refine am_iconst (v := (0 : Int32)) d_LH_isChoiceSo_30 (by decide) ?_
  obtain ⟨hc, h⟩ := h
  refine ak9_SX (as := [.ref 207, .int (9 : Int32), .int x2, .int x3, .int x4, .int (0 : Int32), .int (0 : Int32), .int (0 : Int32)]) (rest := []) d_LH_isChoiceSo_31 cw_LH_isChoiceSo_31 rfl (am_2P (av1 := [.ref 0, .int (9 : Int32), .int x2, .int x3, .int x4, .int (0 : Int32), .int (0 : Int32), .int (0 : Int32)]) hg rfl (fun _ => rfl) (fun A9 => am_1C (ct_LH_sets (g := am_ga g A9) hg hc))) rfl rfl (Nat.le_of_ble_eq_true rfl) (by show 0 + 0 + 16 + 16 ≤ 98; omega) (by show 0 + 0 + 96 + 96 ≤ 588; omega) ?_
  refine am_iload (j := 0) d_LH_isChoiceSo_34 rfl ?_
  refine aj_ne (F := am_oC2) (tgt := 52) d_LH_isChoiceSo_36 (by decide) (fun c => ?_) (fun c => ?_)
  · have h := h.2 c
    refine am_sub [2, 3, 4, 5, 6, 1, 0] (lv2 := [(0, .ref 0), (1, .ref 207), (2, .int x2), (3, .int x3), (4, .int x4), (5, .int (f_CB_reason s)), (6, .int (f_LH_sets s (9 : Int32) x2 x3 x4 (0 : Int32) (0 : Int32) (0 : Int32)).1)]) rfl ?_
    exact w_LH_isChoiceSo_52 hg  (by show 0 + 0 + 16 + 16 ≤ 32; omega) (by show 0 + 0 + 96 + 96 ≤ 192; omega) h
  · have h := h.1 c
    refine am_aload_n (j := 2) d_LH_isChoiceSo_39 rfl rfl ?_
    refine ak9_V (as := []) (rest := []) d_LH_isChoiceSo_40 cw_LH_isChoiceSo_40 rfl (am_2O hg rfl (fun A9 => am_1I (ct_CB_reason (g := am_ga g A9) hg))) rfl rfl rc_1 (Nat.le_of_ble_eq_true rfl) (by show 0 + 0 + 16 + 16 + 0 ≤ 98; omega) (by show 0 + 0 + 96 + 96 + 0 ≤ 588; omega) ?_
    refine am_iload (j := 1) d_LH_isChoiceSo_43 rfl ?_
    refine aj_ne (F := am_oC2) (tgt := 52) d_LH_isChoiceSo_45 (by decide) (fun c => ?_) (fun c => ?_)
    · have h := h.2 c
      refine am_sub [2, 3, 4, 5, 6, 1, 0] (lv2 := [(0, .ref 0), (1, .ref 207), (2, .int x2), (3, .int x3), (4, .int x4), (5, .int (f_CB_reason s)), (6, .int (f_LH_sets s (9 : Int32) x2 x3 x4 (0 : Int32) (0 : Int32) (0 : Int32)).1)]) rfl ?_
      exact w_LH_isChoiceSo_52 hg  (by show 0 + 0 + 16 + 16 + 0 ≤ 32; omega) (by show 0 + 0 + 96 + 96 + 0 ≤ 192; omega) h
    · have h := h.1 c
      refine am_iconst (v := (1 : Int32)) d_LH_isChoiceSo_48 (by decide) ?_
      refine am_goto (tgt := 53) d_LH_isChoiceSo_49 (by decide) ?_
      refine am_sub [2, 3, 4, 5, 6, 1, 0] (lv2 := [(0, .ref 0), (1, .ref 207), (2, .int x2), (3, .int x3), (4, .int x4), (5, .int (f_CB_reason s)), (6, .int (f_LH_sets s (9 : Int32) x2 x3 x4 (0 : Int32) (0 : Int32) (0 : Int32)).1)]) rfl ?_
      exact w_LH_isChoiceSo_53 hg  (by show 0 + 0 + 16 + 16 + 0 ≤ 32; omega) (by show 0 + 0 + 96 + 96 + 0 ≤ 192; omega) h
theorem ct_LH_isChoiceSo {l : Launch} {g : am_Gl} (hg : g.2.2.2.1 = true) {s : am_M} {t : am_M} {x2 : Int32} {x3 : Int32} {x4 : Int32} (h : p_LH_isChoiceSo s t x2 x3 x4) : AC l g m_LH_isChoiceSo 414 (jn s t) [.ref 0, .ref 207, .int x2, .int x3, .int x4] (am_oC2 (f_LH_isChoiceSo s t x2 x3 x4)) := am_enter ok_LH_isChoiceSo rfl (Nat.le_of_ble_eq_true rfl) rfl (fun ad0 => w_LH_isChoiceSo hg h)
theorem cw_LH_isActSo_1 : am_cv m_LH_isActSo m_CB_undoable 178 0 := ⟨⟨ok_CB_undoable, rfl, by decide +kernel, by decide, by decide⟩, aw_5_79, aw_5_80, aw_5_81⟩
theorem cw_LH_isActSo_11 : am_sh9 m_LH_isActSo m_LH_does 159 5 := ⟨ok_LH_does, ⟨_, rfl⟩, by decide +kernel, by decide, by decide, aw_1_193, aw_1_194⟩
theorem cw_LH_isActSo_44 : am_cv m_LH_isActSo m_CB_broken 175 0 := ⟨⟨ok_CB_broken, rfl, by decide +kernel, by decide, by decide⟩, aw_5_74, aw_5_75, aw_5_76⟩
theorem cw_LH_isActSo_103 : am_cv m_LH_isActSo m_CB_reason 181 0 := ⟨⟨ok_CB_reason, rfl, by decide +kernel, by decide, by decide⟩, aw_5_83, aw_5_84, aw_5_85⟩
theorem cw_LH_isActSo_110 : am_cv m_LH_isActSo m_CB_undoable 178 0 := ⟨⟨ok_CB_undoable, rfl, by decide +kernel, by decide, by decide⟩, aw_5_79, aw_5_80, aw_5_81⟩
theorem cw_LH_isActSo_57 : am_cv m_LH_isActSo m_CB_reason 181 0 := ⟨⟨ok_CB_reason, rfl, by decide +kernel, by decide, by decide⟩, aw_5_83, aw_5_84, aw_5_85⟩
theorem cw_LH_isActSo_64 : am_cv m_LH_isActSo m_CB_undoable 178 0 := ⟨⟨ok_CB_undoable, rfl, by decide +kernel, by decide, by decide⟩, aw_5_79, aw_5_80, aw_5_81⟩
theorem cw_LH_isActSo_29 : am_sh9 m_LH_isActSo m_LH_does 159 5 := ⟨ok_LH_does, ⟨_, rfl⟩, by decide +kernel, by decide, by decide, aw_1_193, aw_1_194⟩
theorem cw_LH_isActSo_83 : am_cv m_LH_isActSo m_CB_undo 48 0 := ⟨⟨ok_CB_undo, rfl, by decide +kernel, by decide, by decide⟩, aw_3_81, aw_3_82, aw_3_83⟩
theorem cw_LH_isActSo_130 : am_sh9 m_LH_isActSo m_LH_does 159 5 := ⟨ok_LH_does, ⟨_, rfl⟩, by decide +kernel, by decide, by decide, aw_1_193, aw_1_194⟩
theorem cw_LH_isActSo_170 : am_cs m_LH_isActSo m_LH_areAlike 204 2 := ⟨⟨ok_LH_areAlike, rfl, by decide +kernel, by decide, by decide⟩, aw_5_71, aw_5_72⟩
theorem cw_LH_isActSo_158 : am_sh9 m_LH_isActSo m_LH_does 159 5 := ⟨ok_LH_does, ⟨_, rfl⟩, by decide +kernel, by decide, by decide, aw_1_193, aw_1_194⟩
theorem cw_LH_isActSo_162 : am_cv m_LH_isActSo m_CB_undoable 178 0 := ⟨⟨ok_CB_undoable, rfl, by decide +kernel, by decide, by decide⟩, aw_5_79, aw_5_80, aw_5_81⟩
def f_LH_isActSo_122  (s : am_M) (t : am_M) (x2 : Int32) (x3 : Int32) (x4 : Int32) (y0 : Int32) : Int32 × am_M × am_M := (if y0 = 0 then ((0 : Int32), s, (f_LH_does t (11 : Int32) x2 (0 : Int32) (0 : Int32)).2) else (if (f_LH_does t (11 : Int32) x2 (0 : Int32) (0 : Int32)).1 = x4 then (if x4 = 0 then (if (f_LH_areAlike s (f_LH_does t (11 : Int32) x2 (0 : Int32) (0 : Int32)).2).1 = 0 then ((0 : Int32), (f_LH_areAlike s (f_LH_does t (11 : Int32) x2 (0 : Int32) (0 : Int32)).2).2.1, (f_LH_areAlike s (f_LH_does t (11 : Int32) x2 (0 : Int32) (0 : Int32)).2).2.2) else ((1 : Int32), (f_LH_areAlike s (f_LH_does t (11 : Int32) x2 (0 : Int32) (0 : Int32)).2).2.1, (f_LH_areAlike s (f_LH_does t (11 : Int32) x2 (0 : Int32) (0 : Int32)).2).2.2)) else (if (f_LH_does (f_LH_does t (11 : Int32) x2 (0 : Int32) (0 : Int32)).2 (10 : Int32) (0 : Int32) (0 : Int32) (0 : Int32)).1 = (f_CB_undoable s) then (if (f_LH_areAlike s (f_LH_does (f_LH_does t (11 : Int32) x2 (0 : Int32) (0 : Int32)).2 (10 : Int32) (0 : Int32) (0 : Int32) (0 : Int32)).2).1 = 0 then ((0 : Int32), (f_LH_areAlike s (f_LH_does (f_LH_does t (11 : Int32) x2 (0 : Int32) (0 : Int32)).2 (10 : Int32) (0 : Int32) (0 : Int32) (0 : Int32)).2).2.1, (f_LH_areAlike s (f_LH_does (f_LH_does t (11 : Int32) x2 (0 : Int32) (0 : Int32)).2 (10 : Int32) (0 : Int32) (0 : Int32) (0 : Int32)).2).2.2) else ((1 : Int32), (f_LH_areAlike s (f_LH_does (f_LH_does t (11 : Int32) x2 (0 : Int32) (0 : Int32)).2 (10 : Int32) (0 : Int32) (0 : Int32) (0 : Int32)).2).2.1, (f_LH_areAlike s (f_LH_does (f_LH_does t (11 : Int32) x2 (0 : Int32) (0 : Int32)).2 (10 : Int32) (0 : Int32) (0 : Int32) (0 : Int32)).2).2.2)) else ((0 : Int32), s, (f_LH_does (f_LH_does t (11 : Int32) x2 (0 : Int32) (0 : Int32)).2 (10 : Int32) (0 : Int32) (0 : Int32) (0 : Int32)).2))) else ((0 : Int32), s, (f_LH_does t (11 : Int32) x2 (0 : Int32) (0 : Int32)).2)))
def p_LH_isActSo_122  (s : am_M) (t : am_M) (x2 : Int32) (x3 : Int32) (x4 : Int32) (y0 : Int32) : Prop := p_LH_does t (11 : Int32) x2 (0 : Int32) (0 : Int32) ∧ (((y0 = 0) → True) ∧ (¬ (y0 = 0) → (((f_LH_does t (11 : Int32) x2 (0 : Int32) (0 : Int32)).1 = x4) → ((x4 = 0) → p_LH_areAlike s (f_LH_does t (11 : Int32) x2 (0 : Int32) (0 : Int32)).2 ∧ ((((f_LH_areAlike s (f_LH_does t (11 : Int32) x2 (0 : Int32) (0 : Int32)).2).1 = 0) → True) ∧ (¬ ((f_LH_areAlike s (f_LH_does t (11 : Int32) x2 (0 : Int32) (0 : Int32)).2).1 = 0) → True))) ∧ (¬ (x4 = 0) → p_LH_does (f_LH_does t (11 : Int32) x2 (0 : Int32) (0 : Int32)).2 (10 : Int32) (0 : Int32) (0 : Int32) (0 : Int32) ∧ ((((f_LH_does (f_LH_does t (11 : Int32) x2 (0 : Int32) (0 : Int32)).2 (10 : Int32) (0 : Int32) (0 : Int32) (0 : Int32)).1 = (f_CB_undoable s)) → p_LH_areAlike s (f_LH_does (f_LH_does t (11 : Int32) x2 (0 : Int32) (0 : Int32)).2 (10 : Int32) (0 : Int32) (0 : Int32) (0 : Int32)).2 ∧ ((((f_LH_areAlike s (f_LH_does (f_LH_does t (11 : Int32) x2 (0 : Int32) (0 : Int32)).2 (10 : Int32) (0 : Int32) (0 : Int32) (0 : Int32)).2).1 = 0) → True) ∧ (¬ ((f_LH_areAlike s (f_LH_does (f_LH_does t (11 : Int32) x2 (0 : Int32) (0 : Int32)).2 (10 : Int32) (0 : Int32) (0 : Int32) (0 : Int32)).2).1 = 0) → True))) ∧ (¬ ((f_LH_does (f_LH_does t (11 : Int32) x2 (0 : Int32) (0 : Int32)).2 (10 : Int32) (0 : Int32) (0 : Int32) (0 : Int32)).1 = (f_CB_undoable s)) → True)))) ∧ (¬ ((f_LH_does t (11 : Int32) x2 (0 : Int32) (0 : Int32)).1 = x4) → True)))
set_option maxRecDepth 100000 in
theorem w_LH_isActSo_122 {l : Launch} {g : am_Gl} (hg : g.2.2.2.1 = true) {ad0 : Nat → Nat}  {s : am_M} {t : am_M} {x2 : Int32} {x3 : Int32} {x4 : Int32} {y0 : Int32} {k z : Nat} (hk : k ≤ 5) (hz : z ≤ 30) (h : p_LH_isActSo_122  s t x2 x3 x4 y0) : AW l g m_LH_isActSo 414 ad0 (am_oC2 (f_LH_isActSo_122  s t x2 x3 x4 y0)) k z 414 (jn s t) 122 [(0, .ref 0), (1, .ref 207), (2, .int x2), (3, .int x3), (4, .int x4)] [.int y0] := by
  refine am_istore (lv2 := [(5, .int y0), (0, .ref 0), (1, .ref 207), (2, .int x2), (3, .int x3), (4, .int x4)]) d_LH_isActSo_122 (by decide) rfl ?_
  refine am_aload_n (j := 2) d_LH_isActSo_124 rfl rfl ?_
  refine am_bipush (v := (11 : Int32)) d_LH_isActSo_125 (by decide) ?_
  refine am_iload_n (j := 3) d_LH_isActSo_127 rfl rfl ?_
  refine am_iconst (v := (0 : Int32)) d_LH_isActSo_128 (by decide) ?_
  refine am_iconst (v := (0 : Int32)) d_LH_isActSo_129 (by decide) ?_
  obtain ⟨hc, h⟩ := h
  refine ak9_SX (as := [.ref 207, .int (11 : Int32), .int x2, .int (0 : Int32), .int (0 : Int32)]) (rest := []) d_LH_isActSo_130 cw_LH_isActSo_130 rfl (am_2P (av1 := [.ref 0, .int (11 : Int32), .int x2, .int (0 : Int32), .int (0 : Int32)]) hg rfl (fun _ => rfl) (fun A9 => am_1C (ct_LH_does (g := am_ga g A9) hg hc))) rfl rfl (Nat.le_of_ble_eq_true rfl) (by show k + 4 ≤ 4936; omega) (by show z + 24 ≤ 29616; omega) ?_
  refine am_istore (lv2 := [(6, .int (f_LH_does t (11 : Int32) x2 (0 : Int32) (0 : Int32)).1), (5, .int y0), (0, .ref 0), (1, .ref 207), (2, .int x2), (3, .int x3), (4, .int x4)]) d_LH_isActSo_133 (by decide) rfl ?_
  refine am_iload (j := 1) d_LH_isActSo_135 rfl ?_
  refine ai_eq (F := am_oC2) (tgt := 180) d_LH_isActSo_137 (by decide) (fun c => ?_) (fun c => ?_)
  · have h := h.1 c
    refine am_iconst (v := (0 : Int32)) d_LH_isActSo_180 (by decide) ?_
    exact am_iret d_LH_isActSo_181 rfl (am_bool (Or.inl rfl)).1 (by show k + 4 ≤ 4936; omega) (by show z + 24 ≤ 29616; omega) am_oC2_ok
  · have h := h.2 c
    refine am_iload (j := 0) d_LH_isActSo_140 rfl ?_
    refine am_iload (j := 6) d_LH_isActSo_142 rfl ?_
    refine aj_ne (F := am_oC2) (tgt := 180) d_LH_isActSo_144 (by decide) (fun c => ?_) (fun c => ?_)
    · have h := h.2 c
      refine am_iconst (v := (0 : Int32)) d_LH_isActSo_180 (by decide) ?_
      exact am_iret d_LH_isActSo_181 rfl (am_bool (Or.inl rfl)).1 (by show k + 4 ≤ 4936; omega) (by show z + 24 ≤ 29616; omega) am_oC2_ok
    · have h := h.1 c
      refine am_iload (j := 6) d_LH_isActSo_147 rfl ?_
      refine ai_eq (F := am_oC2) (tgt := 168) d_LH_isActSo_149 (by decide) (fun c => ?_) (fun c => ?_)
      · have h := h.1 c
        refine am_aload_n (j := 2) d_LH_isActSo_168 rfl rfl ?_
        refine am_aload_n (j := 3) d_LH_isActSo_169 rfl rfl ?_
        obtain ⟨hc, h⟩ := h
        refine ak9_S (as := [.ref 0, .ref 207]) (rest := []) d_LH_isActSo_170 cw_LH_isActSo_170 rfl (ct_LH_areAlike hg hc) rfl rfl (Nat.le_of_ble_eq_true rfl) (by show k + 4 + 4923 ≤ 4936; omega) (by show z + 24 + 29538 ≤ 29616; omega) ?_
        refine ai_eq (F := am_oC2) (tgt := 180) d_LH_isActSo_173 (by decide) (fun c => ?_) (fun c => ?_)
        · have h := h.1 c
          refine am_iconst (v := (0 : Int32)) d_LH_isActSo_180 (by decide) ?_
          exact am_iret d_LH_isActSo_181 rfl (am_bool (Or.inl rfl)).1 (by show k + 4 + 4923 ≤ 4936; omega) (by show z + 24 + 29538 ≤ 29616; omega) am_oC2_ok
        · have h := h.2 c
          refine am_iconst (v := (1 : Int32)) d_LH_isActSo_176 (by decide) ?_
          refine am_goto (tgt := 181) d_LH_isActSo_177 (by decide) ?_
          exact am_iret d_LH_isActSo_181 rfl (am_bool (Or.inr rfl)).1 (by show k + 4 + 4923 ≤ 4936; omega) (by show z + 24 + 29538 ≤ 29616; omega) am_oC2_ok
      · have h := h.2 c
        refine am_aload_n (j := 3) d_LH_isActSo_152 rfl rfl ?_
        refine am_bipush (v := (10 : Int32)) d_LH_isActSo_153 (by decide) ?_
        refine am_iconst (v := (0 : Int32)) d_LH_isActSo_155 (by decide) ?_
        refine am_iconst (v := (0 : Int32)) d_LH_isActSo_156 (by decide) ?_
        refine am_iconst (v := (0 : Int32)) d_LH_isActSo_157 (by decide) ?_
        obtain ⟨hc, h⟩ := h
        refine ak9_SX (as := [.ref 207, .int (10 : Int32), .int (0 : Int32), .int (0 : Int32), .int (0 : Int32)]) (rest := []) d_LH_isActSo_158 cw_LH_isActSo_158 rfl (am_2P (av1 := [.ref 0, .int (10 : Int32), .int (0 : Int32), .int (0 : Int32), .int (0 : Int32)]) hg rfl (fun _ => rfl) (fun A9 => am_1C (ct_LH_does (g := am_ga g A9) hg hc))) rfl rfl (Nat.le_of_ble_eq_true rfl) (by show k + 4 + 4 ≤ 4936; omega) (by show z + 24 + 24 ≤ 29616; omega) ?_
        refine am_aload_n (j := 2) d_LH_isActSo_161 rfl rfl ?_
        refine ak9_V (as := []) (rest := [.int (f_LH_does (f_LH_does t (11 : Int32) x2 (0 : Int32) (0 : Int32)).2 (10 : Int32) (0 : Int32) (0 : Int32) (0 : Int32)).1]) d_LH_isActSo_162 cw_LH_isActSo_162 rfl (am_2O hg rfl (fun A9 => am_1I (ct_CB_undoable (g := am_ga g A9) hg))) rfl rfl rc_1 (Nat.le_of_ble_eq_true rfl) (by show k + 4 + 4 + 0 ≤ 4936; omega) (by show z + 24 + 24 + 0 ≤ 29616; omega) ?_
        refine aj_ne (F := am_oC2) (tgt := 180) d_LH_isActSo_165 (by decide) (fun c => ?_) (fun c => ?_)
        · have h := h.2 c
          refine am_iconst (v := (0 : Int32)) d_LH_isActSo_180 (by decide) ?_
          exact am_iret d_LH_isActSo_181 rfl (am_bool (Or.inl rfl)).1 (by show k + 4 + 4 + 0 ≤ 4936; omega) (by show z + 24 + 24 + 0 ≤ 29616; omega) am_oC2_ok
        · have h := h.1 c
          refine am_aload_n (j := 2) d_LH_isActSo_168 rfl rfl ?_
          refine am_aload_n (j := 3) d_LH_isActSo_169 rfl rfl ?_
          obtain ⟨hc, h⟩ := h
          refine ak9_S (as := [.ref 0, .ref 207]) (rest := []) d_LH_isActSo_170 cw_LH_isActSo_170 rfl (ct_LH_areAlike hg hc) rfl rfl (Nat.le_of_ble_eq_true rfl) (by show k + 4 + 4 + 0 + 4923 ≤ 4936; omega) (by show z + 24 + 24 + 0 + 29538 ≤ 29616; omega) ?_
          refine ai_eq (F := am_oC2) (tgt := 180) d_LH_isActSo_173 (by decide) (fun c => ?_) (fun c => ?_)
          · have h := h.1 c
            refine am_iconst (v := (0 : Int32)) d_LH_isActSo_180 (by decide) ?_
            exact am_iret d_LH_isActSo_181 rfl (am_bool (Or.inl rfl)).1 (by show k + 4 + 4 + 0 + 4923 ≤ 4936; omega) (by show z + 24 + 24 + 0 + 29538 ≤ 29616; omega) am_oC2_ok
          · have h := h.2 c
            refine am_iconst (v := (1 : Int32)) d_LH_isActSo_176 (by decide) ?_
            refine am_goto (tgt := 181) d_LH_isActSo_177 (by decide) ?_
            exact am_iret d_LH_isActSo_181 rfl (am_bool (Or.inr rfl)).1 (by show k + 4 + 4 + 0 + 4923 ≤ 4936; omega) (by show z + 24 + 24 + 0 + 29538 ≤ 29616; omega) am_oC2_ok
def f_LH_isActSo_117  (s : am_M) (t : am_M) (x2 : Int32) (x3 : Int32) (x4 : Int32) : Int32 × am_M × am_M := (f_LH_isActSo_122 s t x2 x3 x4 (1 : Int32))
def p_LH_isActSo_117  (s : am_M) (t : am_M) (x2 : Int32) (x3 : Int32) (x4 : Int32) : Prop := (p_LH_isActSo_122 s t x2 x3 x4 (1 : Int32))
set_option maxRecDepth 100000 in
theorem w_LH_isActSo_117 {l : Launch} {g : am_Gl} (hg : g.2.2.2.1 = true) {ad0 : Nat → Nat}  {s : am_M} {t : am_M} {x2 : Int32} {x3 : Int32} {x4 : Int32} {k z : Nat} (hk : k ≤ 5) (hz : z ≤ 30) (h : p_LH_isActSo_117  s t x2 x3 x4) : AW l g m_LH_isActSo 414 ad0 (am_oC2 (f_LH_isActSo_117  s t x2 x3 x4)) k z 414 (jn s t) 117 [(0, .ref 0), (1, .ref 207), (2, .int x2), (3, .int x3), (4, .int x4)] [] := by
  refine am_iconst (v := (1 : Int32)) d_LH_isActSo_117 (by decide) ?_
  refine am_goto (tgt := 122) d_LH_isActSo_118 (by decide) ?_
  exact w_LH_isActSo_122 hg  (by show k ≤ 5; omega) (by show z ≤ 30; omega) h
def f_LH_isActSo_121  (s : am_M) (t : am_M) (x2 : Int32) (x3 : Int32) (x4 : Int32) : Int32 × am_M × am_M := (f_LH_isActSo_122 s t x2 x3 x4 (0 : Int32))
def p_LH_isActSo_121  (s : am_M) (t : am_M) (x2 : Int32) (x3 : Int32) (x4 : Int32) : Prop := (p_LH_isActSo_122 s t x2 x3 x4 (0 : Int32))
set_option maxRecDepth 100000 in
theorem w_LH_isActSo_121 {l : Launch} {g : am_Gl} (hg : g.2.2.2.1 = true) {ad0 : Nat → Nat}  {s : am_M} {t : am_M} {x2 : Int32} {x3 : Int32} {x4 : Int32} {k z : Nat} (hk : k ≤ 5) (hz : z ≤ 30) (h : p_LH_isActSo_121  s t x2 x3 x4) : AW l g m_LH_isActSo 414 ad0 (am_oC2 (f_LH_isActSo_121  s t x2 x3 x4)) k z 414 (jn s t) 121 [(0, .ref 0), (1, .ref 207), (2, .int x2), (3, .int x3), (4, .int x4)] [] := by
  refine am_iconst (v := (0 : Int32)) d_LH_isActSo_121 (by decide) ?_
  exact w_LH_isActSo_122 hg  (by show k ≤ 5; omega) (by show z ≤ 30; omega) h
def f_LH_isActSo_96  (s : am_M) (t : am_M) (x2 : Int32) (x3 : Int32) (x4 : Int32) (y0 : Int32) (y1 : Int32) : Int32 × am_M × am_M := (if y0 = y1 then (f_LH_isActSo_117 s t x2 x3 x4) else (f_LH_isActSo_121 s t x2 x3 x4))
def p_LH_isActSo_96  (s : am_M) (t : am_M) (x2 : Int32) (x3 : Int32) (x4 : Int32) (y0 : Int32) (y1 : Int32) : Prop := ((y0 = y1) → (p_LH_isActSo_117 s t x2 x3 x4)) ∧ (¬ (y0 = y1) → (p_LH_isActSo_121 s t x2 x3 x4))
set_option maxRecDepth 100000 in
theorem w_LH_isActSo_96 {l : Launch} {g : am_Gl} (hg : g.2.2.2.1 = true) {ad0 : Nat → Nat}  {s : am_M} {t : am_M} {x2 : Int32} {x3 : Int32} {x4 : Int32} {y0 : Int32} {y1 : Int32} {k z : Nat} (hk : k ≤ 5) (hz : z ≤ 30) (h : p_LH_isActSo_96  s t x2 x3 x4 y0 y1) : AW l g m_LH_isActSo 414 ad0 (am_oC2 (f_LH_isActSo_96  s t x2 x3 x4 y0 y1)) k z 414 (jn s t) 96 [(0, .ref 0), (1, .ref 207), (2, .int x2), (3, .int x3), (4, .int x4)] [.int y1, .int y0] := by
  refine aj_ne (F := am_oC2) (tgt := 121) d_LH_isActSo_96 (by decide) (fun c => ?_) (fun c => ?_)
  · have h := h.2 c
    exact w_LH_isActSo_121 hg  (by show k ≤ 5; omega) (by show z ≤ 30; omega) h
  · have h := h.1 c
    refine am_goto (tgt := 117) d_LH_isActSo_99 (by decide) ?_
    exact w_LH_isActSo_117 hg  (by show k ≤ 5; omega) (by show z ≤ 30; omega) h
def f_LH_isActSo_79  (s : am_M) (t : am_M) (x2 : Int32) (x3 : Int32) (x4 : Int32) (y0 : Int32) (y1 : Int32) : Int32 × am_M × am_M := (if y0 = y1 then (if (5 : Int32) ≤ x3 then (f_LH_isActSo_96 (h_CB_undo s).2.2 t x2 x3 x4 (h_CB_undo s).2.1 (4 : Int32)) else (f_LH_isActSo_96 (h_CB_undo s).2.2 t x2 x3 x4 (h_CB_undo s).2.1 x3)) else (f_LH_isActSo_121 s t x2 x3 x4))
def p_LH_isActSo_79  (s : am_M) (t : am_M) (x2 : Int32) (x3 : Int32) (x4 : Int32) (y0 : Int32) (y1 : Int32) : Prop := ((y0 = y1) → p_CB_undo s ∧ ((h_CB_undo s).1 = 0 ∧ ((((5 : Int32) ≤ x3) → (p_LH_isActSo_96 (h_CB_undo s).2.2 t x2 x3 x4 (h_CB_undo s).2.1 (4 : Int32))) ∧ (¬ ((5 : Int32) ≤ x3) → (p_LH_isActSo_96 (h_CB_undo s).2.2 t x2 x3 x4 (h_CB_undo s).2.1 x3))))) ∧ (¬ (y0 = y1) → (p_LH_isActSo_121 s t x2 x3 x4))
set_option maxRecDepth 100000 in
theorem w_LH_isActSo_79 {l : Launch} {g : am_Gl} (hg : g.2.2.2.1 = true) {ad0 : Nat → Nat}  {s : am_M} {t : am_M} {x2 : Int32} {x3 : Int32} {x4 : Int32} {y0 : Int32} {y1 : Int32} {k z : Nat} (hk : k ≤ 4) (hz : z ≤ 24) (h : p_LH_isActSo_79  s t x2 x3 x4 y0 y1) : AW l g m_LH_isActSo 414 ad0 (am_oC2 (f_LH_isActSo_79  s t x2 x3 x4 y0 y1)) k z 414 (jn s t) 79 [(0, .ref 0), (1, .ref 207), (2, .int x2), (3, .int x3), (4, .int x4)] [.int y1, .int y0] := by
  refine aj_ne (F := am_oC2) (tgt := 121) d_LH_isActSo_79 (by decide) (fun c => ?_) (fun c => ?_)
  · have h := h.2 c
    exact w_LH_isActSo_121 hg  (by show k ≤ 5; omega) (by show z ≤ 30; omega) h
  · have h := h.1 c
    refine am_aload_n (j := 0) d_LH_isActSo_82 rfl rfl ?_
    obtain ⟨hc, h⟩ := h
    obtain ⟨h0, h⟩ := h
    refine ak9_VX (as := []) (rest := []) d_LH_isActSo_83 cw_LH_isActSo_83 rfl (am_2O hg rfl (fun A9 => am_1E h0 (ch_CB_undo (g := am_ga g A9) hg hc))) rfl rfl rc_1 (Nat.le_of_ble_eq_true rfl) (by show k + 1 ≤ 4936; omega) (by show z + 6 ≤ 29616; omega) ?_
    refine am_iload_n (j := 3) d_LH_isActSo_86 rfl rfl ?_
    refine am_iconst (v := (5 : Int32)) d_LH_isActSo_87 (by decide) ?_
    refine aj_ge (F := am_oC2) (tgt := 95) d_LH_isActSo_88 (by decide) (fun c => ?_) (fun c => ?_)
    · have h := h.1 c
      refine am_iconst (v := (4 : Int32)) d_LH_isActSo_95 (by decide) ?_
      exact w_LH_isActSo_96 hg  (by show k + 1 ≤ 5; omega) (by show z + 6 ≤ 30; omega) h
    · have h := h.2 c
      refine am_iload_n (j := 3) d_LH_isActSo_91 rfl rfl ?_
      refine am_goto (tgt := 96) d_LH_isActSo_92 (by decide) ?_
      exact w_LH_isActSo_96 hg  (by show k + 1 ≤ 5; omega) (by show z + 6 ≤ 30; omega) h
def f_LH_isActSo (s : am_M) (t : am_M) (x2 : Int32) : Int32 × am_M × am_M := (if (f_LH_does s (11 : Int32) x2 (0 : Int32) (0 : Int32)).1 = (-9999999 : Int32) then (if (f_LH_does t (11 : Int32) x2 (0 : Int32) (0 : Int32)).1 = (f_LH_does s (11 : Int32) x2 (0 : Int32) (0 : Int32)).1 then ((1 : Int32), (f_LH_does s (11 : Int32) x2 (0 : Int32) (0 : Int32)).2, (f_LH_does t (11 : Int32) x2 (0 : Int32) (0 : Int32)).2) else ((0 : Int32), (f_LH_does s (11 : Int32) x2 (0 : Int32) (0 : Int32)).2, (f_LH_does t (11 : Int32) x2 (0 : Int32) (0 : Int32)).2)) else (if (f_CB_broken (f_LH_does s (11 : Int32) x2 (0 : Int32) (0 : Int32)).2).1 = 0 then (if (f_LH_does s (11 : Int32) x2 (0 : Int32) (0 : Int32)).1 = (1 : Int32) then (if (f_CB_reason (f_CB_broken (f_LH_does s (11 : Int32) x2 (0 : Int32) (0 : Int32)).2).2) = 0 then (if (5 : Int32) ≤ (f_CB_undoable s) then (f_LH_isActSo_79 (f_CB_broken (f_LH_does s (11 : Int32) x2 (0 : Int32) (0 : Int32)).2).2 t x2 (f_CB_undoable s) (f_LH_does s (11 : Int32) x2 (0 : Int32) (0 : Int32)).1 (f_CB_undoable (f_CB_broken (f_LH_does s (11 : Int32) x2 (0 : Int32) (0 : Int32)).2).2) (5 : Int32)) else (f_LH_isActSo_79 (f_CB_broken (f_LH_does s (11 : Int32) x2 (0 : Int32) (0 : Int32)).2).2 t x2 (f_CB_undoable s) (f_LH_does s (11 : Int32) x2 (0 : Int32) (0 : Int32)).1 (f_CB_undoable (f_CB_broken (f_LH_does s (11 : Int32) x2 (0 : Int32) (0 : Int32)).2).2) ((f_CB_undoable s) + (1 : Int32)))) else (f_LH_isActSo_121 (f_CB_broken (f_LH_does s (11 : Int32) x2 (0 : Int32) (0 : Int32)).2).2 t x2 (f_CB_undoable s) (f_LH_does s (11 : Int32) x2 (0 : Int32) (0 : Int32)).1)) else (if (f_CB_reason (f_CB_broken (f_LH_does s (11 : Int32) x2 (0 : Int32) (0 : Int32)).2).2) ≤ 0 then (f_LH_isActSo_121 (f_CB_broken (f_LH_does s (11 : Int32) x2 (0 : Int32) (0 : Int32)).2).2 t x2 (f_CB_undoable s) (f_LH_does s (11 : Int32) x2 (0 : Int32) (0 : Int32)).1) else (if (f_CB_undoable (f_CB_broken (f_LH_does s (11 : Int32) x2 (0 : Int32) (0 : Int32)).2).2) = (f_CB_undoable s) then (f_LH_isActSo_117 (f_CB_broken (f_LH_does s (11 : Int32) x2 (0 : Int32) (0 : Int32)).2).2 t x2 (f_CB_undoable s) (f_LH_does s (11 : Int32) x2 (0 : Int32) (0 : Int32)).1) else (f_LH_isActSo_121 (f_CB_broken (f_LH_does s (11 : Int32) x2 (0 : Int32) (0 : Int32)).2).2 t x2 (f_CB_undoable s) (f_LH_does s (11 : Int32) x2 (0 : Int32) (0 : Int32)).1)))) else (f_LH_isActSo_121 (f_CB_broken (f_LH_does s (11 : Int32) x2 (0 : Int32) (0 : Int32)).2).2 t x2 (f_CB_undoable s) (f_LH_does s (11 : Int32) x2 (0 : Int32) (0 : Int32)).1)))
def p_LH_isActSo (s : am_M) (t : am_M) (x2 : Int32) : Prop := p_LH_does s (11 : Int32) x2 (0 : Int32) (0 : Int32) ∧ ((((f_LH_does s (11 : Int32) x2 (0 : Int32) (0 : Int32)).1 = (-9999999 : Int32)) → p_LH_does t (11 : Int32) x2 (0 : Int32) (0 : Int32) ∧ ((((f_LH_does t (11 : Int32) x2 (0 : Int32) (0 : Int32)).1 = (f_LH_does s (11 : Int32) x2 (0 : Int32) (0 : Int32)).1) → True) ∧ (¬ ((f_LH_does t (11 : Int32) x2 (0 : Int32) (0 : Int32)).1 = (f_LH_does s (11 : Int32) x2 (0 : Int32) (0 : Int32)).1) → True))) ∧ (¬ ((f_LH_does s (11 : Int32) x2 (0 : Int32) (0 : Int32)).1 = (-9999999 : Int32)) → p_CB_broken (f_LH_does s (11 : Int32) x2 (0 : Int32) (0 : Int32)).2 ∧ ((((f_CB_broken (f_LH_does s (11 : Int32) x2 (0 : Int32) (0 : Int32)).2).1 = 0) → (((f_LH_does s (11 : Int32) x2 (0 : Int32) (0 : Int32)).1 = (1 : Int32)) → (((f_CB_reason (f_CB_broken (f_LH_does s (11 : Int32) x2 (0 : Int32) (0 : Int32)).2).2) = 0) → (((5 : Int32) ≤ (f_CB_undoable s)) → (p_LH_isActSo_79 (f_CB_broken (f_LH_does s (11 : Int32) x2 (0 : Int32) (0 : Int32)).2).2 t x2 (f_CB_undoable s) (f_LH_does s (11 : Int32) x2 (0 : Int32) (0 : Int32)).1 (f_CB_undoable (f_CB_broken (f_LH_does s (11 : Int32) x2 (0 : Int32) (0 : Int32)).2).2) (5 : Int32))) ∧ (¬ ((5 : Int32) ≤ (f_CB_undoable s)) → (p_LH_isActSo_79 (f_CB_broken (f_LH_does s (11 : Int32) x2 (0 : Int32) (0 : Int32)).2).2 t x2 (f_CB_undoable s) (f_LH_does s (11 : Int32) x2 (0 : Int32) (0 : Int32)).1 (f_CB_undoable (f_CB_broken (f_LH_does s (11 : Int32) x2 (0 : Int32) (0 : Int32)).2).2) ((f_CB_undoable s) + (1 : Int32))))) ∧ (¬ ((f_CB_reason (f_CB_broken (f_LH_does s (11 : Int32) x2 (0 : Int32) (0 : Int32)).2).2) = 0) → (p_LH_isActSo_121 (f_CB_broken (f_LH_does s (11 : Int32) x2 (0 : Int32) (0 : Int32)).2).2 t x2 (f_CB_undoable s) (f_LH_does s (11 : Int32) x2 (0 : Int32) (0 : Int32)).1))) ∧ (¬ ((f_LH_does s (11 : Int32) x2 (0 : Int32) (0 : Int32)).1 = (1 : Int32)) → (((f_CB_reason (f_CB_broken (f_LH_does s (11 : Int32) x2 (0 : Int32) (0 : Int32)).2).2) ≤ 0) → (p_LH_isActSo_121 (f_CB_broken (f_LH_does s (11 : Int32) x2 (0 : Int32) (0 : Int32)).2).2 t x2 (f_CB_undoable s) (f_LH_does s (11 : Int32) x2 (0 : Int32) (0 : Int32)).1)) ∧ (¬ ((f_CB_reason (f_CB_broken (f_LH_does s (11 : Int32) x2 (0 : Int32) (0 : Int32)).2).2) ≤ 0) → (((f_CB_undoable (f_CB_broken (f_LH_does s (11 : Int32) x2 (0 : Int32) (0 : Int32)).2).2) = (f_CB_undoable s)) → (p_LH_isActSo_117 (f_CB_broken (f_LH_does s (11 : Int32) x2 (0 : Int32) (0 : Int32)).2).2 t x2 (f_CB_undoable s) (f_LH_does s (11 : Int32) x2 (0 : Int32) (0 : Int32)).1)) ∧ (¬ ((f_CB_undoable (f_CB_broken (f_LH_does s (11 : Int32) x2 (0 : Int32) (0 : Int32)).2).2) = (f_CB_undoable s)) → (p_LH_isActSo_121 (f_CB_broken (f_LH_does s (11 : Int32) x2 (0 : Int32) (0 : Int32)).2).2 t x2 (f_CB_undoable s) (f_LH_does s (11 : Int32) x2 (0 : Int32) (0 : Int32)).1))))) ∧ (¬ ((f_CB_broken (f_LH_does s (11 : Int32) x2 (0 : Int32) (0 : Int32)).2).1 = 0) → (p_LH_isActSo_121 (f_CB_broken (f_LH_does s (11 : Int32) x2 (0 : Int32) (0 : Int32)).2).2 t x2 (f_CB_undoable s) (f_LH_does s (11 : Int32) x2 (0 : Int32) (0 : Int32)).1)))))
set_option maxRecDepth 100000 in
theorem w_LH_isActSo {l : Launch} {g : am_Gl} (hg : g.2.2.2.1 = true) {ad0 : Nat → Nat} {s : am_M} {t : am_M} {x2 : Int32} (h : p_LH_isActSo s t x2) : AW l g m_LH_isActSo 414 ad0 (am_oC2 (f_LH_isActSo s t x2)) 0 0 414 (jn s t) 0 [(0, .ref 0), (1, .ref 207), (2, .int x2)] [] := by
  refine am_aload_n (j := 0) d_LH_isActSo_0 rfl rfl ?_
  refine ak9_V (as := []) (rest := []) d_LH_isActSo_1 cw_LH_isActSo_1 rfl (am_2O hg rfl (fun A9 => am_1I (ct_CB_undoable (g := am_ga g A9) hg))) rfl rfl rc_1 (Nat.le_of_ble_eq_true rfl) (by show 0 + 0 ≤ 4936; omega) (by show 0 + 0 ≤ 29616; omega) ?_
  refine am_istore_n (lv2 := [(3, .int (f_CB_undoable s)), (0, .ref 0), (1, .ref 207), (2, .int x2)]) d_LH_isActSo_4 rfl (by decide) rfl ?_
  refine am_aload_n (j := 1) d_LH_isActSo_5 rfl rfl ?_
  refine am_bipush (v := (11 : Int32)) d_LH_isActSo_6 (by decide) ?_
  refine am_iload_n (j := 3) d_LH_isActSo_8 rfl rfl ?_
  refine am_iconst (v := (0 : Int32)) d_LH_isActSo_9 (by decide) ?_
  refine am_iconst (v := (0 : Int32)) d_LH_isActSo_10 (by decide) ?_
  obtain ⟨hc, h⟩ := h
  refine ak9_SX (as := [.ref 0, .int (11 : Int32), .int x2, .int (0 : Int32), .int (0 : Int32)]) (rest := []) d_LH_isActSo_11 cw_LH_isActSo_11 rfl (am_2O hg rfl (fun A9 => am_1C (ct_LH_does (g := am_ga g A9) hg hc))) rfl rfl (Nat.le_of_ble_eq_true rfl) (by show 0 + 0 + 4 ≤ 4936; omega) (by show 0 + 0 + 24 ≤ 29616; omega) ?_
  refine am_istore (lv2 := [(4, .int (f_LH_does s (11 : Int32) x2 (0 : Int32) (0 : Int32)).1), (3, .int (f_CB_undoable s)), (0, .ref 0), (1, .ref 207), (2, .int x2)]) d_LH_isActSo_14 (by decide) rfl ?_
  refine am_iload (j := 0) d_LH_isActSo_16 rfl ?_
  refine am_ldc (v := (-9999999 : Int32)) d_LH_isActSo_18 aw_3_220 ?_
  refine aj_ne (F := am_oC2) (tgt := 43) d_LH_isActSo_20 (by decide) (fun c => ?_) (fun c => ?_)
  · have h := h.2 c
    refine am_aload_n (j := 2) d_LH_isActSo_43 rfl rfl ?_
    obtain ⟨hc, h⟩ := h
    refine ak9_V (as := []) (rest := []) d_LH_isActSo_44 cw_LH_isActSo_44 rfl (am_2O hg rfl (fun A9 => am_1C (ct_CB_broken (g := am_ga g A9) hg hc))) rfl rfl rc_1 (Nat.le_of_ble_eq_true rfl) (by show 0 + 0 + 4 + 0 ≤ 4936; omega) (by show 0 + 0 + 24 + 0 ≤ 29616; omega) ?_
    refine ai_ne (F := am_oC2) (tgt := 121) d_LH_isActSo_47 (by decide) (fun c => ?_) (fun c => ?_)
    · have h := h.2 c
      refine am_sub [2, 3, 4, 1, 0] (lv2 := [(0, .ref 0), (1, .ref 207), (2, .int x2), (3, .int (f_CB_undoable s)), (4, .int (f_LH_does s (11 : Int32) x2 (0 : Int32) (0 : Int32)).1)]) rfl ?_
      exact w_LH_isActSo_121 hg  (by show 0 + 0 + 4 + 0 ≤ 5; omega) (by show 0 + 0 + 24 + 0 ≤ 30; omega) h
    · have h := h.1 c
      refine am_iload (j := 0) d_LH_isActSo_50 rfl ?_
      refine am_iconst (v := (1 : Int32)) d_LH_isActSo_52 (by decide) ?_
      refine aj_ne (F := am_oC2) (tgt := 102) d_LH_isActSo_53 (by decide) (fun c => ?_) (fun c => ?_)
      · have h := h.2 c
        refine am_aload_n (j := 2) d_LH_isActSo_102 rfl rfl ?_
        refine ak9_V (as := []) (rest := []) d_LH_isActSo_103 cw_LH_isActSo_103 rfl (am_2O hg rfl (fun A9 => am_1I (ct_CB_reason (g := am_ga g A9) hg))) rfl rfl rc_1 (Nat.le_of_ble_eq_true rfl) (by show 0 + 0 + 4 + 0 + 0 ≤ 4936; omega) (by show 0 + 0 + 24 + 0 + 0 ≤ 29616; omega) ?_
        refine ai_le (F := am_oC2) (tgt := 121) d_LH_isActSo_106 (by decide) (fun c => ?_) (fun c => ?_)
        · have h := h.1 c
          refine am_sub [2, 3, 4, 1, 0] (lv2 := [(0, .ref 0), (1, .ref 207), (2, .int x2), (3, .int (f_CB_undoable s)), (4, .int (f_LH_does s (11 : Int32) x2 (0 : Int32) (0 : Int32)).1)]) rfl ?_
          exact w_LH_isActSo_121 hg  (by show 0 + 0 + 4 + 0 + 0 ≤ 5; omega) (by show 0 + 0 + 24 + 0 + 0 ≤ 30; omega) h
        · have h := h.2 c
          refine am_aload_n (j := 2) d_LH_isActSo_109 rfl rfl ?_
          refine ak9_V (as := []) (rest := []) d_LH_isActSo_110 cw_LH_isActSo_110 rfl (am_2O hg rfl (fun A9 => am_1I (ct_CB_undoable (g := am_ga g A9) hg))) rfl rfl rc_1 (Nat.le_of_ble_eq_true rfl) (by show 0 + 0 + 4 + 0 + 0 + 0 ≤ 4936; omega) (by show 0 + 0 + 24 + 0 + 0 + 0 ≤ 29616; omega) ?_
          refine am_iload_n (j := 1) d_LH_isActSo_113 rfl rfl ?_
          refine aj_ne (F := am_oC2) (tgt := 121) d_LH_isActSo_114 (by decide) (fun c => ?_) (fun c => ?_)
          · have h := h.2 c
            refine am_sub [2, 3, 4, 1, 0] (lv2 := [(0, .ref 0), (1, .ref 207), (2, .int x2), (3, .int (f_CB_undoable s)), (4, .int (f_LH_does s (11 : Int32) x2 (0 : Int32) (0 : Int32)).1)]) rfl ?_
            exact w_LH_isActSo_121 hg  (by show 0 + 0 + 4 + 0 + 0 + 0 ≤ 5; omega) (by show 0 + 0 + 24 + 0 + 0 + 0 ≤ 30; omega) h
          · have h := h.1 c
            refine am_sub [2, 3, 4, 1, 0] (lv2 := [(0, .ref 0), (1, .ref 207), (2, .int x2), (3, .int (f_CB_undoable s)), (4, .int (f_LH_does s (11 : Int32) x2 (0 : Int32) (0 : Int32)).1)]) rfl ?_
            exact w_LH_isActSo_117 hg  (by show 0 + 0 + 4 + 0 + 0 + 0 ≤ 5; omega) (by show 0 + 0 + 24 + 0 + 0 + 0 ≤ 30; omega) h
      · have h := h.1 c
        refine am_aload_n (j := 2) d_LH_isActSo_56 rfl rfl ?_
        refine ak9_V (as := []) (rest := []) d_LH_isActSo_57 cw_LH_isActSo_57 rfl (am_2O hg rfl (fun A9 => am_1I (ct_CB_reason (g := am_ga g A9) hg))) rfl rfl rc_1 (Nat.le_of_ble_eq_true rfl) (by show 0 + 0 + 4 + 0 + 0 ≤ 4936; omega) (by show 0 + 0 + 24 + 0 + 0 ≤ 29616; omega) ?_
        refine ai_ne (F := am_oC2) (tgt := 121) d_LH_isActSo_60 (by decide) (fun c => ?_) (fun c => ?_)
        · have h := h.2 c
          refine am_sub [2, 3, 4, 1, 0] (lv2 := [(0, .ref 0), (1, .ref 207), (2, .int x2), (3, .int (f_CB_undoable s)), (4, .int (f_LH_does s (11 : Int32) x2 (0 : Int32) (0 : Int32)).1)]) rfl ?_
          exact w_LH_isActSo_121 hg  (by show 0 + 0 + 4 + 0 + 0 ≤ 5; omega) (by show 0 + 0 + 24 + 0 + 0 ≤ 30; omega) h
        · have h := h.1 c
          refine am_aload_n (j := 2) d_LH_isActSo_63 rfl rfl ?_
          refine ak9_V (as := []) (rest := []) d_LH_isActSo_64 cw_LH_isActSo_64 rfl (am_2O hg rfl (fun A9 => am_1I (ct_CB_undoable (g := am_ga g A9) hg))) rfl rfl rc_1 (Nat.le_of_ble_eq_true rfl) (by show 0 + 0 + 4 + 0 + 0 + 0 ≤ 4936; omega) (by show 0 + 0 + 24 + 0 + 0 + 0 ≤ 29616; omega) ?_
          refine am_iload_n (j := 1) d_LH_isActSo_67 rfl rfl ?_
          refine am_iconst (v := (5 : Int32)) d_LH_isActSo_68 (by decide) ?_
          refine aj_ge (F := am_oC2) (tgt := 78) d_LH_isActSo_69 (by decide) (fun c => ?_) (fun c => ?_)
          · have h := h.1 c
            refine am_iconst (v := (5 : Int32)) d_LH_isActSo_78 (by decide) ?_
            refine am_sub [2, 3, 4, 1, 0] (lv2 := [(0, .ref 0), (1, .ref 207), (2, .int x2), (3, .int (f_CB_undoable s)), (4, .int (f_LH_does s (11 : Int32) x2 (0 : Int32) (0 : Int32)).1)]) rfl ?_
            exact w_LH_isActSo_79 hg  (by show 0 + 0 + 4 + 0 + 0 + 0 ≤ 4; omega) (by show 0 + 0 + 24 + 0 + 0 + 0 ≤ 24; omega) h
          · have h := h.2 c
            refine am_iload_n (j := 1) d_LH_isActSo_72 rfl rfl ?_
            refine am_iconst (v := (1 : Int32)) d_LH_isActSo_73 (by decide) ?_
            refine am_iadd d_LH_isActSo_74 ?_
            refine am_goto (tgt := 79) d_LH_isActSo_75 (by decide) ?_
            refine am_sub [2, 3, 4, 1, 0] (lv2 := [(0, .ref 0), (1, .ref 207), (2, .int x2), (3, .int (f_CB_undoable s)), (4, .int (f_LH_does s (11 : Int32) x2 (0 : Int32) (0 : Int32)).1)]) rfl ?_
            exact w_LH_isActSo_79 hg  (by show 0 + 0 + 4 + 0 + 0 + 0 ≤ 4; omega) (by show 0 + 0 + 24 + 0 + 0 + 0 ≤ 24; omega) h
  · have h := h.1 c
    refine am_aload_n (j := 3) d_LH_isActSo_23 rfl rfl ?_
    refine am_bipush (v := (11 : Int32)) d_LH_isActSo_24 (by decide) ?_
    refine am_iload_n (j := 4) d_LH_isActSo_26 rfl rfl ?_
    refine am_iconst (v := (0 : Int32)) d_LH_isActSo_27 (by decide) ?_
    refine am_iconst (v := (0 : Int32)) d_LH_isActSo_28 (by decide) ?_
    obtain ⟨hc, h⟩ := h
    refine ak9_SX (as := [.ref 207, .int (11 : Int32), .int x2, .int (0 : Int32), .int (0 : Int32)]) (rest := []) d_LH_isActSo_29 cw_LH_isActSo_29 rfl (am_2P (av1 := [.ref 0, .int (11 : Int32), .int x2, .int (0 : Int32), .int (0 : Int32)]) hg rfl (fun _ => rfl) (fun A9 => am_1C (ct_LH_does (g := am_ga g A9) hg hc))) rfl rfl (Nat.le_of_ble_eq_true rfl) (by show 0 + 0 + 4 + 4 ≤ 4936; omega) (by show 0 + 0 + 24 + 24 ≤ 29616; omega) ?_
    refine am_iload (j := 0) d_LH_isActSo_32 rfl ?_
    refine aj_ne (F := am_oC2) (tgt := 41) d_LH_isActSo_34 (by decide) (fun c => ?_) (fun c => ?_)
    · have h := h.2 c
      refine am_iconst (v := (0 : Int32)) d_LH_isActSo_41 (by decide) ?_
      exact am_iret d_LH_isActSo_42 rfl (am_bool (Or.inl rfl)).1 (by show 0 + 0 + 4 + 4 ≤ 4936; omega) (by show 0 + 0 + 24 + 24 ≤ 29616; omega) am_oC2_ok
    · have h := h.1 c
      refine am_iconst (v := (1 : Int32)) d_LH_isActSo_37 (by decide) ?_
      refine am_goto (tgt := 42) d_LH_isActSo_38 (by decide) ?_
      exact am_iret d_LH_isActSo_42 rfl (am_bool (Or.inr rfl)).1 (by show 0 + 0 + 4 + 4 ≤ 4936; omega) (by show 0 + 0 + 24 + 24 ≤ 29616; omega) am_oC2_ok
theorem ct_LH_isActSo {l : Launch} {g : am_Gl} (hg : g.2.2.2.1 = true) {s : am_M} {t : am_M} {x2 : Int32} (h : p_LH_isActSo s t x2) : AC l g m_LH_isActSo 414 (jn s t) [.ref 0, .ref 207, .int x2] (am_oC2 (f_LH_isActSo s t x2)) := am_enter ok_LH_isActSo rfl (Nat.le_of_ble_eq_true rfl) rfl (fun ad0 => w_LH_isActSo hg h)
end

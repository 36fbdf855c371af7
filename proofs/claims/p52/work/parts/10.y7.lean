noncomputable section
theorem cw_LH_isLostSo_4 : am_cs m_LH_isLostSo m_LH_low 156 2 := ⟨⟨ok_LH_low, rfl, by decide +kernel, by decide, by decide⟩, aw_1_186, aw_1_187⟩
theorem cw_LH_isLostSo_19 : am_sh9 m_LH_isLostSo m_LH_sets 163 8 := ⟨ok_LH_sets, ⟨_, rfl⟩, by decide +kernel, by decide, by decide, aw_3_221, aw_3_222⟩
theorem cw_LH_isLostSo_33 : am_sh9 m_LH_isLostSo m_LH_sets 163 8 := ⟨ok_LH_sets, ⟨_, rfl⟩, by decide +kernel, by decide, by decide, aw_3_221, aw_3_222⟩
theorem cw_LH_isLostSo_47 : am_sh9 m_LH_isLostSo m_LH_sets 163 8 := ⟨ok_LH_sets, ⟨_, rfl⟩, by decide +kernel, by decide, by decide, aw_3_221, aw_3_222⟩
theorem cw_LH_isLostSo_98 : am_sh9 m_LH_isLostSo m_LH_sets 163 8 := ⟨ok_LH_sets, ⟨_, rfl⟩, by decide +kernel, by decide, by decide, aw_3_221, aw_3_222⟩
theorem cw_LH_isLostSo_119 : am_sh9 m_LH_isLostSo m_LH_sets 163 8 := ⟨ok_LH_sets, ⟨_, rfl⟩, by decide +kernel, by decide, by decide, aw_3_221, aw_3_222⟩
theorem cw_LH_isLostSo_155 : am_sh9 m_LH_isLostSo m_LH_sets 163 8 := ⟨ok_LH_sets, ⟨_, rfl⟩, by decide +kernel, by decide, by decide, aw_3_221, aw_3_222⟩
theorem cw_LH_isLostSo_168 : am_sh9 m_LH_isLostSo m_LH_sets 163 8 := ⟨ok_LH_sets, ⟨_, rfl⟩, by decide +kernel, by decide, by decide, aw_3_221, aw_3_222⟩
theorem cw_LH_isLostSo_186 : am_sh9 m_LH_isLostSo m_LH_sets 163 8 := ⟨ok_LH_sets, ⟨_, rfl⟩, by decide +kernel, by decide, by decide, aw_3_221, aw_3_222⟩
theorem cw_LH_isLostSo_209 : am_sh9 m_LH_isLostSo m_LH_sets 163 8 := ⟨ok_LH_sets, ⟨_, rfl⟩, by decide +kernel, by decide, by decide, aw_3_221, aw_3_222⟩
theorem cw_LH_isLostSo_229 : am_sh9 m_LH_isLostSo m_LH_sets 163 8 := ⟨ok_LH_sets, ⟨_, rfl⟩, by decide +kernel, by decide, by decide, aw_3_221, aw_3_222⟩
theorem cw_LH_isLostSo_238 : am_cv m_LH_isLostSo m_CB_reason 181 0 := ⟨⟨ok_CB_reason, rfl, by decide +kernel, by decide, by decide⟩, aw_5_83, aw_5_84, aw_5_85⟩
def f_LH_isLostSo_215  (s : am_M) (t : am_M) (x2 : Int32) (x3 : Int32) (x4 : Int32) (x5 : Int32) (x6 : Int32) (x7 : Int32) (x8 : Int32) (x9 : Int32) (x10 : Int32) : Int32 × am_M × am_M := (if x10 = 0 then (if (f_LH_sets s (12 : Int32) x2 x3 (0 : Int32) (0 : Int32) (0 : Int32) (0 : Int32)).1 = x9 then (if (f_CB_reason (f_LH_sets s (12 : Int32) x2 x3 (0 : Int32) (0 : Int32) (0 : Int32) (0 : Int32)).2) = (8 : Int32) then ((1 : Int32), (f_LH_sets s (12 : Int32) x2 x3 (0 : Int32) (0 : Int32) (0 : Int32) (0 : Int32)).2, t) else ((0 : Int32), (f_LH_sets s (12 : Int32) x2 x3 (0 : Int32) (0 : Int32) (0 : Int32) (0 : Int32)).2, t)) else ((0 : Int32), (f_LH_sets s (12 : Int32) x2 x3 (0 : Int32) (0 : Int32) (0 : Int32) (0 : Int32)).2, t)) else ((1 : Int32), s, t))
def p_LH_isLostSo_215  (s : am_M) (t : am_M) (x2 : Int32) (x3 : Int32) (x4 : Int32) (x5 : Int32) (x6 : Int32) (x7 : Int32) (x8 : Int32) (x9 : Int32) (x10 : Int32) : Prop := ((x10 = 0) → p_LH_sets s (12 : Int32) x2 x3 (0 : Int32) (0 : Int32) (0 : Int32) (0 : Int32) ∧ ((((f_LH_sets s (12 : Int32) x2 x3 (0 : Int32) (0 : Int32) (0 : Int32) (0 : Int32)).1 = x9) → (((f_CB_reason (f_LH_sets s (12 : Int32) x2 x3 (0 : Int32) (0 : Int32) (0 : Int32) (0 : Int32)).2) = (8 : Int32)) → True) ∧ (¬ ((f_CB_reason (f_LH_sets s (12 : Int32) x2 x3 (0 : Int32) (0 : Int32) (0 : Int32) (0 : Int32)).2) = (8 : Int32)) → True)) ∧ (¬ ((f_LH_sets s (12 : Int32) x2 x3 (0 : Int32) (0 : Int32) (0 : Int32) (0 : Int32)).1 = x9) → True))) ∧ (¬ (x10 = 0) → True)
set_option maxHeartbeats 8000000 in
set_option maxRecDepth 100000 in
theorem w_LH_isLostSo_215 {l : Launch} {g : am_Gl} (hg : g.2.2.2.1 = true) {ad0 : Nat → Nat}  {s : am_M} {t : am_M} {x2 : Int32} {x3 : Int32} {x4 : Int32} {x5 : Int32} {x6 : Int32} {x7 : Int32} {x8 : Int32} {x9 : Int32} {x10 : Int32} {k z : Nat} (hk : k ≤ 144) (hz : z ≤ 864) (h : p_LH_isLostSo_215  s t x2 x3 x4 x5 x6 x7 x8 x9 x10) : AW l g m_LH_isLostSo 414 ad0 (am_oC2 (f_LH_isLostSo_215  s t x2 x3 x4 x5 x6 x7 x8 x9 x10)) k z 414 (jn s t) 215 [(0, .ref 0), (1, .ref 207), (2, .int x2), (3, .int x3), (4, .int x4), (5, .int x5), (6, .int x6), (7, .int x7), (8, .int x8), (9, .int x9), (10, .int x10)] [] := by
  refine am_iload (j := 10) d_LH_isLostSo_215 rfl ?_
  refine ai_ne (F := am_oC2) (tgt := 246) d_LH_isLostSo_217 (by decide) (fun c => ?_) (fun c => ?_)
  · have h := h.2 c
    refine am_iconst (v := (1 : Int32)) d_LH_isLostSo_246 (by decide) ?_
    refine am_goto (tgt := 251) d_LH_isLostSo_247 (by decide) ?_
    exact am_iret d_LH_isLostSo_251 rfl (am_bool (Or.inr rfl)).1 (by show k ≤ 160; omega) (by show z ≤ 960; omega) am_oC2_ok
  · have h := h.1 c
    refine am_aload_n (j := 0) d_LH_isLostSo_220 rfl rfl ?_
    refine am_bipush (v := (12 : Int32)) d_LH_isLostSo_221 (by decide) ?_
    refine am_iload_n (j := 2) d_LH_isLostSo_223 rfl rfl ?_
    refine am_iload_n (j := 3) d_LH_isLostSo_224 rfl rfl ?_
    refine am_iconst (v := (0 : Int32)) d_LH_isLostSo_225 (by decide) ?_
    refine am_iconst (v := (0 : Int32)) d_LH_isLostSo_226 (by decide) ?_
    refine am_iconst (v := (0 : Int32)) d_LH_isLostSo_227 (by decide) ?_
    refine am_iconst (v := (0 : Int32)) d_LH_isLostSo_228 (by decide) ?_
    obtain ⟨hc, h⟩ := h
    refine ak9_SX (as := [.ref 0, .int (12 : Int32), .int x2, .int x3, .int (0 : Int32), .int (0 : Int32), .int (0 : Int32), .int (0 : Int32)]) (rest := []) d_LH_isLostSo_229 cw_LH_isLostSo_229 rfl (am_2O hg rfl (fun A9 => am_1C (ct_LH_sets (g := am_ga g A9) hg hc))) rfl rfl (Nat.le_of_ble_eq_true rfl) (by show k + 16 ≤ 160; omega) (by show z + 96 ≤ 960; omega) ?_
    refine am_iload (j := 9) d_LH_isLostSo_232 rfl ?_
    refine aj_ne (F := am_oC2) (tgt := 250) d_LH_isLostSo_234 (by decide) (fun c => ?_) (fun c => ?_)
    · have h := h.2 c
      refine am_iconst (v := (0 : Int32)) d_LH_isLostSo_250 (by decide) ?_
      exact am_iret d_LH_isLostSo_251 rfl (am_bool (Or.inl rfl)).1 (by show k + 16 ≤ 160; omega) (by show z + 96 ≤ 960; omega) am_oC2_ok
    · have h := h.1 c
      refine am_aload_n (j := 0) d_LH_isLostSo_237 rfl rfl ?_
      refine ak9_V (as := []) (rest := []) d_LH_isLostSo_238 cw_LH_isLostSo_238 rfl (am_2O hg rfl (fun A9 => am_1I (ct_CB_reason (g := am_ga g A9) hg))) rfl rfl rc_1 (Nat.le_of_ble_eq_true rfl) (by show k + 16 + 0 ≤ 160; omega) (by show z + 96 + 0 ≤ 960; omega) ?_
      refine am_bipush (v := (8 : Int32)) d_LH_isLostSo_241 (by decide) ?_
      refine aj_ne (F := am_oC2) (tgt := 250) d_LH_isLostSo_243 (by decide) (fun c => ?_) (fun c => ?_)
      · have h := h.2 c
        refine am_iconst (v := (0 : Int32)) d_LH_isLostSo_250 (by decide) ?_
        exact am_iret d_LH_isLostSo_251 rfl (am_bool (Or.inl rfl)).1 (by show k + 16 + 0 ≤ 160; omega) (by show z + 96 + 0 ≤ 960; omega) am_oC2_ok
      · have h := h.1 c
        refine am_iconst (v := (1 : Int32)) d_LH_isLostSo_246 (by decide) ?_
        refine am_goto (tgt := 251) d_LH_isLostSo_247 (by decide) ?_
        exact am_iret d_LH_isLostSo_251 rfl (am_bool (Or.inr rfl)).1 (by show k + 16 + 0 ≤ 160; omega) (by show z + 96 + 0 ≤ 960; omega) am_oC2_ok
def f_LH_isLostSo_132  (s : am_M) (t : am_M) (x2 : Int32) (x3 : Int32) (x4 : Int32) (x5 : Int32) (x6 : Int32) (x7 : Int32) (y0 : Int32) : Int32 × am_M × am_M := (if ((x4 >>> ((5 : Int32) &&& 31)) &&& (3 : Int32)) ≤ 0 then (if y0 = 0 then ((0 : Int32), (f_LH_sets (f_LH_sets s (12 : Int32) x2 x3 (0 : Int32) (0 : Int32) (0 : Int32) (0 : Int32)).2 (5 : Int32) x2 x3 (0 : Int32) (0 : Int32) (0 : Int32) (0 : Int32)).2, t) else (if (f_LH_sets t (5 : Int32) x2 x3 (0 : Int32) (0 : Int32) (0 : Int32) (0 : Int32)).1 = (f_LH_sets (f_LH_sets s (12 : Int32) x2 x3 (0 : Int32) (0 : Int32) (0 : Int32) (0 : Int32)).2 (5 : Int32) x2 x3 (0 : Int32) (0 : Int32) (0 : Int32) (0 : Int32)).1 then (if (f_LH_sets (f_LH_sets s (12 : Int32) x2 x3 (0 : Int32) (0 : Int32) (0 : Int32) (0 : Int32)).2 (5 : Int32) x2 x3 (0 : Int32) (0 : Int32) (0 : Int32) (0 : Int32)).1 = (1 : Int32) then (if (f_LH_sets (f_LH_sets (f_LH_sets s (12 : Int32) x2 x3 (0 : Int32) (0 : Int32) (0 : Int32) (0 : Int32)).2 (5 : Int32) x2 x3 (0 : Int32) (0 : Int32) (0 : Int32) (0 : Int32)).2 (12 : Int32) x2 x3 (0 : Int32) (0 : Int32) (0 : Int32) (0 : Int32)).1 = 0 then (f_LH_isLostSo_215 (f_LH_sets (f_LH_sets (f_LH_sets s (12 : Int32) x2 x3 (0 : Int32) (0 : Int32) (0 : Int32) (0 : Int32)).2 (5 : Int32) x2 x3 (0 : Int32) (0 : Int32) (0 : Int32) (0 : Int32)).2 (12 : Int32) x2 x3 (0 : Int32) (0 : Int32) (0 : Int32) (0 : Int32)).2 (f_LH_sets t (5 : Int32) x2 x3 (0 : Int32) (0 : Int32) (0 : Int32) (0 : Int32)).2 x2 x3 x4 x5 x6 x7 y0 (f_LH_sets s (12 : Int32) x2 x3 (0 : Int32) (0 : Int32) (0 : Int32) (0 : Int32)).1 (f_LH_sets (f_LH_sets s (12 : Int32) x2 x3 (0 : Int32) (0 : Int32) (0 : Int32) (0 : Int32)).2 (5 : Int32) x2 x3 (0 : Int32) (0 : Int32) (0 : Int32) (0 : Int32)).1) else ((0 : Int32), (f_LH_sets (f_LH_sets (f_LH_sets s (12 : Int32) x2 x3 (0 : Int32) (0 : Int32) (0 : Int32) (0 : Int32)).2 (5 : Int32) x2 x3 (0 : Int32) (0 : Int32) (0 : Int32) (0 : Int32)).2 (12 : Int32) x2 x3 (0 : Int32) (0 : Int32) (0 : Int32) (0 : Int32)).2, (f_LH_sets t (5 : Int32) x2 x3 (0 : Int32) (0 : Int32) (0 : Int32) (0 : Int32)).2)) else (f_LH_isLostSo_215 (f_LH_sets (f_LH_sets s (12 : Int32) x2 x3 (0 : Int32) (0 : Int32) (0 : Int32) (0 : Int32)).2 (5 : Int32) x2 x3 (0 : Int32) (0 : Int32) (0 : Int32) (0 : Int32)).2 (f_LH_sets t (5 : Int32) x2 x3 (0 : Int32) (0 : Int32) (0 : Int32) (0 : Int32)).2 x2 x3 x4 x5 x6 x7 y0 (f_LH_sets s (12 : Int32) x2 x3 (0 : Int32) (0 : Int32) (0 : Int32) (0 : Int32)).1 (f_LH_sets (f_LH_sets s (12 : Int32) x2 x3 (0 : Int32) (0 : Int32) (0 : Int32) (0 : Int32)).2 (5 : Int32) x2 x3 (0 : Int32) (0 : Int32) (0 : Int32) (0 : Int32)).1)) else ((0 : Int32), (f_LH_sets (f_LH_sets s (12 : Int32) x2 x3 (0 : Int32) (0 : Int32) (0 : Int32) (0 : Int32)).2 (5 : Int32) x2 x3 (0 : Int32) (0 : Int32) (0 : Int32) (0 : Int32)).2, (f_LH_sets t (5 : Int32) x2 x3 (0 : Int32) (0 : Int32) (0 : Int32) (0 : Int32)).2))) else (y0, s, t))
def p_LH_isLostSo_132  (s : am_M) (t : am_M) (x2 : Int32) (x3 : Int32) (x4 : Int32) (x5 : Int32) (x6 : Int32) (x7 : Int32) (y0 : Int32) : Prop := ((((x4 >>> ((5 : Int32) &&& 31)) &&& (3 : Int32)) ≤ 0) → p_LH_sets s (12 : Int32) x2 x3 (0 : Int32) (0 : Int32) (0 : Int32) (0 : Int32) ∧ (p_LH_sets (f_LH_sets s (12 : Int32) x2 x3 (0 : Int32) (0 : Int32) (0 : Int32) (0 : Int32)).2 (5 : Int32) x2 x3 (0 : Int32) (0 : Int32) (0 : Int32) (0 : Int32) ∧ (((y0 = 0) → True) ∧ (¬ (y0 = 0) → p_LH_sets t (5 : Int32) x2 x3 (0 : Int32) (0 : Int32) (0 : Int32) (0 : Int32) ∧ ((((f_LH_sets t (5 : Int32) x2 x3 (0 : Int32) (0 : Int32) (0 : Int32) (0 : Int32)).1 = (f_LH_sets (f_LH_sets s (12 : Int32) x2 x3 (0 : Int32) (0 : Int32) (0 : Int32) (0 : Int32)).2 (5 : Int32) x2 x3 (0 : Int32) (0 : Int32) (0 : Int32) (0 : Int32)).1) → (((f_LH_sets (f_LH_sets s (12 : Int32) x2 x3 (0 : Int32) (0 : Int32) (0 : Int32) (0 : Int32)).2 (5 : Int32) x2 x3 (0 : Int32) (0 : Int32) (0 : Int32) (0 : Int32)).1 = (1 : Int32)) → p_LH_sets (f_LH_sets (f_LH_sets s (12 : Int32) x2 x3 (0 : Int32) (0 : Int32) (0 : Int32) (0 : Int32)).2 (5 : Int32) x2 x3 (0 : Int32) (0 : Int32) (0 : Int32) (0 : Int32)).2 (12 : Int32) x2 x3 (0 : Int32) (0 : Int32) (0 : Int32) (0 : Int32) ∧ ((((f_LH_sets (f_LH_sets (f_LH_sets s (12 : Int32) x2 x3 (0 : Int32) (0 : Int32) (0 : Int32) (0 : Int32)).2 (5 : Int32) x2 x3 (0 : Int32) (0 : Int32) (0 : Int32) (0 : Int32)).2 (12 : Int32) x2 x3 (0 : Int32) (0 : Int32) (0 : Int32) (0 : Int32)).1 = 0) → (p_LH_isLostSo_215 (f_LH_sets (f_LH_sets (f_LH_sets s (12 : Int32) x2 x3 (0 : Int32) (0 : Int32) (0 : Int32) (0 : Int32)).2 (5 : Int32) x2 x3 (0 : Int32) (0 : Int32) (0 : Int32) (0 : Int32)).2 (12 : Int32) x2 x3 (0 : Int32) (0 : Int32) (0 : Int32) (0 : Int32)).2 (f_LH_sets t (5 : Int32) x2 x3 (0 : Int32) (0 : Int32) (0 : Int32) (0 : Int32)).2 x2 x3 x4 x5 x6 x7 y0 (f_LH_sets s (12 : Int32) x2 x3 (0 : Int32) (0 : Int32) (0 : Int32) (0 : Int32)).1 (f_LH_sets (f_LH_sets s (12 : Int32) x2 x3 (0 : Int32) (0 : Int32) (0 : Int32) (0 : Int32)).2 (5 : Int32) x2 x3 (0 : Int32) (0 : Int32) (0 : Int32) (0 : Int32)).1)) ∧ (¬ ((f_LH_sets (f_LH_sets (f_LH_sets s (12 : Int32) x2 x3 (0 : Int32) (0 : Int32) (0 : Int32) (0 : Int32)).2 (5 : Int32) x2 x3 (0 : Int32) (0 : Int32) (0 : Int32) (0 : Int32)).2 (12 : Int32) x2 x3 (0 : Int32) (0 : Int32) (0 : Int32) (0 : Int32)).1 = 0) → True))) ∧ (¬ ((f_LH_sets (f_LH_sets s (12 : Int32) x2 x3 (0 : Int32) (0 : Int32) (0 : Int32) (0 : Int32)).2 (5 : Int32) x2 x3 (0 : Int32) (0 : Int32) (0 : Int32) (0 : Int32)).1 = (1 : Int32)) → (p_LH_isLostSo_215 (f_LH_sets (f_LH_sets s (12 : Int32) x2 x3 (0 : Int32) (0 : Int32) (0 : Int32) (0 : Int32)).2 (5 : Int32) x2 x3 (0 : Int32) (0 : Int32) (0 : Int32) (0 : Int32)).2 (f_LH_sets t (5 : Int32) x2 x3 (0 : Int32) (0 : Int32) (0 : Int32) (0 : Int32)).2 x2 x3 x4 x5 x6 x7 y0 (f_LH_sets s (12 : Int32) x2 x3 (0 : Int32) (0 : Int32) (0 : Int32) (0 : Int32)).1 (f_LH_sets (f_LH_sets s (12 : Int32) x2 x3 (0 : Int32) (0 : Int32) (0 : Int32) (0 : Int32)).2 (5 : Int32) x2 x3 (0 : Int32) (0 : Int32) (0 : Int32) (0 : Int32)).1))) ∧ (¬ ((f_LH_sets t (5 : Int32) x2 x3 (0 : Int32) (0 : Int32) (0 : Int32) (0 : Int32)).1 = (f_LH_sets (f_LH_sets s (12 : Int32) x2 x3 (0 : Int32) (0 : Int32) (0 : Int32) (0 : Int32)).2 (5 : Int32) x2 x3 (0 : Int32) (0 : Int32) (0 : Int32) (0 : Int32)).1) → True)))))) ∧ (¬ (((x4 >>> ((5 : Int32) &&& 31)) &&& (3 : Int32)) ≤ 0) → (y0 = 0 ∨ y0 = 1) ∧ (True))
set_option maxHeartbeats 8000000 in
set_option maxRecDepth 100000 in
theorem w_LH_isLostSo_132 {l : Launch} {g : am_Gl} (hg : g.2.2.2.1 = true) {ad0 : Nat → Nat}  {s : am_M} {t : am_M} {x2 : Int32} {x3 : Int32} {x4 : Int32} {x5 : Int32} {x6 : Int32} {x7 : Int32} {y0 : Int32} {k z : Nat} (hk : k ≤ 80) (hz : z ≤ 480) (h : p_LH_isLostSo_132  s t x2 x3 x4 x5 x6 x7 y0) : AW l g m_LH_isLostSo 414 ad0 (am_oC2 (f_LH_isLostSo_132  s t x2 x3 x4 x5 x6 x7 y0)) k z 414 (jn s t) 132 [(0, .ref 0), (1, .ref 207), (2, .int x2), (3, .int x3), (4, .int x4), (5, .int x5), (6, .int x6), (7, .int x7)] [.int y0] := by
  refine am_istore (lv2 := [(8, .int y0), (0, .ref 0), (1, .ref 207), (2, .int x2), (3, .int x3), (4, .int x4), (5, .int x5), (6, .int x6), (7, .int x7)]) d_LH_isLostSo_132 (by decide) rfl ?_
  refine am_iload (j := 5) d_LH_isLostSo_134 rfl ?_
  refine am_iconst (v := (5 : Int32)) d_LH_isLostSo_136 (by decide) ?_
  refine am_ishr d_LH_isLostSo_137 ?_
  refine am_iconst (v := (3 : Int32)) d_LH_isLostSo_138 (by decide) ?_
  refine am_iand d_LH_isLostSo_139 ?_
  refine ai_le (F := am_oC2) (tgt := 146) d_LH_isLostSo_140 (by decide) (fun c => ?_) (fun c => ?_)
  · have h := h.1 c
    refine am_aload_n (j := 1) d_LH_isLostSo_146 rfl rfl ?_
    refine am_bipush (v := (12 : Int32)) d_LH_isLostSo_147 (by decide) ?_
    refine am_iload_n (j := 3) d_LH_isLostSo_149 rfl rfl ?_
    refine am_iload_n (j := 4) d_LH_isLostSo_150 rfl rfl ?_
    refine am_iconst (v := (0 : Int32)) d_LH_isLostSo_151 (by decide) ?_
    refine am_iconst (v := (0 : Int32)) d_LH_isLostSo_152 (by decide) ?_
    refine am_iconst (v := (0 : Int32)) d_LH_isLostSo_153 (by decide) ?_
    refine am_iconst (v := (0 : Int32)) d_LH_isLostSo_154 (by decide) ?_
    obtain ⟨hc, h⟩ := h
    refine ak9_SX (as := [.ref 0, .int (12 : Int32), .int x2, .int x3, .int (0 : Int32), .int (0 : Int32), .int (0 : Int32), .int (0 : Int32)]) (rest := []) d_LH_isLostSo_155 cw_LH_isLostSo_155 rfl (am_2O hg rfl (fun A9 => am_1C (ct_LH_sets (g := am_ga g A9) hg hc))) rfl rfl (Nat.le_of_ble_eq_true rfl) (by show k + 16 ≤ 160; omega) (by show z + 96 ≤ 960; omega) ?_
    refine am_istore (lv2 := [(9, .int (f_LH_sets s (12 : Int32) x2 x3 (0 : Int32) (0 : Int32) (0 : Int32) (0 : Int32)).1), (8, .int y0), (0, .ref 0), (1, .ref 207), (2, .int x2), (3, .int x3), (4, .int x4), (5, .int x5), (6, .int x6), (7, .int x7)]) d_LH_isLostSo_158 (by decide) rfl ?_
    refine am_aload_n (j := 2) d_LH_isLostSo_160 rfl rfl ?_
    refine am_iconst (v := (5 : Int32)) d_LH_isLostSo_161 (by decide) ?_
    refine am_iload_n (j := 4) d_LH_isLostSo_162 rfl rfl ?_
    refine am_iload_n (j := 5) d_LH_isLostSo_163 rfl rfl ?_
    refine am_iconst (v := (0 : Int32)) d_LH_isLostSo_164 (by decide) ?_
    refine am_iconst (v := (0 : Int32)) d_LH_isLostSo_165 (by decide) ?_
    refine am_iconst (v := (0 : Int32)) d_LH_isLostSo_166 (by decide) ?_
    refine am_iconst (v := (0 : Int32)) d_LH_isLostSo_167 (by decide) ?_
    obtain ⟨hc, h⟩ := h
    refine ak9_SX (as := [.ref 0, .int (5 : Int32), .int x2, .int x3, .int (0 : Int32), .int (0 : Int32), .int (0 : Int32), .int (0 : Int32)]) (rest := []) d_LH_isLostSo_168 cw_LH_isLostSo_168 rfl (am_2O hg rfl (fun A9 => am_1C (ct_LH_sets (g := am_ga g A9) hg hc))) rfl rfl (Nat.le_of_ble_eq_true rfl) (by show k + 16 + 16 ≤ 160; omega) (by show z + 96 + 96 ≤ 960; omega) ?_
    refine am_istore (lv2 := [(10, .int (f_LH_sets (f_LH_sets s (12 : Int32) x2 x3 (0 : Int32) (0 : Int32) (0 : Int32) (0 : Int32)).2 (5 : Int32) x2 x3 (0 : Int32) (0 : Int32) (0 : Int32) (0 : Int32)).1), (9, .int (f_LH_sets s (12 : Int32) x2 x3 (0 : Int32) (0 : Int32) (0 : Int32) (0 : Int32)).1), (8, .int y0), (0, .ref 0), (1, .ref 207), (2, .int x2), (3, .int x3), (4, .int x4), (5, .int x5), (6, .int x6), (7, .int x7)]) d_LH_isLostSo_171 (by decide) rfl ?_
    refine am_iload (j := 2) d_LH_isLostSo_173 rfl ?_
    refine ai_eq (F := am_oC2) (tgt := 250) d_LH_isLostSo_175 (by decide) (fun c => ?_) (fun c => ?_)
    · have h := h.1 c
      refine am_iconst (v := (0 : Int32)) d_LH_isLostSo_250 (by decide) ?_
      exact am_iret d_LH_isLostSo_251 rfl (am_bool (Or.inl rfl)).1 (by show k + 16 + 16 ≤ 160; omega) (by show z + 96 + 96 ≤ 960; omega) am_oC2_ok
    · have h := h.2 c
      refine am_aload_n (j := 4) d_LH_isLostSo_178 rfl rfl ?_
      refine am_iconst (v := (5 : Int32)) d_LH_isLostSo_179 (by decide) ?_
      refine am_iload_n (j := 5) d_LH_isLostSo_180 rfl rfl ?_
      refine am_iload_n (j := 6) d_LH_isLostSo_181 rfl rfl ?_
      refine am_iconst (v := (0 : Int32)) d_LH_isLostSo_182 (by decide) ?_
      refine am_iconst (v := (0 : Int32)) d_LH_isLostSo_183 (by decide) ?_
      refine am_iconst (v := (0 : Int32)) d_LH_isLostSo_184 (by decide) ?_
      refine am_iconst (v := (0 : Int32)) d_LH_isLostSo_185 (by decide) ?_
      obtain ⟨hc, h⟩ := h
      refine ak9_SX (as := [.ref 207, .int (5 : Int32), .int x2, .int x3, .int (0 : Int32), .int (0 : Int32), .int (0 : Int32), .int (0 : Int32)]) (rest := []) d_LH_isLostSo_186 cw_LH_isLostSo_186 rfl (am_2P (av1 := [.ref 0, .int (5 : Int32), .int x2, .int x3, .int (0 : Int32), .int (0 : Int32), .int (0 : Int32), .int (0 : Int32)]) hg rfl (fun _ => rfl) (fun A9 => am_1C (ct_LH_sets (g := am_ga g A9) hg hc))) rfl rfl (Nat.le_of_ble_eq_true rfl) (by show k + 16 + 16 + 16 ≤ 160; omega) (by show z + 96 + 96 + 96 ≤ 960; omega) ?_
      refine am_iload (j := 0) d_LH_isLostSo_189 rfl ?_
      refine aj_ne (F := am_oC2) (tgt := 250) d_LH_isLostSo_191 (by decide) (fun c => ?_) (fun c => ?_)
      · have h := h.2 c
        refine am_iconst (v := (0 : Int32)) d_LH_isLostSo_250 (by decide) ?_
        exact am_iret d_LH_isLostSo_251 rfl (am_bool (Or.inl rfl)).1 (by show k + 16 + 16 + 16 ≤ 160; omega) (by show z + 96 + 96 + 96 ≤ 960; omega) am_oC2_ok
      · have h := h.1 c
        refine am_iload (j := 0) d_LH_isLostSo_194 rfl ?_
        refine am_iconst (v := (1 : Int32)) d_LH_isLostSo_196 (by decide) ?_
        refine aj_ne (F := am_oC2) (tgt := 215) d_LH_isLostSo_197 (by decide) (fun c => ?_) (fun c => ?_)
        · have h := h.2 c
          refine am_sub [3, 4, 5, 6, 7, 8, 9, 10, 2, 1, 0] (lv2 := [(0, .ref 0), (1, .ref 207), (2, .int x2), (3, .int x3), (4, .int x4), (5, .int x5), (6, .int x6), (7, .int x7), (8, .int y0), (9, .int (f_LH_sets s (12 : Int32) x2 x3 (0 : Int32) (0 : Int32) (0 : Int32) (0 : Int32)).1), (10, .int (f_LH_sets (f_LH_sets s (12 : Int32) x2 x3 (0 : Int32) (0 : Int32) (0 : Int32) (0 : Int32)).2 (5 : Int32) x2 x3 (0 : Int32) (0 : Int32) (0 : Int32) (0 : Int32)).1)]) rfl ?_
          exact w_LH_isLostSo_215 hg  (by show k + 16 + 16 + 16 ≤ 144; omega) (by show z + 96 + 96 + 96 ≤ 864; omega) h
        · have h := h.1 c
          refine am_aload_n (j := 3) d_LH_isLostSo_200 rfl rfl ?_
          refine am_bipush (v := (12 : Int32)) d_LH_isLostSo_201 (by decide) ?_
          refine am_iload_n (j := 5) d_LH_isLostSo_203 rfl rfl ?_
          refine am_iload_n (j := 6) d_LH_isLostSo_204 rfl rfl ?_
          refine am_iconst (v := (0 : Int32)) d_LH_isLostSo_205 (by decide) ?_
          refine am_iconst (v := (0 : Int32)) d_LH_isLostSo_206 (by decide) ?_
          refine am_iconst (v := (0 : Int32)) d_LH_isLostSo_207 (by decide) ?_
          refine am_iconst (v := (0 : Int32)) d_LH_isLostSo_208 (by decide) ?_
          obtain ⟨hc, h⟩ := h
          refine ak9_SX (as := [.ref 0, .int (12 : Int32), .int x2, .int x3, .int (0 : Int32), .int (0 : Int32), .int (0 : Int32), .int (0 : Int32)]) (rest := []) d_LH_isLostSo_209 cw_LH_isLostSo_209 rfl (am_2O hg rfl (fun A9 => am_1C (ct_LH_sets (g := am_ga g A9) hg hc))) rfl rfl (Nat.le_of_ble_eq_true rfl) (by show k + 16 + 16 + 16 + 16 ≤ 160; omega) (by show z + 96 + 96 + 96 + 96 ≤ 960; omega) ?_
          refine ai_ne (F := am_oC2) (tgt := 250) d_LH_isLostSo_212 (by decide) (fun c => ?_) (fun c => ?_)
          · have h := h.2 c
            refine am_iconst (v := (0 : Int32)) d_LH_isLostSo_250 (by decide) ?_
            exact am_iret d_LH_isLostSo_251 rfl (am_bool (Or.inl rfl)).1 (by show k + 16 + 16 + 16 + 16 ≤ 160; omega) (by show z + 96 + 96 + 96 + 96 ≤ 960; omega) am_oC2_ok
          · have h := h.1 c
            refine am_sub [3, 4, 5, 6, 7, 8, 9, 10, 2, 1, 0] (lv2 := [(0, .ref 0), (1, .ref 207), (2, .int x2), (3, .int x3), (4, .int x4), (5, .int x5), (6, .int x6), (7, .int x7), (8, .int y0), (9, .int (f_LH_sets s (12 : Int32) x2 x3 (0 : Int32) (0 : Int32) (0 : Int32) (0 : Int32)).1), (10, .int (f_LH_sets (f_LH_sets s (12 : Int32) x2 x3 (0 : Int32) (0 : Int32) (0 : Int32) (0 : Int32)).2 (5 : Int32) x2 x3 (0 : Int32) (0 : Int32) (0 : Int32) (0 : Int32)).1)]) rfl ?_
            exact w_LH_isLostSo_215 hg  (by show k + 16 + 16 + 16 + 16 ≤ 144; omega) (by show z + 96 + 96 + 96 + 96 ≤ 864; omega) h
  · have h := h.2 c
    refine am_iload (j := 0) d_LH_isLostSo_143 rfl ?_
    obtain ⟨hz, h⟩ := h
    exact am_iret d_LH_isLostSo_145 rfl (am_bool hz).1 (by show k ≤ 160; omega) (by show z ≤ 960; omega) am_oC2_ok
def f_LH_isLostSo_127  (s : am_M) (t : am_M) (x2 : Int32) (x3 : Int32) (x4 : Int32) (x5 : Int32) (x6 : Int32) (x7 : Int32) : Int32 × am_M × am_M := (f_LH_isLostSo_132 s t x2 x3 x4 x5 x6 x7 (1 : Int32))
def p_LH_isLostSo_127  (s : am_M) (t : am_M) (x2 : Int32) (x3 : Int32) (x4 : Int32) (x5 : Int32) (x6 : Int32) (x7 : Int32) : Prop := (p_LH_isLostSo_132 s t x2 x3 x4 x5 x6 x7 (1 : Int32))
set_option maxHeartbeats 8000000 in
set_option maxRecDepth 100000 in
theorem w_LH_isLostSo_127 {l : Launch} {g : am_Gl} (hg : g.2.2.2.1 = true) {ad0 : Nat → Nat}  {s : am_M} {t : am_M} {x2 : Int32} {x3 : Int32} {x4 : Int32} {x5 : Int32} {x6 : Int32} {x7 : Int32} {k z : Nat} (hk : k ≤ 80) (hz : z ≤ 480) (h : p_LH_isLostSo_127  s t x2 x3 x4 x5 x6 x7) : AW l g m_LH_isLostSo 414 ad0 (am_oC2 (f_LH_isLostSo_127  s t x2 x3 x4 x5 x6 x7)) k z 414 (jn s t) 127 [(0, .ref 0), (1, .ref 207), (2, .int x2), (3, .int x3), (4, .int x4), (5, .int x5), (6, .int x6), (7, .int x7)] [] := by
  refine am_iconst (v := (1 : Int32)) d_LH_isLostSo_127 (by decide) ?_
  refine am_goto (tgt := 132) d_LH_isLostSo_128 (by decide) ?_
  exact w_LH_isLostSo_132 hg  (by show k ≤ 80; omega) (by show z ≤ 480; omega) h
def f_LH_isLostSo_131  (s : am_M) (t : am_M) (x2 : Int32) (x3 : Int32) (x4 : Int32) (x5 : Int32) (x6 : Int32) (x7 : Int32) : Int32 × am_M × am_M := (f_LH_isLostSo_132 s t x2 x3 x4 x5 x6 x7 (0 : Int32))
def p_LH_isLostSo_131  (s : am_M) (t : am_M) (x2 : Int32) (x3 : Int32) (x4 : Int32) (x5 : Int32) (x6 : Int32) (x7 : Int32) : Prop := (p_LH_isLostSo_132 s t x2 x3 x4 x5 x6 x7 (0 : Int32))
set_option maxHeartbeats 8000000 in
set_option maxRecDepth 100000 in
theorem w_LH_isLostSo_131 {l : Launch} {g : am_Gl} (hg : g.2.2.2.1 = true) {ad0 : Nat → Nat}  {s : am_M} {t : am_M} {x2 : Int32} {x3 : Int32} {x4 : Int32} {x5 : Int32} {x6 : Int32} {x7 : Int32} {k z : Nat} (hk : k ≤ 80) (hz : z ≤ 480) (h : p_LH_isLostSo_131  s t x2 x3 x4 x5 x6 x7) : AW l g m_LH_isLostSo 414 ad0 (am_oC2 (f_LH_isLostSo_131  s t x2 x3 x4 x5 x6 x7)) k z 414 (jn s t) 131 [(0, .ref 0), (1, .ref 207), (2, .int x2), (3, .int x3), (4, .int x4), (5, .int x5), (6, .int x6), (7, .int x7)] [] := by
  refine am_iconst (v := (0 : Int32)) d_LH_isLostSo_131 (by decide) ?_
  exact w_LH_isLostSo_132 hg  (by show k ≤ 80; omega) (by show z ≤ 480; omega) h
def f_LH_isLostSo_104  (s : am_M) (t : am_M) (x2 : Int32) (x3 : Int32) (x4 : Int32) (x5 : Int32) (x6 : Int32) (x7 : Int32) : Int32 × am_M × am_M := (if x7 = 0 then (if (f_LH_sets s (11 : Int32) x2 x3 (-1 : Int32) x5 (0 : Int32) (0 : Int32)).1 = x6 then (f_LH_isLostSo_127 (f_LH_sets s (11 : Int32) x2 x3 (-1 : Int32) x5 (0 : Int32) (0 : Int32)).2 t x2 x3 x4 x5 x6 x7) else (f_LH_isLostSo_131 (f_LH_sets s (11 : Int32) x2 x3 (-1 : Int32) x5 (0 : Int32) (0 : Int32)).2 t x2 x3 x4 x5 x6 x7)) else (f_LH_isLostSo_127 s t x2 x3 x4 x5 x6 x7))
def p_LH_isLostSo_104  (s : am_M) (t : am_M) (x2 : Int32) (x3 : Int32) (x4 : Int32) (x5 : Int32) (x6 : Int32) (x7 : Int32) : Prop := ((x7 = 0) → p_LH_sets s (11 : Int32) x2 x3 (-1 : Int32) x5 (0 : Int32) (0 : Int32) ∧ ((((f_LH_sets s (11 : Int32) x2 x3 (-1 : Int32) x5 (0 : Int32) (0 : Int32)).1 = x6) → (p_LH_isLostSo_127 (f_LH_sets s (11 : Int32) x2 x3 (-1 : Int32) x5 (0 : Int32) (0 : Int32)).2 t x2 x3 x4 x5 x6 x7)) ∧ (¬ ((f_LH_sets s (11 : Int32) x2 x3 (-1 : Int32) x5 (0 : Int32) (0 : Int32)).1 = x6) → (p_LH_isLostSo_131 (f_LH_sets s (11 : Int32) x2 x3 (-1 : Int32) x5 (0 : Int32) (0 : Int32)).2 t x2 x3 x4 x5 x6 x7)))) ∧ (¬ (x7 = 0) → (p_LH_isLostSo_127 s t x2 x3 x4 x5 x6 x7))
set_option maxHeartbeats 8000000 in
set_option maxRecDepth 100000 in
theorem w_LH_isLostSo_104 {l : Launch} {g : am_Gl} (hg : g.2.2.2.1 = true) {ad0 : Nat → Nat}  {s : am_M} {t : am_M} {x2 : Int32} {x3 : Int32} {x4 : Int32} {x5 : Int32} {x6 : Int32} {x7 : Int32} {k z : Nat} (hk : k ≤ 64) (hz : z ≤ 384) (h : p_LH_isLostSo_104  s t x2 x3 x4 x5 x6 x7) : AW l g m_LH_isLostSo 414 ad0 (am_oC2 (f_LH_isLostSo_104  s t x2 x3 x4 x5 x6 x7)) k z 414 (jn s t) 104 [(0, .ref 0), (1, .ref 207), (2, .int x2), (3, .int x3), (4, .int x4), (5, .int x5), (6, .int x6), (7, .int x7)] [] := by
  refine am_iload (j := 7) d_LH_isLostSo_104 rfl ?_
  refine ai_ne (F := am_oC2) (tgt := 127) d_LH_isLostSo_106 (by decide) (fun c => ?_) (fun c => ?_)
  · have h := h.2 c
    exact w_LH_isLostSo_127 hg  (by show k ≤ 80; omega) (by show z ≤ 480; omega) h
  · have h := h.1 c
    refine am_aload_n (j := 0) d_LH_isLostSo_109 rfl rfl ?_
    refine am_bipush (v := (11 : Int32)) d_LH_isLostSo_110 (by decide) ?_
    refine am_iload_n (j := 2) d_LH_isLostSo_112 rfl rfl ?_
    refine am_iload_n (j := 3) d_LH_isLostSo_113 rfl rfl ?_
    refine am_iconst (v := (-1 : Int32)) d_LH_isLostSo_114 (by decide) ?_
    refine am_iload (j := 5) d_LH_isLostSo_115 rfl ?_
    refine am_iconst (v := (0 : Int32)) d_LH_isLostSo_117 (by decide) ?_
    refine am_iconst (v := (0 : Int32)) d_LH_isLostSo_118 (by decide) ?_
    obtain ⟨hc, h⟩ := h
    refine ak9_SX (as := [.ref 0, .int (11 : Int32), .int x2, .int x3, .int (-1 : Int32), .int x5, .int (0 : Int32), .int (0 : Int32)]) (rest := []) d_LH_isLostSo_119 cw_LH_isLostSo_119 rfl (am_2O hg rfl (fun A9 => am_1C (ct_LH_sets (g := am_ga g A9) hg hc))) rfl rfl (Nat.le_of_ble_eq_true rfl) (by show k + 16 ≤ 160; omega) (by show z + 96 ≤ 960; omega) ?_
    refine am_iload (j := 6) d_LH_isLostSo_122 rfl ?_
    refine aj_ne (F := am_oC2) (tgt := 131) d_LH_isLostSo_124 (by decide) (fun c => ?_) (fun c => ?_)
    · have h := h.2 c
      exact w_LH_isLostSo_131 hg  (by show k + 16 ≤ 80; omega) (by show z + 96 ≤ 480; omega) h
    · have h := h.1 c
      exact w_LH_isLostSo_127 hg  (by show k + 16 ≤ 80; omega) (by show z + 96 ≤ 480; omega) h
def f_LH_isLostSo_79  (s : am_M) (t : am_M) (x2 : Int32) (x3 : Int32) (x4 : Int32) (x5 : Int32) (x6 : Int32) (x7 : Int32) (y0 : Int32) (y1 : Int32) : Int32 × am_M × am_M := (if y0 = y1 then (if x7 = (1 : Int32) then (if (f_LH_sets s (11 : Int32) x2 x3 (-1 : Int32) x5 (0 : Int32) (0 : Int32)).1 = 0 then (f_LH_isLostSo_104 (f_LH_sets s (11 : Int32) x2 x3 (-1 : Int32) x5 (0 : Int32) (0 : Int32)).2 t x2 x3 x4 x5 x6 x7) else (f_LH_isLostSo_131 (f_LH_sets s (11 : Int32) x2 x3 (-1 : Int32) x5 (0 : Int32) (0 : Int32)).2 t x2 x3 x4 x5 x6 x7)) else (f_LH_isLostSo_104 s t x2 x3 x4 x5 x6 x7)) else (f_LH_isLostSo_131 s t x2 x3 x4 x5 x6 x7))
def p_LH_isLostSo_79  (s : am_M) (t : am_M) (x2 : Int32) (x3 : Int32) (x4 : Int32) (x5 : Int32) (x6 : Int32) (x7 : Int32) (y0 : Int32) (y1 : Int32) : Prop := ((y0 = y1) → ((x7 = (1 : Int32)) → p_LH_sets s (11 : Int32) x2 x3 (-1 : Int32) x5 (0 : Int32) (0 : Int32) ∧ ((((f_LH_sets s (11 : Int32) x2 x3 (-1 : Int32) x5 (0 : Int32) (0 : Int32)).1 = 0) → (p_LH_isLostSo_104 (f_LH_sets s (11 : Int32) x2 x3 (-1 : Int32) x5 (0 : Int32) (0 : Int32)).2 t x2 x3 x4 x5 x6 x7)) ∧ (¬ ((f_LH_sets s (11 : Int32) x2 x3 (-1 : Int32) x5 (0 : Int32) (0 : Int32)).1 = 0) → (p_LH_isLostSo_131 (f_LH_sets s (11 : Int32) x2 x3 (-1 : Int32) x5 (0 : Int32) (0 : Int32)).2 t x2 x3 x4 x5 x6 x7)))) ∧ (¬ (x7 = (1 : Int32)) → (p_LH_isLostSo_104 s t x2 x3 x4 x5 x6 x7))) ∧ (¬ (y0 = y1) → (p_LH_isLostSo_131 s t x2 x3 x4 x5 x6 x7))
set_option maxHeartbeats 8000000 in
set_option maxRecDepth 100000 in
theorem w_LH_isLostSo_79 {l : Launch} {g : am_Gl} (hg : g.2.2.2.1 = true) {ad0 : Nat → Nat}  {s : am_M} {t : am_M} {x2 : Int32} {x3 : Int32} {x4 : Int32} {x5 : Int32} {x6 : Int32} {x7 : Int32} {y0 : Int32} {y1 : Int32} {k z : Nat} (hk : k ≤ 48) (hz : z ≤ 288) (h : p_LH_isLostSo_79  s t x2 x3 x4 x5 x6 x7 y0 y1) : AW l g m_LH_isLostSo 414 ad0 (am_oC2 (f_LH_isLostSo_79  s t x2 x3 x4 x5 x6 x7 y0 y1)) k z 414 (jn s t) 79 [(0, .ref 0), (1, .ref 207), (2, .int x2), (3, .int x3), (4, .int x4), (5, .int x5), (6, .int x6), (7, .int x7)] [.int y1, .int y0] := by
  refine aj_ne (F := am_oC2) (tgt := 131) d_LH_isLostSo_79 (by decide) (fun c => ?_) (fun c => ?_)
  · have h := h.2 c
    exact w_LH_isLostSo_131 hg  (by show k ≤ 80; omega) (by show z ≤ 480; omega) h
  · have h := h.1 c
    refine am_iload (j := 7) d_LH_isLostSo_82 rfl ?_
    refine am_iconst (v := (1 : Int32)) d_LH_isLostSo_84 (by decide) ?_
    refine aj_ne (F := am_oC2) (tgt := 104) d_LH_isLostSo_85 (by decide) (fun c => ?_) (fun c => ?_)
    · have h := h.2 c
      exact w_LH_isLostSo_104 hg  (by show k ≤ 64; omega) (by show z ≤ 384; omega) h
    · have h := h.1 c
      refine am_aload_n (j := 0) d_LH_isLostSo_88 rfl rfl ?_
      refine am_bipush (v := (11 : Int32)) d_LH_isLostSo_89 (by decide) ?_
      refine am_iload_n (j := 2) d_LH_isLostSo_91 rfl rfl ?_
      refine am_iload_n (j := 3) d_LH_isLostSo_92 rfl rfl ?_
      refine am_iconst (v := (-1 : Int32)) d_LH_isLostSo_93 (by decide) ?_
      refine am_iload (j := 5) d_LH_isLostSo_94 rfl ?_
      refine am_iconst (v := (0 : Int32)) d_LH_isLostSo_96 (by decide) ?_
      refine am_iconst (v := (0 : Int32)) d_LH_isLostSo_97 (by decide) ?_
      obtain ⟨hc, h⟩ := h
      refine ak9_SX (as := [.ref 0, .int (11 : Int32), .int x2, .int x3, .int (-1 : Int32), .int x5, .int (0 : Int32), .int (0 : Int32)]) (rest := []) d_LH_isLostSo_98 cw_LH_isLostSo_98 rfl (am_2O hg rfl (fun A9 => am_1C (ct_LH_sets (g := am_ga g A9) hg hc))) rfl rfl (Nat.le_of_ble_eq_true rfl) (by show k + 16 ≤ 160; omega) (by show z + 96 ≤ 960; omega) ?_
      refine ai_ne (F := am_oC2) (tgt := 131) d_LH_isLostSo_101 (by decide) (fun c => ?_) (fun c => ?_)
      · have h := h.2 c
        exact w_LH_isLostSo_131 hg  (by show k + 16 ≤ 80; omega) (by show z + 96 ≤ 480; omega) h
      · have h := h.1 c
        exact w_LH_isLostSo_104 hg  (by show k + 16 ≤ 64; omega) (by show z + 96 ≤ 384; omega) h
def f_LH_isLostSo_67  (s : am_M) (t : am_M) (x2 : Int32) (x3 : Int32) (x4 : Int32) (x5 : Int32) (x6 : Int32) (x7 : Int32) (y0 : Int32) : Int32 × am_M × am_M := (if x7 = (-9999999 : Int32) then (f_LH_isLostSo_79 s t x2 x3 x4 x5 x6 x7 y0 (1 : Int32)) else (f_LH_isLostSo_79 s t x2 x3 x4 x5 x6 x7 y0 (0 : Int32)))
def p_LH_isLostSo_67  (s : am_M) (t : am_M) (x2 : Int32) (x3 : Int32) (x4 : Int32) (x5 : Int32) (x6 : Int32) (x7 : Int32) (y0 : Int32) : Prop := ((x7 = (-9999999 : Int32)) → (p_LH_isLostSo_79 s t x2 x3 x4 x5 x6 x7 y0 (1 : Int32))) ∧ (¬ (x7 = (-9999999 : Int32)) → (p_LH_isLostSo_79 s t x2 x3 x4 x5 x6 x7 y0 (0 : Int32)))
set_option maxHeartbeats 8000000 in
set_option maxRecDepth 100000 in
theorem w_LH_isLostSo_67 {l : Launch} {g : am_Gl} (hg : g.2.2.2.1 = true) {ad0 : Nat → Nat}  {s : am_M} {t : am_M} {x2 : Int32} {x3 : Int32} {x4 : Int32} {x5 : Int32} {x6 : Int32} {x7 : Int32} {y0 : Int32} {k z : Nat} (hk : k ≤ 48) (hz : z ≤ 288) (h : p_LH_isLostSo_67  s t x2 x3 x4 x5 x6 x7 y0) : AW l g m_LH_isLostSo 414 ad0 (am_oC2 (f_LH_isLostSo_67  s t x2 x3 x4 x5 x6 x7 y0)) k z 414 (jn s t) 67 [(0, .ref 0), (1, .ref 207), (2, .int x2), (3, .int x3), (4, .int x4), (5, .int x5), (6, .int x6), (7, .int x7)] [.int y0] := by
  refine am_iload (j := 7) d_LH_isLostSo_67 rfl ?_
  refine am_ldc (v := (-9999999 : Int32)) d_LH_isLostSo_69 aw_3_220 ?_
  refine aj_ne (F := am_oC2) (tgt := 78) d_LH_isLostSo_71 (by decide) (fun c => ?_) (fun c => ?_)
  · have h := h.2 c
    refine am_iconst (v := (0 : Int32)) d_LH_isLostSo_78 (by decide) ?_
    exact w_LH_isLostSo_79 hg  (by show k ≤ 48; omega) (by show z ≤ 288; omega) h
  · have h := h.1 c
    refine am_iconst (v := (1 : Int32)) d_LH_isLostSo_74 (by decide) ?_
    refine am_goto (tgt := 79) d_LH_isLostSo_75 (by decide) ?_
    exact w_LH_isLostSo_79 hg  (by show k ≤ 48; omega) (by show z ≤ 288; omega) h
def f_LH_isLostSo (s : am_M) (t : am_M) (x2 : Int32) (x3 : Int32) (x4 : Int32) : Int32 × am_M × am_M := (if (f_LH_sets t (4 : Int32) x2 x3 (-1 : Int32) (f_LH_low s x4 (12 : Int32)) (0 : Int32) (0 : Int32)).1 = (f_LH_sets (f_LH_sets s (11 : Int32) x2 x3 (-1 : Int32) (f_LH_low s x4 (12 : Int32)) (0 : Int32) (0 : Int32)).2 (4 : Int32) x2 x3 (-1 : Int32) (f_LH_low s x4 (12 : Int32)) (0 : Int32) (0 : Int32)).1 then (if (f_LH_sets s (11 : Int32) x2 x3 (-1 : Int32) (f_LH_low s x4 (12 : Int32)) (0 : Int32) (0 : Int32)).1 = (-9999999 : Int32) then (f_LH_isLostSo_67 (f_LH_sets (f_LH_sets s (11 : Int32) x2 x3 (-1 : Int32) (f_LH_low s x4 (12 : Int32)) (0 : Int32) (0 : Int32)).2 (4 : Int32) x2 x3 (-1 : Int32) (f_LH_low s x4 (12 : Int32)) (0 : Int32) (0 : Int32)).2 (f_LH_sets t (4 : Int32) x2 x3 (-1 : Int32) (f_LH_low s x4 (12 : Int32)) (0 : Int32) (0 : Int32)).2 x2 x3 x4 (f_LH_low s x4 (12 : Int32)) (f_LH_sets s (11 : Int32) x2 x3 (-1 : Int32) (f_LH_low s x4 (12 : Int32)) (0 : Int32) (0 : Int32)).1 (f_LH_sets (f_LH_sets s (11 : Int32) x2 x3 (-1 : Int32) (f_LH_low s x4 (12 : Int32)) (0 : Int32) (0 : Int32)).2 (4 : Int32) x2 x3 (-1 : Int32) (f_LH_low s x4 (12 : Int32)) (0 : Int32) (0 : Int32)).1 (1 : Int32)) else (f_LH_isLostSo_67 (f_LH_sets (f_LH_sets s (11 : Int32) x2 x3 (-1 : Int32) (f_LH_low s x4 (12 : Int32)) (0 : Int32) (0 : Int32)).2 (4 : Int32) x2 x3 (-1 : Int32) (f_LH_low s x4 (12 : Int32)) (0 : Int32) (0 : Int32)).2 (f_LH_sets t (4 : Int32) x2 x3 (-1 : Int32) (f_LH_low s x4 (12 : Int32)) (0 : Int32) (0 : Int32)).2 x2 x3 x4 (f_LH_low s x4 (12 : Int32)) (f_LH_sets s (11 : Int32) x2 x3 (-1 : Int32) (f_LH_low s x4 (12 : Int32)) (0 : Int32) (0 : Int32)).1 (f_LH_sets (f_LH_sets s (11 : Int32) x2 x3 (-1 : Int32) (f_LH_low s x4 (12 : Int32)) (0 : Int32) (0 : Int32)).2 (4 : Int32) x2 x3 (-1 : Int32) (f_LH_low s x4 (12 : Int32)) (0 : Int32) (0 : Int32)).1 (0 : Int32))) else (f_LH_isLostSo_131 (f_LH_sets (f_LH_sets s (11 : Int32) x2 x3 (-1 : Int32) (f_LH_low s x4 (12 : Int32)) (0 : Int32) (0 : Int32)).2 (4 : Int32) x2 x3 (-1 : Int32) (f_LH_low s x4 (12 : Int32)) (0 : Int32) (0 : Int32)).2 (f_LH_sets t (4 : Int32) x2 x3 (-1 : Int32) (f_LH_low s x4 (12 : Int32)) (0 : Int32) (0 : Int32)).2 x2 x3 x4 (f_LH_low s x4 (12 : Int32)) (f_LH_sets s (11 : Int32) x2 x3 (-1 : Int32) (f_LH_low s x4 (12 : Int32)) (0 : Int32) (0 : Int32)).1 (f_LH_sets (f_LH_sets s (11 : Int32) x2 x3 (-1 : Int32) (f_LH_low s x4 (12 : Int32)) (0 : Int32) (0 : Int32)).2 (4 : Int32) x2 x3 (-1 : Int32) (f_LH_low s x4 (12 : Int32)) (0 : Int32) (0 : Int32)).1))
def p_LH_isLostSo (s : am_M) (t : am_M) (x2 : Int32) (x3 : Int32) (x4 : Int32) : Prop := p_LH_low s x4 (12 : Int32) ∧ (p_LH_sets s (11 : Int32) x2 x3 (-1 : Int32) (f_LH_low s x4 (12 : Int32)) (0 : Int32) (0 : Int32) ∧ (p_LH_sets (f_LH_sets s (11 : Int32) x2 x3 (-1 : Int32) (f_LH_low s x4 (12 : Int32)) (0 : Int32) (0 : Int32)).2 (4 : Int32) x2 x3 (-1 : Int32) (f_LH_low s x4 (12 : Int32)) (0 : Int32) (0 : Int32) ∧ (p_LH_sets t (4 : Int32) x2 x3 (-1 : Int32) (f_LH_low s x4 (12 : Int32)) (0 : Int32) (0 : Int32) ∧ ((((f_LH_sets t (4 : Int32) x2 x3 (-1 : Int32) (f_LH_low s x4 (12 : Int32)) (0 : Int32) (0 : Int32)).1 = (f_LH_sets (f_LH_sets s (11 : Int32) x2 x3 (-1 : Int32) (f_LH_low s x4 (12 : Int32)) (0 : Int32) (0 : Int32)).2 (4 : Int32) x2 x3 (-1 : Int32) (f_LH_low s x4 (12 : Int32)) (0 : Int32) (0 : Int32)).1) → (((f_LH_sets s (11 : Int32) x2 x3 (-1 : Int32) (f_LH_low s x4 (12 : Int32)) (0 : Int32) (0 : Int32)).1 = (-9999999 : Int32)) → (p_LH_isLostSo_67 (f_LH_sets (f_LH_sets s (11 : Int32) x2 x3 (-1 : Int32) (f_LH_low s x4 (12 : Int32)) (0 : Int32) (0 : Int32)).2 (4 : Int32) x2 x3 (-1 : Int32) (f_LH_low s x4 (12 : Int32)) (0 : Int32) (0 : Int32)).2 (f_LH_sets t (4 : Int32) x2 x3 (-1 : Int32) (f_LH_low s x4 (12 : Int32)) (0 : Int32) (0 : Int32)).2 x2 x3 x4 (f_LH_low s x4 (12 : Int32)) (f_LH_sets s (11 : Int32) x2 x3 (-1 : Int32) (f_LH_low s x4 (12 : Int32)) (0 : Int32) (0 : Int32)).1 (f_LH_sets (f_LH_sets s (11 : Int32) x2 x3 (-1 : Int32) (f_LH_low s x4 (12 : Int32)) (0 : Int32) (0 : Int32)).2 (4 : Int32) x2 x3 (-1 : Int32) (f_LH_low s x4 (12 : Int32)) (0 : Int32) (0 : Int32)).1 (1 : Int32))) ∧ (¬ ((f_LH_sets s (11 : Int32) x2 x3 (-1 : Int32) (f_LH_low s x4 (12 : Int32)) (0 : Int32) (0 : Int32)).1 = (-9999999 : Int32)) → (p_LH_isLostSo_67 (f_LH_sets (f_LH_sets s (11 : Int32) x2 x3 (-1 : Int32) (f_LH_low s x4 (12 : Int32)) (0 : Int32) (0 : Int32)).2 (4 : Int32) x2 x3 (-1 : Int32) (f_LH_low s x4 (12 : Int32)) (0 : Int32) (0 : Int32)).2 (f_LH_sets t (4 : Int32) x2 x3 (-1 : Int32) (f_LH_low s x4 (12 : Int32)) (0 : Int32) (0 : Int32)).2 x2 x3 x4 (f_LH_low s x4 (12 : Int32)) (f_LH_sets s (11 : Int32) x2 x3 (-1 : Int32) (f_LH_low s x4 (12 : Int32)) (0 : Int32) (0 : Int32)).1 (f_LH_sets (f_LH_sets s (11 : Int32) x2 x3 (-1 : Int32) (f_LH_low s x4 (12 : Int32)) (0 : Int32) (0 : Int32)).2 (4 : Int32) x2 x3 (-1 : Int32) (f_LH_low s x4 (12 : Int32)) (0 : Int32) (0 : Int32)).1 (0 : Int32)))) ∧ (¬ ((f_LH_sets t (4 : Int32) x2 x3 (-1 : Int32) (f_LH_low s x4 (12 : Int32)) (0 : Int32) (0 : Int32)).1 = (f_LH_sets (f_LH_sets s (11 : Int32) x2 x3 (-1 : Int32) (f_LH_low s x4 (12 : Int32)) (0 : Int32) (0 : Int32)).2 (4 : Int32) x2 x3 (-1 : Int32) (f_LH_low s x4 (12 : Int32)) (0 : Int32) (0 : Int32)).1) → (p_LH_isLostSo_131 (f_LH_sets (f_LH_sets s (11 : Int32) x2 x3 (-1 : Int32) (f_LH_low s x4 (12 : Int32)) (0 : Int32) (0 : Int32)).2 (4 : Int32) x2 x3 (-1 : Int32) (f_LH_low s x4 (12 : Int32)) (0 : Int32) (0 : Int32)).2 (f_LH_sets t (4 : Int32) x2 x3 (-1 : Int32) (f_LH_low s x4 (12 : Int32)) (0 : Int32) (0 : Int32)).2 x2 x3 x4 (f_LH_low s x4 (12 : Int32)) (f_LH_sets s (11 : Int32) x2 x3 (-1 : Int32) (f_LH_low s x4 (12 : Int32)) (0 : Int32) (0 : Int32)).1 (f_LH_sets (f_LH_sets s (11 : Int32) x2 x3 (-1 : Int32) (f_LH_low s x4 (12 : Int32)) (0 : Int32) (0 : Int32)).2 (4 : Int32) x2 x3 (-1 : Int32) (f_LH_low s x4 (12 : Int32)) (0 : Int32) (0 : Int32)).1))))))
set_option maxHeartbeats 8000000 in
set_option maxRecDepth 100000 in
theorem w_LH_isLostSo {l : Launch} {g : am_Gl} (hg : g.2.2.2.1 = true) {ad0 : Nat → Nat} {s : am_M} {t : am_M} {x2 : Int32} {x3 : Int32} {x4 : Int32} (h : p_LH_isLostSo s t x2 x3 x4) : AW l g m_LH_isLostSo 414 ad0 (am_oC2 (f_LH_isLostSo s t x2 x3 x4)) 0 0 414 (jn s t) 0 [(0, .ref 0), (1, .ref 207), (2, .int x2), (3, .int x3), (4, .int x4)] [] := by
  refine am_iload (j := 4) d_LH_isLostSo_0 rfl ?_
  refine am_bipush (v := (12 : Int32)) d_LH_isLostSo_2 (by decide) ?_
  obtain ⟨hc, h⟩ := h
  refine ak9_S (as := [.int x4, .int (12 : Int32)]) (rest := []) d_LH_isLostSo_4 cw_LH_isLostSo_4 rfl (am_2O hg rfl (fun A9 => am_1I (ct_LH_low (g := am_ga g A9) hg hc))) rfl rfl (Nat.le_of_ble_eq_true rfl) (by show 0 + 0 ≤ 160; omega) (by show 0 + 0 ≤ 960; omega) ?_
  refine am_istore (lv2 := [(5, .int (f_LH_low s x4 (12 : Int32))), (0, .ref 0), (1, .ref 207), (2, .int x2), (3, .int x3), (4, .int x4)]) d_LH_isLostSo_7 (by decide) rfl ?_
  refine am_aload_n (j := 1) d_LH_isLostSo_9 rfl rfl ?_
  refine am_bipush (v := (11 : Int32)) d_LH_isLostSo_10 (by decide) ?_
  refine am_iload_n (j := 3) d_LH_isLostSo_12 rfl rfl ?_
  refine am_iload_n (j := 4) d_LH_isLostSo_13 rfl rfl ?_
  refine am_iconst (v := (-1 : Int32)) d_LH_isLostSo_14 (by decide) ?_
  refine am_iload (j := 0) d_LH_isLostSo_15 rfl ?_
  refine am_iconst (v := (0 : Int32)) d_LH_isLostSo_17 (by decide) ?_
  refine am_iconst (v := (0 : Int32)) d_LH_isLostSo_18 (by decide) ?_
  obtain ⟨hc, h⟩ := h
  refine ak9_SX (as := [.ref 0, .int (11 : Int32), .int x2, .int x3, .int (-1 : Int32), .int (f_LH_low s x4 (12 : Int32)), .int (0 : Int32), .int (0 : Int32)]) (rest := []) d_LH_isLostSo_19 cw_LH_isLostSo_19 rfl (am_2O hg rfl (fun A9 => am_1C (ct_LH_sets (g := am_ga g A9) hg hc))) rfl rfl (Nat.le_of_ble_eq_true rfl) (by show 0 + 0 + 16 ≤ 160; omega) (by show 0 + 0 + 96 ≤ 960; omega) ?_
  refine am_istore (lv2 := [(6, .int (f_LH_sets s (11 : Int32) x2 x3 (-1 : Int32) (f_LH_low s x4 (12 : Int32)) (0 : Int32) (0 : Int32)).1), (5, .int (f_LH_low s x4 (12 : Int32))), (0, .ref 0), (1, .ref 207), (2, .int x2), (3, .int x3), (4, .int x4)]) d_LH_isLostSo_22 (by decide) rfl ?_
  refine am_aload_n (j := 2) d_LH_isLostSo_24 rfl rfl ?_
  refine am_iconst (v := (4 : Int32)) d_LH_isLostSo_25 (by decide) ?_
  refine am_iload_n (j := 4) d_LH_isLostSo_26 rfl rfl ?_
  refine am_iload_n (j := 5) d_LH_isLostSo_27 rfl rfl ?_
  refine am_iconst (v := (-1 : Int32)) d_LH_isLostSo_28 (by decide) ?_
  refine am_iload (j := 1) d_LH_isLostSo_29 rfl ?_
  refine am_iconst (v := (0 : Int32)) d_LH_isLostSo_31 (by decide) ?_
  refine am_iconst (v := (0 : Int32)) d_LH_isLostSo_32 (by decide) ?_
  obtain ⟨hc, h⟩ := h
  refine ak9_SX (as := [.ref 0, .int (4 : Int32), .int x2, .int x3, .int (-1 : Int32), .int (f_LH_low s x4 (12 : Int32)), .int (0 : Int32), .int (0 : Int32)]) (rest := []) d_LH_isLostSo_33 cw_LH_isLostSo_33 rfl (am_2O hg rfl (fun A9 => am_1C (ct_LH_sets (g := am_ga g A9) hg hc))) rfl rfl (Nat.le_of_ble_eq_true rfl) (by show 0 + 0 + 16 + 16 ≤ 160; omega) (by show 0 + 0 + 96 + 96 ≤ 960; omega) ?_
  refine am_istore (lv2 := [(7, .int (f_LH_sets (f_LH_sets s (11 : Int32) x2 x3 (-1 : Int32) (f_LH_low s x4 (12 : Int32)) (0 : Int32) (0 : Int32)).2 (4 : Int32) x2 x3 (-1 : Int32) (f_LH_low s x4 (12 : Int32)) (0 : Int32) (0 : Int32)).1), (6, .int (f_LH_sets s (11 : Int32) x2 x3 (-1 : Int32) (f_LH_low s x4 (12 : Int32)) (0 : Int32) (0 : Int32)).1), (5, .int (f_LH_low s x4 (12 : Int32))), (0, .ref 0), (1, .ref 207), (2, .int x2), (3, .int x3), (4, .int x4)]) d_LH_isLostSo_36 (by decide) rfl ?_
  refine am_aload_n (j := 4) d_LH_isLostSo_38 rfl rfl ?_
  refine am_iconst (v := (4 : Int32)) d_LH_isLostSo_39 (by decide) ?_
  refine am_iload_n (j := 5) d_LH_isLostSo_40 rfl rfl ?_
  refine am_iload_n (j := 6) d_LH_isLostSo_41 rfl rfl ?_
  refine am_iconst (v := (-1 : Int32)) d_LH_isLostSo_42 (by decide) ?_
  refine am_iload (j := 2) d_LH_isLostSo_43 rfl ?_
  refine am_iconst (v := (0 : Int32)) d_LH_isLostSo_45 (by decide) ?_
  refine am_iconst (v := (0 : Int32)) d_LH_isLostSo_46 (by decide) ?_
  obtain ⟨hc, h⟩ := h
  refine ak9_SX (as := [.ref 207, .int (4 : Int32), .int x2, .int x3, .int (-1 : Int32), .int (f_LH_low s x4 (12 : Int32)), .int (0 : Int32), .int (0 : Int32)]) (rest := []) d_LH_isLostSo_47 cw_LH_isLostSo_47 rfl (am_2P (av1 := [.ref 0, .int (4 : Int32), .int x2, .int x3, .int (-1 : Int32), .int (f_LH_low s x4 (12 : Int32)), .int (0 : Int32), .int (0 : Int32)]) hg rfl (fun _ => rfl) (fun A9 => am_1C (ct_LH_sets (g := am_ga g A9) hg hc))) rfl rfl (Nat.le_of_ble_eq_true rfl) (by show 0 + 0 + 16 + 16 + 16 ≤ 160; omega) (by show 0 + 0 + 96 + 96 + 96 ≤ 960; omega) ?_
  refine am_iload (j := 0) d_LH_isLostSo_50 rfl ?_
  refine aj_ne (F := am_oC2) (tgt := 131) d_LH_isLostSo_52 (by decide) (fun c => ?_) (fun c => ?_)
  · have h := h.2 c
    refine am_sub [3, 4, 5, 6, 7, 2, 1, 0] (lv2 := [(0, .ref 0), (1, .ref 207), (2, .int x2), (3, .int x3), (4, .int x4), (5, .int (f_LH_low s x4 (12 : Int32))), (6, .int (f_LH_sets s (11 : Int32) x2 x3 (-1 : Int32) (f_LH_low s x4 (12 : Int32)) (0 : Int32) (0 : Int32)).1), (7, .int (f_LH_sets (f_LH_sets s (11 : Int32) x2 x3 (-1 : Int32) (f_LH_low s x4 (12 : Int32)) (0 : Int32) (0 : Int32)).2 (4 : Int32) x2 x3 (-1 : Int32) (f_LH_low s x4 (12 : Int32)) (0 : Int32) (0 : Int32)).1)]) rfl ?_
    exact w_LH_isLostSo_131 hg  (by show 0 + 0 + 16 + 16 + 16 ≤ 80; omega) (by show 0 + 0 + 96 + 96 + 96 ≤ 480; omega) h
  · have h := h.1 c
    refine am_iload (j := 1) d_LH_isLostSo_55 rfl ?_
    refine am_ldc (v := (-9999999 : Int32)) d_LH_isLostSo_57 aw_3_220 ?_
    refine aj_ne (F := am_oC2) (tgt := 66) d_LH_isLostSo_59 (by decide) (fun c => ?_) (fun c => ?_)
    · have h := h.2 c
      refine am_iconst (v := (0 : Int32)) d_LH_isLostSo_66 (by decide) ?_
      refine am_sub [3, 4, 5, 6, 7, 2, 1, 0] (lv2 := [(0, .ref 0), (1, .ref 207), (2, .int x2), (3, .int x3), (4, .int x4), (5, .int (f_LH_low s x4 (12 : Int32))), (6, .int (f_LH_sets s (11 : Int32) x2 x3 (-1 : Int32) (f_LH_low s x4 (12 : Int32)) (0 : Int32) (0 : Int32)).1), (7, .int (f_LH_sets (f_LH_sets s (11 : Int32) x2 x3 (-1 : Int32) (f_LH_low s x4 (12 : Int32)) (0 : Int32) (0 : Int32)).2 (4 : Int32) x2 x3 (-1 : Int32) (f_LH_low s x4 (12 : Int32)) (0 : Int32) (0 : Int32)).1)]) rfl ?_
      exact w_LH_isLostSo_67 hg  (by show 0 + 0 + 16 + 16 + 16 ≤ 48; omega) (by show 0 + 0 + 96 + 96 + 96 ≤ 288; omega) h
    · have h := h.1 c
      refine am_iconst (v := (1 : Int32)) d_LH_isLostSo_62 (by decide) ?_
      refine am_goto (tgt := 67) d_LH_isLostSo_63 (by decide) ?_
      refine am_sub [3, 4, 5, 6, 7, 2, 1, 0] (lv2 := [(0, .ref 0), (1, .ref 207), (2, .int x2), (3, .int x3), (4, .int x4), (5, .int (f_LH_low s x4 (12 : Int32))), (6, .int (f_LH_sets s (11 : Int32) x2 x3 (-1 : Int32) (f_LH_low s x4 (12 : Int32)) (0 : Int32) (0 : Int32)).1), (7, .int (f_LH_sets (f_LH_sets s (11 : Int32) x2 x3 (-1 : Int32) (f_LH_low s x4 (12 : Int32)) (0 : Int32) (0 : Int32)).2 (4 : Int32) x2 x3 (-1 : Int32) (f_LH_low s x4 (12 : Int32)) (0 : Int32) (0 : Int32)).1)]) rfl ?_
      exact w_LH_isLostSo_67 hg  (by show 0 + 0 + 16 + 16 + 16 ≤ 48; omega) (by show 0 + 0 + 96 + 96 + 96 ≤ 288; omega) h
theorem ct_LH_isLostSo {l : Launch} {g : am_Gl} (hg : g.2.2.2.1 = true) {s : am_M} {t : am_M} {x2 : Int32} {x3 : Int32} {x4 : Int32} (h : p_LH_isLostSo s t x2 x3 x4) : AC l g m_LH_isLostSo 414 (jn s t) [.ref 0, .ref 207, .int x2, .int x3, .int x4] (am_oC2 (f_LH_isLostSo s t x2 x3 x4)) := am_enter ok_LH_isLostSo rfl (Nat.le_of_ble_eq_true rfl) rfl (fun ad0 => w_LH_isLostSo hg h)
end

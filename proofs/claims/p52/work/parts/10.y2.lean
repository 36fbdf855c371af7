noncomputable section
def f_LH_cell (L : Nat) (xs : Nat → Int32) (s : am_M) (x1 : Int32) : Int32 × am_M := (if (Int32.ofNat L) ≤ x1 then ((((7919 : Int32) * (x1 + (1051 : Int32))) * (x1 + (3511 : Int32))), s) else ((xs (x1).toNatClampNeg), s))
def p_LH_cell (L : Nat) (xs : Nat → Int32) (s : am_M) (x1 : Int32) : Prop := (((Int32.ofNat L) ≤ x1) → True) ∧ (¬ ((Int32.ofNat L) ≤ x1) → vp_in x1 L ∧ (True))
set_option maxRecDepth 100000 in
theorem w_LH_cell {l : Launch} {g : am_Gl} (hg : g.2.2.2.1 = true) {ad0 : Nat → Nat} {s : am_M} {x1 : Int32} (h : p_LH_cell g.2.2.2.2.2.1 g.2.2.2.2.2.2 s x1) : AW l g m_LH_cell 207 ad0 (am_oC (f_LH_cell g.2.2.2.2.2.1 g.2.2.2.2.2.2 s x1)) 0 0 207 s 0 [(0, .retAddr g.2.2.2.2.1), (1, .int x1)] [] := by
  refine am_iload_n (j := 1) d_LH_cell_0 rfl rfl ?_
  refine am_aloadS_n (j := 0) d_LH_cell_1 rfl rfl ?_
  refine am_slen d_LH_cell_2 ?_
  refine aj_ge (F := am_oC) (tgt := 12) d_LH_cell_3 (by decide) (fun c => ?_) (fun c => ?_)
  · have h := h.1 c
    refine am_sipush (v := (7919 : Int32)) d_LH_cell_12 (by decide) ?_
    refine am_iload_n (j := 1) d_LH_cell_15 rfl rfl ?_
    refine am_sipush (v := (1051 : Int32)) d_LH_cell_16 (by decide) ?_
    refine am_iadd d_LH_cell_19 ?_
    refine am_imul d_LH_cell_20 ?_
    refine am_iload_n (j := 1) d_LH_cell_21 rfl rfl ?_
    refine am_sipush (v := (3511 : Int32)) d_LH_cell_22 (by decide) ?_
    refine am_iadd d_LH_cell_25 ?_
    refine am_imul d_LH_cell_26 ?_
    exact am_iret d_LH_cell_27 rfl rfl (by show 0 ≤ 0; omega) (by show 0 ≤ 0; omega) am_oC_ok
  · have h := h.2 c
    refine am_aloadS_n (j := 0) d_LH_cell_6 rfl rfl ?_
    refine am_iload_n (j := 1) d_LH_cell_7 rfl rfl ?_
    obtain ⟨hv, h⟩ := h
    refine am_sld d_LH_cell_8 hv ?_
    refine am_goto (tgt := 27) d_LH_cell_9 (by decide) ?_
    exact am_iret d_LH_cell_27 rfl rfl (by show 0 ≤ 0; omega) (by show 0 ≤ 0; omega) am_oC_ok
theorem ct_LH_cell {l : Launch} {g : am_Gl} (hg : g.2.2.2.1 = true) {s : am_M} {x1 : Int32} (h : p_LH_cell g.2.2.2.2.2.1 g.2.2.2.2.2.2 s x1) : AC l g m_LH_cell 207 s [.retAddr g.2.2.2.2.1, .int x1] (am_oC (f_LH_cell g.2.2.2.2.2.1 g.2.2.2.2.2.2 s x1)) := am_enter ok_LH_cell rfl (Nat.le_of_ble_eq_true rfl) rfl (fun ad0 => w_LH_cell hg h)
theorem cw_LH_act_21 : am_cs m_LH_act m_LH_low 156 2 := ⟨⟨ok_LH_low, rfl, by decide +kernel, by decide, by decide⟩, aw_1_186, aw_1_187⟩
theorem cw_LH_act_48 : am_cs m_LH_act m_LH_low 156 2 := ⟨⟨ok_LH_low, rfl, by decide +kernel, by decide, by decide⟩, aw_1_186, aw_1_187⟩
theorem cw_LH_act_35 : am_cs m_LH_act m_LH_low 156 2 := ⟨⟨ok_LH_low, rfl, by decide +kernel, by decide, by decide⟩, aw_1_186, aw_1_187⟩
theorem cw_LH_act_77 : am_cs m_LH_act m_LH_low 156 2 := ⟨⟨ok_LH_low, rfl, by decide +kernel, by decide, by decide⟩, aw_1_186, aw_1_187⟩
theorem cw_LH_act_63 : am_cs m_LH_act m_LH_low 156 2 := ⟨⟨ok_LH_low, rfl, by decide +kernel, by decide, by decide⟩, aw_1_186, aw_1_187⟩
theorem cw_LH_act_106 : am_cs m_LH_act m_LH_low 156 2 := ⟨⟨ok_LH_low, rfl, by decide +kernel, by decide, by decide⟩, aw_1_186, aw_1_187⟩
theorem cw_LH_act_92 : am_cs m_LH_act m_LH_low 156 2 := ⟨⟨ok_LH_low, rfl, by decide +kernel, by decide, by decide⟩, aw_1_186, aw_1_187⟩
theorem cw_LH_act_1070 : am_sh9 m_LH_act m_LH_does 159 5 := ⟨ok_LH_does, ⟨_, rfl⟩, by decide +kernel, by decide, by decide, aw_1_193, aw_1_194⟩
theorem cw_LH_act_1053 : am_cs m_LH_act m_LH_low 156 2 := ⟨⟨ok_LH_low, rfl, by decide +kernel, by decide, by decide⟩, aw_1_186, aw_1_187⟩
theorem cw_LH_act_1058 : am_sh9 m_LH_act m_LH_does 159 5 := ⟨ok_LH_does, ⟨_, rfl⟩, by decide +kernel, by decide, by decide, aw_1_193, aw_1_194⟩
theorem cw_LH_act_887 : am_cs m_LH_act m_LH_low 156 2 := ⟨⟨ok_LH_low, rfl, by decide +kernel, by decide, by decide⟩, aw_1_186, aw_1_187⟩
theorem cw_LH_act_898 : am_cs m_LH_act m_LH_low 156 2 := ⟨⟨ok_LH_low, rfl, by decide +kernel, by decide, by decide⟩, aw_1_186, aw_1_187⟩
theorem cw_LH_act_1026 : am_sh9 m_LH_act m_LH_asks 171 7 := ⟨ok_LH_asks, ⟨_, rfl⟩, by decide +kernel, by decide, by decide, aw_4_169, aw_4_170⟩
theorem cw_LH_act_1003 : am_cs m_LH_act m_LH_low 156 2 := ⟨⟨ok_LH_low, rfl, by decide +kernel, by decide, by decide⟩, aw_1_186, aw_1_187⟩
theorem cw_LH_act_1009 : am_sh9 m_LH_act m_LH_asks 171 7 := ⟨ok_LH_asks, ⟨_, rfl⟩, by decide +kernel, by decide, by decide, aw_4_169, aw_4_170⟩
theorem cw_LH_act_975 : am_sh9 m_LH_act m_LH_asks 171 7 := ⟨ok_LH_asks, ⟨_, rfl⟩, by decide +kernel, by decide, by decide, aw_4_169, aw_4_170⟩
theorem cw_LH_act_940 : am_cs m_LH_act m_LH_number 167 2 := ⟨⟨ok_LH_number, rfl, by decide +kernel, by decide, by decide⟩, aw_4_165, aw_4_166⟩
theorem cw_LH_act_944 : am_sh9 m_LH_act m_LH_asks 171 7 := ⟨ok_LH_asks, ⟨_, rfl⟩, by decide +kernel, by decide, by decide, aw_4_169, aw_4_170⟩
theorem cw_LH_act_914 : am_sh9 m_LH_act m_LH_does 159 5 := ⟨ok_LH_does, ⟨_, rfl⟩, by decide +kernel, by decide, by decide, aw_1_193, aw_1_194⟩
theorem cw_LH_act_691 : am_sh9 m_LH_act m_LH_does 159 5 := ⟨ok_LH_does, ⟨_, rfl⟩, by decide +kernel, by decide, by decide, aw_1_193, aw_1_194⟩
theorem cw_LH_act_672 : am_cs m_LH_act m_LH_number 167 2 := ⟨⟨ok_LH_number, rfl, by decide +kernel, by decide, by decide⟩, aw_4_165, aw_4_166⟩
theorem cw_LH_act_677 : am_sh9 m_LH_act m_LH_sets 163 8 := ⟨ok_LH_sets, ⟨_, rfl⟩, by decide +kernel, by decide, by decide, aw_3_221, aw_3_222⟩
theorem cw_LH_act_642 : am_sh9 m_LH_act m_LH_does 159 5 := ⟨ok_LH_does, ⟨_, rfl⟩, by decide +kernel, by decide, by decide, aw_1_193, aw_1_194⟩
theorem cw_LH_act_628 : am_sh9 m_LH_act m_LH_does 159 5 := ⟨ok_LH_does, ⟨_, rfl⟩, by decide +kernel, by decide, by decide, aw_1_193, aw_1_194⟩
theorem cw_LH_act_608 : am_sh9 m_LH_act m_LH_does 159 5 := ⟨ok_LH_does, ⟨_, rfl⟩, by decide +kernel, by decide, by decide, aw_1_193, aw_1_194⟩
theorem cw_LH_act_573 : am_cs m_LH_act m_LH_low 156 2 := ⟨⟨ok_LH_low, rfl, by decide +kernel, by decide, by decide⟩, aw_1_186, aw_1_187⟩
theorem cw_LH_act_581 : am_cs m_LH_act m_LH_number 167 2 := ⟨⟨ok_LH_number, rfl, by decide +kernel, by decide, by decide⟩, aw_4_165, aw_4_166⟩
theorem cw_LH_act_585 : am_sh9 m_LH_act m_LH_does 159 5 := ⟨ok_LH_does, ⟨_, rfl⟩, by decide +kernel, by decide, by decide, aw_1_193, aw_1_194⟩
theorem cw_LH_act_497 : am_sh9 m_LH_act m_LH_sets 163 8 := ⟨ok_LH_sets, ⟨_, rfl⟩, by decide +kernel, by decide, by decide, aw_3_221, aw_3_222⟩
theorem cw_LH_act_400 : am_sh9 m_LH_act m_LH_sets 163 8 := ⟨ok_LH_sets, ⟨_, rfl⟩, by decide +kernel, by decide, by decide, aw_3_221, aw_3_222⟩
theorem cw_LH_act_224 : am_cs m_LH_act m_LH_low 156 2 := ⟨⟨ok_LH_low, rfl, by decide +kernel, by decide, by decide⟩, aw_1_186, aw_1_187⟩
theorem cw_LH_act_211 : am_cs m_LH_act m_LH_low 156 2 := ⟨⟨ok_LH_low, rfl, by decide +kernel, by decide, by decide⟩, aw_1_186, aw_1_187⟩
theorem cw_LH_act_166 : am_cs m_LH_act m_LH_low 156 2 := ⟨⟨ok_LH_low, rfl, by decide +kernel, by decide, by decide⟩, aw_1_186, aw_1_187⟩
theorem cw_LH_act_151 : am_cs m_LH_act m_LH_low 156 2 := ⟨⟨ok_LH_low, rfl, by decide +kernel, by decide, by decide⟩, aw_1_186, aw_1_187⟩
theorem cw_LH_act_125 : am_sh9 m_LH_act m_LH_does 159 5 := ⟨ok_LH_does, ⟨_, rfl⟩, by decide +kernel, by decide, by decide, aw_1_193, aw_1_194⟩
theorem cw_LH_act_187 : am_cs m_LH_act m_LH_low 156 2 := ⟨⟨ok_LH_low, rfl, by decide +kernel, by decide, by decide⟩, aw_1_186, aw_1_187⟩
theorem cw_LH_act_191 : am_sh9 m_LH_act m_LH_does 159 5 := ⟨ok_LH_does, ⟨_, rfl⟩, by decide +kernel, by decide, by decide, aw_1_193, aw_1_194⟩
theorem cw_LH_act_249 : am_cs m_LH_act m_LH_low 156 2 := ⟨⟨ok_LH_low, rfl, by decide +kernel, by decide, by decide⟩, aw_1_186, aw_1_187⟩
theorem cw_LH_act_252 : am_sh9 m_LH_act m_LH_does 159 5 := ⟨ok_LH_does, ⟨_, rfl⟩, by decide +kernel, by decide, by decide, aw_1_193, aw_1_194⟩
theorem cw_LH_act_236 : am_cs m_LH_act m_LH_low 156 2 := ⟨⟨ok_LH_low, rfl, by decide +kernel, by decide, by decide⟩, aw_1_186, aw_1_187⟩
theorem cw_LH_act_289 : am_cs m_LH_act m_LH_low 156 2 := ⟨⟨ok_LH_low, rfl, by decide +kernel, by decide, by decide⟩, aw_1_186, aw_1_187⟩
theorem cw_LH_act_345 : am_cs m_LH_act m_LH_low 156 2 := ⟨⟨ok_LH_low, rfl, by decide +kernel, by decide, by decide⟩, aw_1_186, aw_1_187⟩
theorem cw_LH_act_354 : am_cs m_LH_act m_LH_low 156 2 := ⟨⟨ok_LH_low, rfl, by decide +kernel, by decide, by decide⟩, aw_1_186, aw_1_187⟩
theorem cw_LH_act_362 : am_cs m_LH_act m_LH_low 156 2 := ⟨⟨ok_LH_low, rfl, by decide +kernel, by decide, by decide⟩, aw_1_186, aw_1_187⟩
theorem cw_LH_act_365 : am_sh9 m_LH_act m_LH_sets 163 8 := ⟨ok_LH_sets, ⟨_, rfl⟩, by decide +kernel, by decide, by decide, aw_3_221, aw_3_222⟩
theorem cw_LH_act_313 : am_cs m_LH_act m_LH_low 156 2 := ⟨⟨ok_LH_low, rfl, by decide +kernel, by decide, by decide⟩, aw_1_186, aw_1_187⟩
theorem cw_LH_act_321 : am_cs m_LH_act m_LH_low 156 2 := ⟨⟨ok_LH_low, rfl, by decide +kernel, by decide, by decide⟩, aw_1_186, aw_1_187⟩
theorem cw_LH_act_325 : am_sh9 m_LH_act m_LH_sets 163 8 := ⟨ok_LH_sets, ⟨_, rfl⟩, by decide +kernel, by decide, by decide, aw_3_221, aw_3_222⟩
theorem cw_LH_act_452 : am_cs m_LH_act m_LH_low 156 2 := ⟨⟨ok_LH_low, rfl, by decide +kernel, by decide, by decide⟩, aw_1_186, aw_1_187⟩
theorem cw_LH_act_440 : am_cs m_LH_act m_LH_low 156 2 := ⟨⟨ok_LH_low, rfl, by decide +kernel, by decide, by decide⟩, aw_1_186, aw_1_187⟩
theorem cw_LH_act_461 : am_cs m_LH_act m_LH_low 156 2 := ⟨⟨ok_LH_low, rfl, by decide +kernel, by decide, by decide⟩, aw_1_186, aw_1_187⟩
theorem cw_LH_act_466 : am_sh9 m_LH_act m_LH_sets 163 8 := ⟨ok_LH_sets, ⟨_, rfl⟩, by decide +kernel, by decide, by decide, aw_3_221, aw_3_222⟩
theorem cw_LH_act_523 : am_cs m_LH_act m_LH_low 156 2 := ⟨⟨ok_LH_low, rfl, by decide +kernel, by decide, by decide⟩, aw_1_186, aw_1_187⟩
theorem cw_LH_act_532 : am_cs m_LH_act m_LH_low 156 2 := ⟨⟨ok_LH_low, rfl, by decide +kernel, by decide, by decide⟩, aw_1_186, aw_1_187⟩
theorem cw_LH_act_541 : am_cs m_LH_act m_LH_low 156 2 := ⟨⟨ok_LH_low, rfl, by decide +kernel, by decide, by decide⟩, aw_1_186, aw_1_187⟩
theorem cw_LH_act_547 : am_sh9 m_LH_act m_LH_sets 163 8 := ⟨ok_LH_sets, ⟨_, rfl⟩, by decide +kernel, by decide, by decide, aw_3_221, aw_3_222⟩
theorem cw_LH_act_732 : am_cs m_LH_act m_LH_low 156 2 := ⟨⟨ok_LH_low, rfl, by decide +kernel, by decide, by decide⟩, aw_1_186, aw_1_187⟩
theorem cw_LH_act_824 : am_cs m_LH_act m_LH_low 156 2 := ⟨⟨ok_LH_low, rfl, by decide +kernel, by decide, by decide⟩, aw_1_186, aw_1_187⟩
theorem cw_LH_act_797 : am_cs m_LH_act m_LH_low 156 2 := ⟨⟨ok_LH_low, rfl, by decide +kernel, by decide, by decide⟩, aw_1_186, aw_1_187⟩
theorem cw_LH_act_806 : am_cs m_LH_act m_LH_low 156 2 := ⟨⟨ok_LH_low, rfl, by decide +kernel, by decide, by decide⟩, aw_1_186, aw_1_187⟩
theorem cw_LH_act_810 : am_sh9 m_LH_act m_LH_asks 171 7 := ⟨ok_LH_asks, ⟨_, rfl⟩, by decide +kernel, by decide, by decide, aw_4_169, aw_4_170⟩
theorem cw_LH_act_766 : am_sh9 m_LH_act m_LH_asks 171 7 := ⟨ok_LH_asks, ⟨_, rfl⟩, by decide +kernel, by decide, by decide, aw_4_169, aw_4_170⟩
theorem cw_LH_act_840 : am_cs m_LH_act m_LH_low 156 2 := ⟨⟨ok_LH_low, rfl, by decide +kernel, by decide, by decide⟩, aw_1_186, aw_1_187⟩
theorem cw_LH_act_858 : am_cs m_LH_act m_LH_low 156 2 := ⟨⟨ok_LH_low, rfl, by decide +kernel, by decide, by decide⟩, aw_1_186, aw_1_187⟩
theorem cw_LH_act_867 : am_cs m_LH_act m_LH_low 156 2 := ⟨⟨ok_LH_low, rfl, by decide +kernel, by decide, by decide⟩, aw_1_186, aw_1_187⟩
theorem cw_LH_act_872 : am_sh9 m_LH_act m_LH_asks 171 7 := ⟨ok_LH_asks, ⟨_, rfl⟩, by decide +kernel, by decide, by decide, aw_4_169, aw_4_170⟩
def f_LH_act_170  (s : am_M) (x1 : Int32) (x2 : Int32) (x3 : Int32) (x4 : Int32) (x5 : Int32) (x6 : Int32) (y1 : Int32) (y2 : Int32) (y3 : Int32) : Int32 × am_M := (if x2 = 0 then ((f_LH_does s y1 y2 y3 ((9 : Int32) + (f_LH_low s (x1 >>> ((12 : Int32) &&& 31)) (9 : Int32)))).1, (f_LH_does s y1 y2 y3 ((9 : Int32) + (f_LH_low s (x1 >>> ((12 : Int32) &&& 31)) (9 : Int32)))).2) else ((f_LH_does s y1 y2 y3 (12 : Int32)).1, (f_LH_does s y1 y2 y3 (12 : Int32)).2))
def p_LH_act_170  (s : am_M) (x1 : Int32) (x2 : Int32) (x3 : Int32) (x4 : Int32) (x5 : Int32) (x6 : Int32) (y1 : Int32) (y2 : Int32) (y3 : Int32) : Prop := ((x2 = 0) → p_LH_low s (x1 >>> ((12 : Int32) &&& 31)) (9 : Int32) ∧ (p_LH_does s y1 y2 y3 ((9 : Int32) + (f_LH_low s (x1 >>> ((12 : Int32) &&& 31)) (9 : Int32))) ∧ (True))) ∧ (¬ (x2 = 0) → p_LH_does s y1 y2 y3 (12 : Int32) ∧ (True))
set_option maxRecDepth 100000 in
theorem w_LH_act_170 {l : Launch} {g : am_Gl} (hg : g.2.2.2.1 = true) {ad0 : Nat → Nat}  {s : am_M} {x1 : Int32} {x2 : Int32} {x3 : Int32} {x4 : Int32} {x5 : Int32} {x6 : Int32} {y1 : Int32} {y2 : Int32} {y3 : Int32} {k z : Nat} (hk : k ≤ 12) (hz : z ≤ 72) (h : p_LH_act_170  s x1 x2 x3 x4 x5 x6 y1 y2 y3) : AW l g m_LH_act 207 ad0 (am_oC (f_LH_act_170  s x1 x2 x3 x4 x5 x6 y1 y2 y3)) k z 207 s 170 [(0, .ref 0), (1, .int x1), (2, .int x2), (3, .int x3), (4, .int x4), (5, .int x5), (6, .int x6)] [.int y3, .int y2, .int y1, .ref 0] := by
  refine am_iload_n (j := 2) d_LH_act_170 rfl rfl ?_
  refine ai_eq (F := am_oC) (tgt := 179) d_LH_act_171 (by decide) (fun c => ?_) (fun c => ?_)
  · have h := h.1 c
    refine am_bipush (v := (9 : Int32)) d_LH_act_179 (by decide) ?_
    refine am_iload_n (j := 1) d_LH_act_181 rfl rfl ?_
    refine am_bipush (v := (12 : Int32)) d_LH_act_182 (by decide) ?_
    refine am_ishr d_LH_act_184 ?_
    refine am_bipush (v := (9 : Int32)) d_LH_act_185 (by decide) ?_
    obtain ⟨hc, h⟩ := h
    refine ak9_S (as := [.int (x1 >>> ((12 : Int32) &&& 31)), .int (9 : Int32)]) (rest := [.int (9 : Int32), .int y3, .int y2, .int y1, .ref 0]) d_LH_act_187 cw_LH_act_187 rfl (am_1I (ct_LH_low hg hc)) rfl rfl (Nat.le_of_ble_eq_true rfl) (by show k + 0 ≤ 16; omega) (by show z + 0 ≤ 96; omega) ?_
    refine am_iadd d_LH_act_190 ?_
    obtain ⟨hc, h⟩ := h
    refine ak9_SX (as := [.ref 0, .int y1, .int y2, .int y3, .int ((9 : Int32) + (f_LH_low s (x1 >>> ((12 : Int32) &&& 31)) (9 : Int32)))]) (rest := []) d_LH_act_191 cw_LH_act_191 rfl (am_1C (ct_LH_does hg hc)) rfl rfl (Nat.le_of_ble_eq_true rfl) (by show k + 0 + 4 ≤ 16; omega) (by show z + 0 + 24 ≤ 96; omega) ?_
    refine am_goto (tgt := 255) d_LH_act_194 (by decide) ?_
    exact am_iret d_LH_act_255 rfl rfl (by show k + 0 + 4 ≤ 16; omega) (by show z + 0 + 24 ≤ 96; omega) am_oC_ok
  · have h := h.2 c
    refine am_bipush (v := (12 : Int32)) d_LH_act_174 (by decide) ?_
    refine am_goto (tgt := 191) d_LH_act_176 (by decide) ?_
    obtain ⟨hc, h⟩ := h
    refine ak9_SX (as := [.ref 0, .int y1, .int y2, .int y3, .int (12 : Int32)]) (rest := []) d_LH_act_191 cw_LH_act_191 rfl (am_1C (ct_LH_does hg hc)) rfl rfl (Nat.le_of_ble_eq_true rfl) (by show k + 4 ≤ 16; omega) (by show z + 24 ≤ 96; omega) ?_
    refine am_goto (tgt := 255) d_LH_act_194 (by decide) ?_
    exact am_iret d_LH_act_255 rfl rfl (by show k + 4 ≤ 16; omega) (by show z + 24 ≤ 96; omega) am_oC_ok
def f_LH_act_227  (s : am_M) (x1 : Int32) (x2 : Int32) (x3 : Int32) (x4 : Int32) (x5 : Int32) (x6 : Int32) (y1 : Int32) (y2 : Int32) (y3 : Int32) : Int32 × am_M := (if x2 = 0 then ((f_LH_does s y1 y2 y3 (f_LH_low s (x1 >>> ((12 : Int32) &&& 31)) (3 : Int32))).1, (f_LH_does s y1 y2 y3 (f_LH_low s (x1 >>> ((12 : Int32) &&& 31)) (3 : Int32))).2) else ((f_LH_does s y1 y2 y3 ((f_LH_low s (x1 >>> ((12 : Int32) &&& 31)) (5 : Int32)) - (1 : Int32))).1, (f_LH_does s y1 y2 y3 ((f_LH_low s (x1 >>> ((12 : Int32) &&& 31)) (5 : Int32)) - (1 : Int32))).2))
def p_LH_act_227  (s : am_M) (x1 : Int32) (x2 : Int32) (x3 : Int32) (x4 : Int32) (x5 : Int32) (x6 : Int32) (y1 : Int32) (y2 : Int32) (y3 : Int32) : Prop := ((x2 = 0) → p_LH_low s (x1 >>> ((12 : Int32) &&& 31)) (3 : Int32) ∧ (p_LH_does s y1 y2 y3 (f_LH_low s (x1 >>> ((12 : Int32) &&& 31)) (3 : Int32)) ∧ (True))) ∧ (¬ (x2 = 0) → p_LH_low s (x1 >>> ((12 : Int32) &&& 31)) (5 : Int32) ∧ (p_LH_does s y1 y2 y3 ((f_LH_low s (x1 >>> ((12 : Int32) &&& 31)) (5 : Int32)) - (1 : Int32)) ∧ (True)))
set_option maxRecDepth 100000 in
theorem w_LH_act_227 {l : Launch} {g : am_Gl} (hg : g.2.2.2.1 = true) {ad0 : Nat → Nat}  {s : am_M} {x1 : Int32} {x2 : Int32} {x3 : Int32} {x4 : Int32} {x5 : Int32} {x6 : Int32} {y1 : Int32} {y2 : Int32} {y3 : Int32} {k z : Nat} (hk : k ≤ 12) (hz : z ≤ 72) (h : p_LH_act_227  s x1 x2 x3 x4 x5 x6 y1 y2 y3) : AW l g m_LH_act 207 ad0 (am_oC (f_LH_act_227  s x1 x2 x3 x4 x5 x6 y1 y2 y3)) k z 207 s 227 [(0, .ref 0), (1, .int x1), (2, .int x2), (3, .int x3), (4, .int x4), (5, .int x5), (6, .int x6)] [.int y3, .int y2, .int y1, .ref 0] := by
  refine am_iload_n (j := 2) d_LH_act_227 rfl rfl ?_
  refine ai_eq (F := am_oC) (tgt := 244) d_LH_act_228 (by decide) (fun c => ?_) (fun c => ?_)
  · have h := h.1 c
    refine am_iload_n (j := 1) d_LH_act_244 rfl rfl ?_
    refine am_bipush (v := (12 : Int32)) d_LH_act_245 (by decide) ?_
    refine am_ishr d_LH_act_247 ?_
    refine am_iconst (v := (3 : Int32)) d_LH_act_248 (by decide) ?_
    obtain ⟨hc, h⟩ := h
    refine ak9_S (as := [.int (x1 >>> ((12 : Int32) &&& 31)), .int (3 : Int32)]) (rest := [.int y3, .int y2, .int y1, .ref 0]) d_LH_act_249 cw_LH_act_249 rfl (am_1I (ct_LH_low hg hc)) rfl rfl (Nat.le_of_ble_eq_true rfl) (by show k + 0 ≤ 16; omega) (by show z + 0 ≤ 96; omega) ?_
    obtain ⟨hc, h⟩ := h
    refine ak9_SX (as := [.ref 0, .int y1, .int y2, .int y3, .int (f_LH_low s (x1 >>> ((12 : Int32) &&& 31)) (3 : Int32))]) (rest := []) d_LH_act_252 cw_LH_act_252 rfl (am_1C (ct_LH_does hg hc)) rfl rfl (Nat.le_of_ble_eq_true rfl) (by show k + 0 + 4 ≤ 16; omega) (by show z + 0 + 24 ≤ 96; omega) ?_
    exact am_iret d_LH_act_255 rfl rfl (by show k + 0 + 4 ≤ 16; omega) (by show z + 0 + 24 ≤ 96; omega) am_oC_ok
  · have h := h.2 c
    refine am_iload_n (j := 1) d_LH_act_231 rfl rfl ?_
    refine am_bipush (v := (12 : Int32)) d_LH_act_232 (by decide) ?_
    refine am_ishr d_LH_act_234 ?_
    refine am_iconst (v := (5 : Int32)) d_LH_act_235 (by decide) ?_
    obtain ⟨hc, h⟩ := h
    refine ak9_S (as := [.int (x1 >>> ((12 : Int32) &&& 31)), .int (5 : Int32)]) (rest := [.int y3, .int y2, .int y1, .ref 0]) d_LH_act_236 cw_LH_act_236 rfl (am_1I (ct_LH_low hg hc)) rfl rfl (Nat.le_of_ble_eq_true rfl) (by show k + 0 ≤ 16; omega) (by show z + 0 ≤ 96; omega) ?_
    refine am_iconst (v := (1 : Int32)) d_LH_act_239 (by decide) ?_
    refine am_isub d_LH_act_240 ?_
    refine am_goto (tgt := 252) d_LH_act_241 (by decide) ?_
    obtain ⟨hc, h⟩ := h
    refine ak9_SX (as := [.ref 0, .int y1, .int y2, .int y3, .int ((f_LH_low s (x1 >>> ((12 : Int32) &&& 31)) (5 : Int32)) - (1 : Int32))]) (rest := []) d_LH_act_252 cw_LH_act_252 rfl (am_1C (ct_LH_does hg hc)) rfl rfl (Nat.le_of_ble_eq_true rfl) (by show k + 0 + 4 ≤ 16; omega) (by show z + 0 + 24 ≤ 96; omega) ?_
    exact am_iret d_LH_act_255 rfl rfl (by show k + 0 + 4 ≤ 16; omega) (by show z + 0 + 24 ≤ 96; omega) am_oC_ok
def f_LH_act_289  (s : am_M) (x1 : Int32) (x2 : Int32) (x3 : Int32) (x4 : Int32) (x5 : Int32) (x6 : Int32) (x7 : Int32) (y0 : Int32) (y1 : Int32) : Int32 × am_M := (if x7 = 0 then ((f_LH_sets s (1 : Int32) x4 x5 (f_LH_low s y0 y1) (f_LH_low s (x1 >>> ((12 : Int32) &&& 31)) (6 : Int32)) (f_LH_low s (x1 >>> ((7 : Int32) &&& 31)) (6 : Int32)) (f_LH_low s (x1 >>> ((10 : Int32) &&& 31)) (3 : Int32))).1, (f_LH_sets s (1 : Int32) x4 x5 (f_LH_low s y0 y1) (f_LH_low s (x1 >>> ((12 : Int32) &&& 31)) (6 : Int32)) (f_LH_low s (x1 >>> ((7 : Int32) &&& 31)) (6 : Int32)) (f_LH_low s (x1 >>> ((10 : Int32) &&& 31)) (3 : Int32))).2) else ((f_LH_sets s (0 : Int32) x4 (f_LH_low s y0 y1) x5 (f_LH_low s (x1 >>> ((12 : Int32) &&& 31)) (6 : Int32)) (f_LH_low s (x1 >>> ((7 : Int32) &&& 31)) (3 : Int32)) (0 : Int32)).1, (f_LH_sets s (0 : Int32) x4 (f_LH_low s y0 y1) x5 (f_LH_low s (x1 >>> ((12 : Int32) &&& 31)) (6 : Int32)) (f_LH_low s (x1 >>> ((7 : Int32) &&& 31)) (3 : Int32)) (0 : Int32)).2))
def p_LH_act_289  (s : am_M) (x1 : Int32) (x2 : Int32) (x3 : Int32) (x4 : Int32) (x5 : Int32) (x6 : Int32) (x7 : Int32) (y0 : Int32) (y1 : Int32) : Prop := p_LH_low s y0 y1 ∧ (((x7 = 0) → p_LH_low s (x1 >>> ((12 : Int32) &&& 31)) (6 : Int32) ∧ (p_LH_low s (x1 >>> ((7 : Int32) &&& 31)) (6 : Int32) ∧ (p_LH_low s (x1 >>> ((10 : Int32) &&& 31)) (3 : Int32) ∧ (p_LH_sets s (1 : Int32) x4 x5 (f_LH_low s y0 y1) (f_LH_low s (x1 >>> ((12 : Int32) &&& 31)) (6 : Int32)) (f_LH_low s (x1 >>> ((7 : Int32) &&& 31)) (6 : Int32)) (f_LH_low s (x1 >>> ((10 : Int32) &&& 31)) (3 : Int32)) ∧ (True))))) ∧ (¬ (x7 = 0) → p_LH_low s (x1 >>> ((12 : Int32) &&& 31)) (6 : Int32) ∧ (p_LH_low s (x1 >>> ((7 : Int32) &&& 31)) (3 : Int32) ∧ (p_LH_sets s (0 : Int32) x4 (f_LH_low s y0 y1) x5 (f_LH_low s (x1 >>> ((12 : Int32) &&& 31)) (6 : Int32)) (f_LH_low s (x1 >>> ((7 : Int32) &&& 31)) (3 : Int32)) (0 : Int32) ∧ (True)))))
set_option maxRecDepth 100000 in
theorem w_LH_act_289 {l : Launch} {g : am_Gl} (hg : g.2.2.2.1 = true) {ad0 : Nat → Nat}  {s : am_M} {x1 : Int32} {x2 : Int32} {x3 : Int32} {x4 : Int32} {x5 : Int32} {x6 : Int32} {x7 : Int32} {y0 : Int32} {y1 : Int32} {k z : Nat} (hk : k ≤ 0) (hz : z ≤ 0) (h : p_LH_act_289  s x1 x2 x3 x4 x5 x6 x7 y0 y1) : AW l g m_LH_act 207 ad0 (am_oC (f_LH_act_289  s x1 x2 x3 x4 x5 x6 x7 y0 y1)) k z 207 s 289 [(0, .ref 0), (1, .int x1), (2, .int x2), (3, .int x3), (4, .int x4), (5, .int x5), (6, .int x6), (7, .int x7)] [.int y1, .int y0] := by
  obtain ⟨hc, h⟩ := h
  refine ak9_S (as := [.int y0, .int y1]) (rest := []) d_LH_act_289 cw_LH_act_289 rfl (am_1I (ct_LH_low hg hc)) rfl rfl (Nat.le_of_ble_eq_true rfl) (by show k + 0 ≤ 16; omega) (by show z + 0 ≤ 96; omega) ?_
  refine am_istore (lv2 := [(8, .int (f_LH_low s y0 y1)), (0, .ref 0), (1, .int x1), (2, .int x2), (3, .int x3), (4, .int x4), (5, .int x5), (6, .int x6), (7, .int x7)]) d_LH_act_292 (by decide) rfl ?_
  refine am_iload (j := 8) d_LH_act_294 rfl ?_
  refine ai_eq (F := am_oC) (tgt := 331) d_LH_act_296 (by decide) (fun c => ?_) (fun c => ?_)
  · have h := h.1 c
    refine am_aload_n (j := 1) d_LH_act_331 rfl rfl ?_
    refine am_iconst (v := (1 : Int32)) d_LH_act_332 (by decide) ?_
    refine am_iload (j := 5) d_LH_act_333 rfl ?_
    refine am_iload (j := 6) d_LH_act_335 rfl ?_
    refine am_iload (j := 0) d_LH_act_337 rfl ?_
    refine am_iload_n (j := 2) d_LH_act_339 rfl rfl ?_
    refine am_bipush (v := (12 : Int32)) d_LH_act_340 (by decide) ?_
    refine am_ishr d_LH_act_342 ?_
    refine am_bipush (v := (6 : Int32)) d_LH_act_343 (by decide) ?_
    obtain ⟨hc, h⟩ := h
    refine ak9_S (as := [.int (x1 >>> ((12 : Int32) &&& 31)), .int (6 : Int32)]) (rest := [.int (f_LH_low s y0 y1), .int x5, .int x4, .int (1 : Int32), .ref 0]) d_LH_act_345 cw_LH_act_345 rfl (am_1I (ct_LH_low hg hc)) rfl rfl (Nat.le_of_ble_eq_true rfl) (by show k + 0 + 0 ≤ 16; omega) (by show z + 0 + 0 ≤ 96; omega) ?_
    refine am_iload_n (j := 2) d_LH_act_348 rfl rfl ?_
    refine am_bipush (v := (7 : Int32)) d_LH_act_349 (by decide) ?_
    refine am_ishr d_LH_act_351 ?_
    refine am_bipush (v := (6 : Int32)) d_LH_act_352 (by decide) ?_
    obtain ⟨hc, h⟩ := h
    refine ak9_S (as := [.int (x1 >>> ((7 : Int32) &&& 31)), .int (6 : Int32)]) (rest := [.int (f_LH_low s (x1 >>> ((12 : Int32) &&& 31)) (6 : Int32)), .int (f_LH_low s y0 y1), .int x5, .int x4, .int (1 : Int32), .ref 0]) d_LH_act_354 cw_LH_act_354 rfl (am_1I (ct_LH_low hg hc)) rfl rfl (Nat.le_of_ble_eq_true rfl) (by show k + 0 + 0 + 0 ≤ 16; omega) (by show z + 0 + 0 + 0 ≤ 96; omega) ?_
    refine am_iload_n (j := 2) d_LH_act_357 rfl rfl ?_
    refine am_bipush (v := (10 : Int32)) d_LH_act_358 (by decide) ?_
    refine am_ishr d_LH_act_360 ?_
    refine am_iconst (v := (3 : Int32)) d_LH_act_361 (by decide) ?_
    obtain ⟨hc, h⟩ := h
    refine ak9_S (as := [.int (x1 >>> ((10 : Int32) &&& 31)), .int (3 : Int32)]) (rest := [.int (f_LH_low s (x1 >>> ((7 : Int32) &&& 31)) (6 : Int32)), .int (f_LH_low s (x1 >>> ((12 : Int32) &&& 31)) (6 : Int32)), .int (f_LH_low s y0 y1), .int x5, .int x4, .int (1 : Int32), .ref 0]) d_LH_act_362 cw_LH_act_362 rfl (am_1I (ct_LH_low hg hc)) rfl rfl (Nat.le_of_ble_eq_true rfl) (by show k + 0 + 0 + 0 + 0 ≤ 16; omega) (by show z + 0 + 0 + 0 + 0 ≤ 96; omega) ?_
    obtain ⟨hc, h⟩ := h
    refine ak9_SX (as := [.ref 0, .int (1 : Int32), .int x4, .int x5, .int (f_LH_low s y0 y1), .int (f_LH_low s (x1 >>> ((12 : Int32) &&& 31)) (6 : Int32)), .int (f_LH_low s (x1 >>> ((7 : Int32) &&& 31)) (6 : Int32)), .int (f_LH_low s (x1 >>> ((10 : Int32) &&& 31)) (3 : Int32))]) (rest := []) d_LH_act_365 cw_LH_act_365 rfl (am_1C (ct_LH_sets hg hc)) rfl rfl (Nat.le_of_ble_eq_true rfl) (by show k + 0 + 0 + 0 + 0 + 16 ≤ 16; omega) (by show z + 0 + 0 + 0 + 0 + 96 ≤ 96; omega) ?_
    exact am_iret d_LH_act_368 rfl rfl (by show k + 0 + 0 + 0 + 0 + 16 ≤ 16; omega) (by show z + 0 + 0 + 0 + 0 + 96 ≤ 96; omega) am_oC_ok
  · have h := h.2 c
    refine am_aload_n (j := 1) d_LH_act_299 rfl rfl ?_
    refine am_iconst (v := (0 : Int32)) d_LH_act_300 (by decide) ?_
    refine am_iload (j := 5) d_LH_act_301 rfl ?_
    refine am_iload (j := 0) d_LH_act_303 rfl ?_
    refine am_iload (j := 6) d_LH_act_305 rfl ?_
    refine am_iload_n (j := 2) d_LH_act_307 rfl rfl ?_
    refine am_bipush (v := (12 : Int32)) d_LH_act_308 (by decide) ?_
    refine am_ishr d_LH_act_310 ?_
    refine am_bipush (v := (6 : Int32)) d_LH_act_311 (by decide) ?_
    obtain ⟨hc, h⟩ := h
    refine ak9_S (as := [.int (x1 >>> ((12 : Int32) &&& 31)), .int (6 : Int32)]) (rest := [.int x5, .int (f_LH_low s y0 y1), .int x4, .int (0 : Int32), .ref 0]) d_LH_act_313 cw_LH_act_313 rfl (am_1I (ct_LH_low hg hc)) rfl rfl (Nat.le_of_ble_eq_true rfl) (by show k + 0 + 0 ≤ 16; omega) (by show z + 0 + 0 ≤ 96; omega) ?_
    refine am_iload_n (j := 2) d_LH_act_316 rfl rfl ?_
    refine am_bipush (v := (7 : Int32)) d_LH_act_317 (by decide) ?_
    refine am_ishr d_LH_act_319 ?_
    refine am_iconst (v := (3 : Int32)) d_LH_act_320 (by decide) ?_
    obtain ⟨hc, h⟩ := h
    refine ak9_S (as := [.int (x1 >>> ((7 : Int32) &&& 31)), .int (3 : Int32)]) (rest := [.int (f_LH_low s (x1 >>> ((12 : Int32) &&& 31)) (6 : Int32)), .int x5, .int (f_LH_low s y0 y1), .int x4, .int (0 : Int32), .ref 0]) d_LH_act_321 cw_LH_act_321 rfl (am_1I (ct_LH_low hg hc)) rfl rfl (Nat.le_of_ble_eq_true rfl) (by show k + 0 + 0 + 0 ≤ 16; omega) (by show z + 0 + 0 + 0 ≤ 96; omega) ?_
    refine am_iconst (v := (0 : Int32)) d_LH_act_324 (by decide) ?_
    obtain ⟨hc, h⟩ := h
    refine ak9_SX (as := [.ref 0, .int (0 : Int32), .int x4, .int (f_LH_low s y0 y1), .int x5, .int (f_LH_low s (x1 >>> ((12 : Int32) &&& 31)) (6 : Int32)), .int (f_LH_low s (x1 >>> ((7 : Int32) &&& 31)) (3 : Int32)), .int (0 : Int32)]) (rest := []) d_LH_act_325 cw_LH_act_325 rfl (am_1C (ct_LH_sets hg hc)) rfl rfl (Nat.le_of_ble_eq_true rfl) (by show k + 0 + 0 + 0 + 16 ≤ 16; omega) (by show z + 0 + 0 + 0 + 96 ≤ 96; omega) ?_
    refine am_goto (tgt := 368) d_LH_act_328 (by decide) ?_
    exact am_iret d_LH_act_368 rfl rfl (by show k + 0 + 0 + 0 + 16 ≤ 16; omega) (by show z + 0 + 0 + 0 + 96 ≤ 96; omega) am_oC_ok
def f_LH_act_273  (s : am_M) (x1 : Int32) (x2 : Int32) (x3 : Int32) (x4 : Int32) (x5 : Int32) (x6 : Int32) (y0 : Int32) : Int32 × am_M := (if x2 = 0 then (f_LH_act_289 s x1 x2 x3 x4 x5 x6 y0 (x1 >>> ((14 : Int32) &&& 31)) (5 : Int32)) else (f_LH_act_289 s x1 x2 x3 x4 x5 x6 y0 (x1 >>> ((14 : Int32) &&& 31)) (7 : Int32)))
def p_LH_act_273  (s : am_M) (x1 : Int32) (x2 : Int32) (x3 : Int32) (x4 : Int32) (x5 : Int32) (x6 : Int32) (y0 : Int32) : Prop := ((x2 = 0) → (p_LH_act_289 s x1 x2 x3 x4 x5 x6 y0 (x1 >>> ((14 : Int32) &&& 31)) (5 : Int32))) ∧ (¬ (x2 = 0) → (p_LH_act_289 s x1 x2 x3 x4 x5 x6 y0 (x1 >>> ((14 : Int32) &&& 31)) (7 : Int32)))
set_option maxRecDepth 100000 in
theorem w_LH_act_273 {l : Launch} {g : am_Gl} (hg : g.2.2.2.1 = true) {ad0 : Nat → Nat}  {s : am_M} {x1 : Int32} {x2 : Int32} {x3 : Int32} {x4 : Int32} {x5 : Int32} {x6 : Int32} {y0 : Int32} {k z : Nat} (hk : k ≤ 0) (hz : z ≤ 0) (h : p_LH_act_273  s x1 x2 x3 x4 x5 x6 y0) : AW l g m_LH_act 207 ad0 (am_oC (f_LH_act_273  s x1 x2 x3 x4 x5 x6 y0)) k z 207 s 273 [(0, .ref 0), (1, .int x1), (2, .int x2), (3, .int x3), (4, .int x4), (5, .int x5), (6, .int x6)] [.int y0] := by
  refine am_istore (lv2 := [(7, .int y0), (0, .ref 0), (1, .int x1), (2, .int x2), (3, .int x3), (4, .int x4), (5, .int x5), (6, .int x6)]) d_LH_act_273 (by decide) rfl ?_
  refine am_iload_n (j := 2) d_LH_act_275 rfl rfl ?_
  refine am_bipush (v := (14 : Int32)) d_LH_act_276 (by decide) ?_
  refine am_ishr d_LH_act_278 ?_
  refine am_iload_n (j := 3) d_LH_act_279 rfl rfl ?_
  refine ai_eq (F := am_oC) (tgt := 288) d_LH_act_280 (by decide) (fun c => ?_) (fun c => ?_)
  · have h := h.1 c
    refine am_iconst (v := (5 : Int32)) d_LH_act_288 (by decide) ?_
    refine am_sub [1, 2, 3, 4, 5, 6, 7, 0] (lv2 := [(0, .ref 0), (1, .int x1), (2, .int x2), (3, .int x3), (4, .int x4), (5, .int x5), (6, .int x6), (7, .int y0)]) rfl ?_
    exact w_LH_act_289 hg  (by show k ≤ 0; omega) (by show z ≤ 0; omega) h
  · have h := h.2 c
    refine am_bipush (v := (7 : Int32)) d_LH_act_283 (by decide) ?_
    refine am_goto (tgt := 289) d_LH_act_285 (by decide) ?_
    refine am_sub [1, 2, 3, 4, 5, 6, 7, 0] (lv2 := [(0, .ref 0), (1, .int x1), (2, .int x2), (3, .int x3), (4, .int x4), (5, .int x5), (6, .int x6), (7, .int y0)]) rfl ?_
    exact w_LH_act_289 hg  (by show k ≤ 0; omega) (by show z ≤ 0; omega) h
def f_LH_act_455  (s : am_M) (x1 : Int32) (x2 : Int32) (x3 : Int32) (x4 : Int32) (x5 : Int32) (x6 : Int32) (y1 : Int32) (y2 : Int32) (y3 : Int32) (y4 : Int32) : Int32 × am_M := ((f_LH_sets s y1 y2 y3 y4 (f_LH_low s (x1 >>> ((14 : Int32) &&& 31)) (18 : Int32)) (0 : Int32) (0 : Int32)).1, (f_LH_sets s y1 y2 y3 y4 (f_LH_low s (x1 >>> ((14 : Int32) &&& 31)) (18 : Int32)) (0 : Int32) (0 : Int32)).2)
def p_LH_act_455  (s : am_M) (x1 : Int32) (x2 : Int32) (x3 : Int32) (x4 : Int32) (x5 : Int32) (x6 : Int32) (y1 : Int32) (y2 : Int32) (y3 : Int32) (y4 : Int32) : Prop := p_LH_low s (x1 >>> ((14 : Int32) &&& 31)) (18 : Int32) ∧ (p_LH_sets s y1 y2 y3 y4 (f_LH_low s (x1 >>> ((14 : Int32) &&& 31)) (18 : Int32)) (0 : Int32) (0 : Int32) ∧ (True))
set_option maxRecDepth 100000 in
theorem w_LH_act_455 {l : Launch} {g : am_Gl} (hg : g.2.2.2.1 = true) {ad0 : Nat → Nat}  {s : am_M} {x1 : Int32} {x2 : Int32} {x3 : Int32} {x4 : Int32} {x5 : Int32} {x6 : Int32} {y1 : Int32} {y2 : Int32} {y3 : Int32} {y4 : Int32} {k z : Nat} (hk : k ≤ 0) (hz : z ≤ 0) (h : p_LH_act_455  s x1 x2 x3 x4 x5 x6 y1 y2 y3 y4) : AW l g m_LH_act 207 ad0 (am_oC (f_LH_act_455  s x1 x2 x3 x4 x5 x6 y1 y2 y3 y4)) k z 207 s 455 [(0, .ref 0), (1, .int x1), (2, .int x2), (3, .int x3), (4, .int x4), (5, .int x5), (6, .int x6)] [.int y4, .int y3, .int y2, .int y1, .ref 0] := by
  refine am_iload_n (j := 1) d_LH_act_455 rfl rfl ?_
  refine am_bipush (v := (14 : Int32)) d_LH_act_456 (by decide) ?_
  refine am_ishr d_LH_act_458 ?_
  refine am_bipush (v := (18 : Int32)) d_LH_act_459 (by decide) ?_
  obtain ⟨hc, h⟩ := h
  refine ak9_S (as := [.int (x1 >>> ((14 : Int32) &&& 31)), .int (18 : Int32)]) (rest := [.int y4, .int y3, .int y2, .int y1, .ref 0]) d_LH_act_461 cw_LH_act_461 rfl (am_1I (ct_LH_low hg hc)) rfl rfl (Nat.le_of_ble_eq_true rfl) (by show k + 0 ≤ 16; omega) (by show z + 0 ≤ 96; omega) ?_
  refine am_iconst (v := (0 : Int32)) d_LH_act_464 (by decide) ?_
  refine am_iconst (v := (0 : Int32)) d_LH_act_465 (by decide) ?_
  obtain ⟨hc, h⟩ := h
  refine ak9_SX (as := [.ref 0, .int y1, .int y2, .int y3, .int y4, .int (f_LH_low s (x1 >>> ((14 : Int32) &&& 31)) (18 : Int32)), .int (0 : Int32), .int (0 : Int32)]) (rest := []) d_LH_act_466 cw_LH_act_466 rfl (am_1C (ct_LH_sets hg hc)) rfl rfl (Nat.le_of_ble_eq_true rfl) (by show k + 0 + 16 ≤ 16; omega) (by show z + 0 + 96 ≤ 96; omega) ?_
  refine am_goto (tgt := 550) d_LH_act_469 (by decide) ?_
  exact am_iret d_LH_act_550 rfl rfl (by show k + 0 + 16 ≤ 16; omega) (by show z + 0 + 96 ≤ 96; omega) am_oC_ok
def f_LH_act_425  (s : am_M) (x1 : Int32) (x2 : Int32) (x3 : Int32) (x4 : Int32) (x5 : Int32) (x6 : Int32) (y1 : Int32) : Int32 × am_M := (if x3 = (11 : Int32) then (f_LH_act_455 s x1 x2 x3 x4 x5 x6 y1 x4 x5 (-(f_LH_low s (x1 >>> ((12 : Int32) &&& 31)) (5 : Int32)))) else (f_LH_act_455 s x1 x2 x3 x4 x5 x6 y1 x4 x5 (f_LH_low s (x1 >>> ((12 : Int32) &&& 31)) (3 : Int32))))
def p_LH_act_425  (s : am_M) (x1 : Int32) (x2 : Int32) (x3 : Int32) (x4 : Int32) (x5 : Int32) (x6 : Int32) (y1 : Int32) : Prop := ((x3 = (11 : Int32)) → p_LH_low s (x1 >>> ((12 : Int32) &&& 31)) (5 : Int32) ∧ ((p_LH_act_455 s x1 x2 x3 x4 x5 x6 y1 x4 x5 (-(f_LH_low s (x1 >>> ((12 : Int32) &&& 31)) (5 : Int32)))))) ∧ (¬ (x3 = (11 : Int32)) → p_LH_low s (x1 >>> ((12 : Int32) &&& 31)) (3 : Int32) ∧ ((p_LH_act_455 s x1 x2 x3 x4 x5 x6 y1 x4 x5 (f_LH_low s (x1 >>> ((12 : Int32) &&& 31)) (3 : Int32)))))
set_option maxRecDepth 100000 in
theorem w_LH_act_425 {l : Launch} {g : am_Gl} (hg : g.2.2.2.1 = true) {ad0 : Nat → Nat}  {s : am_M} {x1 : Int32} {x2 : Int32} {x3 : Int32} {x4 : Int32} {x5 : Int32} {x6 : Int32} {y1 : Int32} {k z : Nat} (hk : k ≤ 0) (hz : z ≤ 0) (h : p_LH_act_425  s x1 x2 x3 x4 x5 x6 y1) : AW l g m_LH_act 207 ad0 (am_oC (f_LH_act_425  s x1 x2 x3 x4 x5 x6 y1)) k z 207 s 425 [(0, .ref 0), (1, .int x1), (2, .int x2), (3, .int x3), (4, .int x4), (5, .int x5), (6, .int x6)] [.int y1, .ref 0] := by
  refine am_iload (j := 4) d_LH_act_425 rfl ?_
  refine am_iload (j := 5) d_LH_act_427 rfl ?_
  refine am_iload_n (j := 3) d_LH_act_429 rfl rfl ?_
  refine am_bipush (v := (11 : Int32)) d_LH_act_430 (by decide) ?_
  refine aj_ne (F := am_oC) (tgt := 447) d_LH_act_432 (by decide) (fun c => ?_) (fun c => ?_)
  · have h := h.2 c
    refine am_iload_n (j := 1) d_LH_act_447 rfl rfl ?_
    refine am_bipush (v := (12 : Int32)) d_LH_act_448 (by decide) ?_
    refine am_ishr d_LH_act_450 ?_
    refine am_iconst (v := (3 : Int32)) d_LH_act_451 (by decide) ?_
    obtain ⟨hc, h⟩ := h
    refine ak9_S (as := [.int (x1 >>> ((12 : Int32) &&& 31)), .int (3 : Int32)]) (rest := [.int x5, .int x4, .int y1, .ref 0]) d_LH_act_452 cw_LH_act_452 rfl (am_1I (ct_LH_low hg hc)) rfl rfl (Nat.le_of_ble_eq_true rfl) (by show k + 0 ≤ 16; omega) (by show z + 0 ≤ 96; omega) ?_
    exact w_LH_act_455 hg  (by show k + 0 ≤ 0; omega) (by show z + 0 ≤ 0; omega) h
  · have h := h.1 c
    refine am_iload_n (j := 1) d_LH_act_435 rfl rfl ?_
    refine am_bipush (v := (12 : Int32)) d_LH_act_436 (by decide) ?_
    refine am_ishr d_LH_act_438 ?_
    refine am_iconst (v := (5 : Int32)) d_LH_act_439 (by decide) ?_
    obtain ⟨hc, h⟩ := h
    refine ak9_S (as := [.int (x1 >>> ((12 : Int32) &&& 31)), .int (5 : Int32)]) (rest := [.int x5, .int x4, .int y1, .ref 0]) d_LH_act_440 cw_LH_act_440 rfl (am_1I (ct_LH_low hg hc)) rfl rfl (Nat.le_of_ble_eq_true rfl) (by show k + 0 ≤ 16; omega) (by show z + 0 ≤ 96; omega) ?_
    refine am_ineg d_LH_act_443 ?_
    refine am_goto (tgt := 455) d_LH_act_444 (by decide) ?_
    exact w_LH_act_455 hg  (by show k + 0 ≤ 0; omega) (by show z + 0 ≤ 0; omega) h
def f_LH_act_523  (s : am_M) (x1 : Int32) (x2 : Int32) (x3 : Int32) (x4 : Int32) (x5 : Int32) (x6 : Int32) (y1 : Int32) (y2 : Int32) (y3 : Int32) (y4 : Int32) (y5 : Int32) : Int32 × am_M := ((f_LH_sets s y1 y2 y3 (f_LH_low s y4 y5) (f_LH_low s (x1 >>> ((12 : Int32) &&& 31)) (6 : Int32)) ((f_LH_low s (x1 >>> ((10 : Int32) &&& 31)) (9 : Int32)) - (2 : Int32)) (0 : Int32)).1, (f_LH_sets s y1 y2 y3 (f_LH_low s y4 y5) (f_LH_low s (x1 >>> ((12 : Int32) &&& 31)) (6 : Int32)) ((f_LH_low s (x1 >>> ((10 : Int32) &&& 31)) (9 : Int32)) - (2 : Int32)) (0 : Int32)).2)
def p_LH_act_523  (s : am_M) (x1 : Int32) (x2 : Int32) (x3 : Int32) (x4 : Int32) (x5 : Int32) (x6 : Int32) (y1 : Int32) (y2 : Int32) (y3 : Int32) (y4 : Int32) (y5 : Int32) : Prop := p_LH_low s y4 y5 ∧ (p_LH_low s (x1 >>> ((12 : Int32) &&& 31)) (6 : Int32) ∧ (p_LH_low s (x1 >>> ((10 : Int32) &&& 31)) (9 : Int32) ∧ (p_LH_sets s y1 y2 y3 (f_LH_low s y4 y5) (f_LH_low s (x1 >>> ((12 : Int32) &&& 31)) (6 : Int32)) ((f_LH_low s (x1 >>> ((10 : Int32) &&& 31)) (9 : Int32)) - (2 : Int32)) (0 : Int32) ∧ (True))))
set_option maxRecDepth 100000 in
theorem w_LH_act_523 {l : Launch} {g : am_Gl} (hg : g.2.2.2.1 = true) {ad0 : Nat → Nat}  {s : am_M} {x1 : Int32} {x2 : Int32} {x3 : Int32} {x4 : Int32} {x5 : Int32} {x6 : Int32} {y1 : Int32} {y2 : Int32} {y3 : Int32} {y4 : Int32} {y5 : Int32} {k z : Nat} (hk : k ≤ 0) (hz : z ≤ 0) (h : p_LH_act_523  s x1 x2 x3 x4 x5 x6 y1 y2 y3 y4 y5) : AW l g m_LH_act 207 ad0 (am_oC (f_LH_act_523  s x1 x2 x3 x4 x5 x6 y1 y2 y3 y4 y5)) k z 207 s 523 [(0, .ref 0), (1, .int x1), (2, .int x2), (3, .int x3), (4, .int x4), (5, .int x5), (6, .int x6)] [.int y5, .int y4, .int y3, .int y2, .int y1, .ref 0] := by
  obtain ⟨hc, h⟩ := h
  refine ak9_S (as := [.int y4, .int y5]) (rest := [.int y3, .int y2, .int y1, .ref 0]) d_LH_act_523 cw_LH_act_523 rfl (am_1I (ct_LH_low hg hc)) rfl rfl (Nat.le_of_ble_eq_true rfl) (by show k + 0 ≤ 16; omega) (by show z + 0 ≤ 96; omega) ?_
  refine am_iload_n (j := 1) d_LH_act_526 rfl rfl ?_
  refine am_bipush (v := (12 : Int32)) d_LH_act_527 (by decide) ?_
  refine am_ishr d_LH_act_529 ?_
  refine am_bipush (v := (6 : Int32)) d_LH_act_530 (by decide) ?_
  obtain ⟨hc, h⟩ := h
  refine ak9_S (as := [.int (x1 >>> ((12 : Int32) &&& 31)), .int (6 : Int32)]) (rest := [.int (f_LH_low s y4 y5), .int y3, .int y2, .int y1, .ref 0]) d_LH_act_532 cw_LH_act_532 rfl (am_1I (ct_LH_low hg hc)) rfl rfl (Nat.le_of_ble_eq_true rfl) (by show k + 0 + 0 ≤ 16; omega) (by show z + 0 + 0 ≤ 96; omega) ?_
  refine am_iload_n (j := 1) d_LH_act_535 rfl rfl ?_
  refine am_bipush (v := (10 : Int32)) d_LH_act_536 (by decide) ?_
  refine am_ishr d_LH_act_538 ?_
  refine am_bipush (v := (9 : Int32)) d_LH_act_539 (by decide) ?_
  obtain ⟨hc, h⟩ := h
  refine ak9_S (as := [.int (x1 >>> ((10 : Int32) &&& 31)), .int (9 : Int32)]) (rest := [.int (f_LH_low s (x1 >>> ((12 : Int32) &&& 31)) (6 : Int32)), .int (f_LH_low s y4 y5), .int y3, .int y2, .int y1, .ref 0]) d_LH_act_541 cw_LH_act_541 rfl (am_1I (ct_LH_low hg hc)) rfl rfl (Nat.le_of_ble_eq_true rfl) (by show k + 0 + 0 + 0 ≤ 16; omega) (by show z + 0 + 0 + 0 ≤ 96; omega) ?_
  refine am_iconst (v := (2 : Int32)) d_LH_act_544 (by decide) ?_
  refine am_isub d_LH_act_545 ?_
  refine am_iconst (v := (0 : Int32)) d_LH_act_546 (by decide) ?_
  obtain ⟨hc, h⟩ := h
  refine ak9_SX (as := [.ref 0, .int y1, .int y2, .int y3, .int (f_LH_low s y4 y5), .int (f_LH_low s (x1 >>> ((12 : Int32) &&& 31)) (6 : Int32)), .int ((f_LH_low s (x1 >>> ((10 : Int32) &&& 31)) (9 : Int32)) - (2 : Int32)), .int (0 : Int32)]) (rest := []) d_LH_act_547 cw_LH_act_547 rfl (am_1C (ct_LH_sets hg hc)) rfl rfl (Nat.le_of_ble_eq_true rfl) (by show k + 0 + 0 + 0 + 16 ≤ 16; omega) (by show z + 0 + 0 + 0 + 96 ≤ 96; omega) ?_
  exact am_iret d_LH_act_550 rfl rfl (by show k + 0 + 0 + 0 + 16 ≤ 16; omega) (by show z + 0 + 0 + 0 + 96 ≤ 96; omega) am_oC_ok
def f_LH_act_503  (s : am_M) (x1 : Int32) (x2 : Int32) (x3 : Int32) (x4 : Int32) (x5 : Int32) (x6 : Int32) : Int32 × am_M := (if x2 = 0 then (f_LH_act_523 s x1 x2 x3 x4 x5 x6 (7 : Int32) x4 x5 (x1 >>> ((13 : Int32) &&& 31)) (4 : Int32)) else (f_LH_act_523 s x1 x2 x3 x4 x5 x6 (7 : Int32) x4 x5 (x1 >>> ((13 : Int32) &&& 31)) (5 : Int32)))
def p_LH_act_503  (s : am_M) (x1 : Int32) (x2 : Int32) (x3 : Int32) (x4 : Int32) (x5 : Int32) (x6 : Int32) : Prop := ((x2 = 0) → (p_LH_act_523 s x1 x2 x3 x4 x5 x6 (7 : Int32) x4 x5 (x1 >>> ((13 : Int32) &&& 31)) (4 : Int32))) ∧ (¬ (x2 = 0) → (p_LH_act_523 s x1 x2 x3 x4 x5 x6 (7 : Int32) x4 x5 (x1 >>> ((13 : Int32) &&& 31)) (5 : Int32)))
set_option maxRecDepth 100000 in
theorem w_LH_act_503 {l : Launch} {g : am_Gl} (hg : g.2.2.2.1 = true) {ad0 : Nat → Nat}  {s : am_M} {x1 : Int32} {x2 : Int32} {x3 : Int32} {x4 : Int32} {x5 : Int32} {x6 : Int32} {k z : Nat} (hk : k ≤ 0) (hz : z ≤ 0) (h : p_LH_act_503  s x1 x2 x3 x4 x5 x6) : AW l g m_LH_act 207 ad0 (am_oC (f_LH_act_503  s x1 x2 x3 x4 x5 x6)) k z 207 s 503 [(0, .ref 0), (1, .int x1), (2, .int x2), (3, .int x3), (4, .int x4), (5, .int x5), (6, .int x6)] [] := by
  refine am_aload_n (j := 0) d_LH_act_503 rfl rfl ?_
  refine am_bipush (v := (7 : Int32)) d_LH_act_504 (by decide) ?_
  refine am_iload (j := 4) d_LH_act_506 rfl ?_
  refine am_iload (j := 5) d_LH_act_508 rfl ?_
  refine am_iload_n (j := 1) d_LH_act_510 rfl rfl ?_
  refine am_bipush (v := (13 : Int32)) d_LH_act_511 (by decide) ?_
  refine am_ishr d_LH_act_513 ?_
  refine am_iload_n (j := 2) d_LH_act_514 rfl rfl ?_
  refine ai_eq (F := am_oC) (tgt := 522) d_LH_act_515 (by decide) (fun c => ?_) (fun c => ?_)
  · have h := h.1 c
    refine am_iconst (v := (4 : Int32)) d_LH_act_522 (by decide) ?_
    exact w_LH_act_523 hg  (by show k ≤ 0; omega) (by show z ≤ 0; omega) h
  · have h := h.2 c
    refine am_iconst (v := (5 : Int32)) d_LH_act_518 (by decide) ?_
    refine am_goto (tgt := 523) d_LH_act_519 (by decide) ?_
    exact w_LH_act_523 hg  (by show k ≤ 0; omega) (by show z ≤ 0; omega) h
def f_LH_act_858  (s : am_M) (x1 : Int32) (x2 : Int32) (x3 : Int32) (x4 : Int32) (x5 : Int32) (x6 : Int32) (x7 : Int32) (y1 : Int32) (y2 : Int32) (y3 : Int32) (y4 : Int32) (y5 : Int32) (y6 : Int32) : Int32 × am_M := ((f_LH_asks s y1 y2 y3 y4 (f_LH_low s y5 y6) ((f_LH_low s (x1 >>> ((14 : Int32) &&& 31)) (20 : Int32)) - (4 : Int32))).1, (f_LH_asks s y1 y2 y3 y4 (f_LH_low s y5 y6) ((f_LH_low s (x1 >>> ((14 : Int32) &&& 31)) (20 : Int32)) - (4 : Int32))).2)
def p_LH_act_858  (s : am_M) (x1 : Int32) (x2 : Int32) (x3 : Int32) (x4 : Int32) (x5 : Int32) (x6 : Int32) (x7 : Int32) (y1 : Int32) (y2 : Int32) (y3 : Int32) (y4 : Int32) (y5 : Int32) (y6 : Int32) : Prop := p_LH_low s y5 y6 ∧ (p_LH_low s (x1 >>> ((14 : Int32) &&& 31)) (20 : Int32) ∧ (p_LH_asks s y1 y2 y3 y4 (f_LH_low s y5 y6) ((f_LH_low s (x1 >>> ((14 : Int32) &&& 31)) (20 : Int32)) - (4 : Int32)) ∧ (True)))
set_option maxRecDepth 100000 in
theorem w_LH_act_858 {l : Launch} {g : am_Gl} (hg : g.2.2.2.1 = true) {ad0 : Nat → Nat}  {s : am_M} {x1 : Int32} {x2 : Int32} {x3 : Int32} {x4 : Int32} {x5 : Int32} {x6 : Int32} {x7 : Int32} {y1 : Int32} {y2 : Int32} {y3 : Int32} {y4 : Int32} {y5 : Int32} {y6 : Int32} {k z : Nat} (hk : k ≤ 9) (hz : z ≤ 54) (h : p_LH_act_858  s x1 x2 x3 x4 x5 x6 x7 y1 y2 y3 y4 y5 y6) : AW l g m_LH_act 207 ad0 (am_oC (f_LH_act_858  s x1 x2 x3 x4 x5 x6 x7 y1 y2 y3 y4 y5 y6)) k z 207 s 858 [(0, .ref 0), (1, .int x1), (2, .int x2), (3, .int x3), (4, .int x4), (5, .int x5), (6, .int x6), (7, .int x7)] [.int y6, .int y5, .int y4, .int y3, .int y2, .int y1, .ref 0] := by
  obtain ⟨hc, h⟩ := h
  refine ak9_S (as := [.int y5, .int y6]) (rest := [.int y4, .int y3, .int y2, .int y1, .ref 0]) d_LH_act_858 cw_LH_act_858 rfl (am_1I (ct_LH_low hg hc)) rfl rfl (Nat.le_of_ble_eq_true rfl) (by show k + 0 ≤ 16; omega) (by show z + 0 ≤ 96; omega) ?_
  refine am_iload_n (j := 1) d_LH_act_861 rfl rfl ?_
  refine am_bipush (v := (14 : Int32)) d_LH_act_862 (by decide) ?_
  refine am_ishr d_LH_act_864 ?_
  refine am_bipush (v := (20 : Int32)) d_LH_act_865 (by decide) ?_
  obtain ⟨hc, h⟩ := h
  refine ak9_S (as := [.int (x1 >>> ((14 : Int32) &&& 31)), .int (20 : Int32)]) (rest := [.int (f_LH_low s y5 y6), .int y4, .int y3, .int y2, .int y1, .ref 0]) d_LH_act_867 cw_LH_act_867 rfl (am_1I (ct_LH_low hg hc)) rfl rfl (Nat.le_of_ble_eq_true rfl) (by show k + 0 + 0 ≤ 16; omega) (by show z + 0 + 0 ≤ 96; omega) ?_
  refine am_iconst (v := (4 : Int32)) d_LH_act_870 (by decide) ?_
  refine am_isub d_LH_act_871 ?_
  obtain ⟨hc, h⟩ := h
  refine ak9_SX (as := [.ref 0, .int y1, .int y2, .int y3, .int y4, .int (f_LH_low s y5 y6), .int ((f_LH_low s (x1 >>> ((14 : Int32) &&& 31)) (20 : Int32)) - (4 : Int32))]) (rest := []) d_LH_act_872 cw_LH_act_872 rfl (am_1C (ct_LH_asks hg hc)) rfl rfl (Nat.le_of_ble_eq_true rfl) (by show k + 0 + 0 + 7 ≤ 16; omega) (by show z + 0 + 0 + 42 ≤ 96; omega) ?_
  exact am_iret d_LH_act_875 rfl rfl (by show k + 0 + 0 + 7 ≤ 16; omega) (by show z + 0 + 0 + 42 ≤ 96; omega) am_oC_ok
def f_LH_act_840  (s : am_M) (x1 : Int32) (x2 : Int32) (x3 : Int32) (x4 : Int32) (x5 : Int32) (x6 : Int32) (x7 : Int32) (y1 : Int32) (y2 : Int32) (y3 : Int32) (y4 : Int32) : Int32 × am_M := (if x2 = 0 then (f_LH_act_858 s x1 x2 x3 x4 x5 x6 x7 y1 y2 (f_LH_low s y3 y4) x5 (x1 >>> ((12 : Int32) &&& 31)) (4 : Int32)) else (f_LH_act_858 s x1 x2 x3 x4 x5 x6 x7 y1 y2 (f_LH_low s y3 y4) x5 (x1 >>> ((12 : Int32) &&& 31)) (5 : Int32)))
def p_LH_act_840  (s : am_M) (x1 : Int32) (x2 : Int32) (x3 : Int32) (x4 : Int32) (x5 : Int32) (x6 : Int32) (x7 : Int32) (y1 : Int32) (y2 : Int32) (y3 : Int32) (y4 : Int32) : Prop := p_LH_low s y3 y4 ∧ (((x2 = 0) → (p_LH_act_858 s x1 x2 x3 x4 x5 x6 x7 y1 y2 (f_LH_low s y3 y4) x5 (x1 >>> ((12 : Int32) &&& 31)) (4 : Int32))) ∧ (¬ (x2 = 0) → (p_LH_act_858 s x1 x2 x3 x4 x5 x6 x7 y1 y2 (f_LH_low s y3 y4) x5 (x1 >>> ((12 : Int32) &&& 31)) (5 : Int32))))
set_option maxRecDepth 100000 in
theorem w_LH_act_840 {l : Launch} {g : am_Gl} (hg : g.2.2.2.1 = true) {ad0 : Nat → Nat}  {s : am_M} {x1 : Int32} {x2 : Int32} {x3 : Int32} {x4 : Int32} {x5 : Int32} {x6 : Int32} {x7 : Int32} {y1 : Int32} {y2 : Int32} {y3 : Int32} {y4 : Int32} {k z : Nat} (hk : k ≤ 9) (hz : z ≤ 54) (h : p_LH_act_840  s x1 x2 x3 x4 x5 x6 x7 y1 y2 y3 y4) : AW l g m_LH_act 207 ad0 (am_oC (f_LH_act_840  s x1 x2 x3 x4 x5 x6 x7 y1 y2 y3 y4)) k z 207 s 840 [(0, .ref 0), (1, .int x1), (2, .int x2), (3, .int x3), (4, .int x4), (5, .int x5), (6, .int x6), (7, .int x7)] [.int y4, .int y3, .int y2, .int y1, .ref 0] := by
  obtain ⟨hc, h⟩ := h
  refine ak9_S (as := [.int y3, .int y4]) (rest := [.int y2, .int y1, .ref 0]) d_LH_act_840 cw_LH_act_840 rfl (am_1I (ct_LH_low hg hc)) rfl rfl (Nat.le_of_ble_eq_true rfl) (by show k + 0 ≤ 16; omega) (by show z + 0 ≤ 96; omega) ?_
  refine am_iload (j := 5) d_LH_act_843 rfl ?_
  refine am_iload_n (j := 1) d_LH_act_845 rfl rfl ?_
  refine am_bipush (v := (12 : Int32)) d_LH_act_846 (by decide) ?_
  refine am_ishr d_LH_act_848 ?_
  refine am_iload_n (j := 2) d_LH_act_849 rfl rfl ?_
  refine ai_eq (F := am_oC) (tgt := 857) d_LH_act_850 (by decide) (fun c => ?_) (fun c => ?_)
  · have h := h.1 c
    refine am_iconst (v := (4 : Int32)) d_LH_act_857 (by decide) ?_
    exact w_LH_act_858 hg  (by show k + 0 ≤ 9; omega) (by show z + 0 ≤ 54; omega) h
  · have h := h.2 c
    refine am_iconst (v := (5 : Int32)) d_LH_act_853 (by decide) ?_
    refine am_goto (tgt := 858) d_LH_act_854 (by decide) ?_
    exact w_LH_act_858 hg  (by show k + 0 ≤ 9; omega) (by show z + 0 ≤ 54; omega) h
def f_LH_act_736  (s : am_M) (x1 : Int32) (x2 : Int32) (x3 : Int32) (x4 : Int32) (x5 : Int32) (x6 : Int32) (y0 : Int32) : Int32 × am_M := (if (40 : Int32) ≤ x3 then (if (41 : Int32) ≤ x3 then (if x2 = 0 then (f_LH_act_840 s x1 x2 x3 x4 x5 x6 y0 (1 : Int32) (f_LH_low s (x1 >>> ((7 : Int32) &&& 31)) (8 : Int32)) (x1 >>> ((9 : Int32) &&& 31)) (3 : Int32)) else (f_LH_act_840 s x1 x2 x3 x4 x5 x6 y0 (1 : Int32) (f_LH_low s (x1 >>> ((7 : Int32) &&& 31)) (8 : Int32)) (x1 >>> ((9 : Int32) &&& 31)) (4 : Int32))) else ((f_LH_asks s ((2 : Int32) + ((x1 >>> ((15 : Int32) &&& 31)) &&& (1 : Int32))) y0 x5 (f_LH_low s (x1 >>> ((12 : Int32) &&& 31)) (6 : Int32)) (f_LH_low s (x1 >>> ((10 : Int32) &&& 31)) (6 : Int32)) (0 : Int32)).1, (f_LH_asks s ((2 : Int32) + ((x1 >>> ((15 : Int32) &&& 31)) &&& (1 : Int32))) y0 x5 (f_LH_low s (x1 >>> ((12 : Int32) &&& 31)) (6 : Int32)) (f_LH_low s (x1 >>> ((10 : Int32) &&& 31)) (6 : Int32)) (0 : Int32)).2)) else (if ((x1 >>> ((14 : Int32) &&& 31)) &&& (1 : Int32)) = 0 then ((f_LH_asks s (0 : Int32) y0 (-1 : Int32) (0 : Int32) (0 : Int32) (0 : Int32)).1, (f_LH_asks s (0 : Int32) y0 (-1 : Int32) (0 : Int32) (0 : Int32) (0 : Int32)).2) else ((f_LH_asks s (0 : Int32) y0 x5 (0 : Int32) (0 : Int32) (0 : Int32)).1, (f_LH_asks s (0 : Int32) y0 x5 (0 : Int32) (0 : Int32) (0 : Int32)).2)))
def p_LH_act_736  (s : am_M) (x1 : Int32) (x2 : Int32) (x3 : Int32) (x4 : Int32) (x5 : Int32) (x6 : Int32) (y0 : Int32) : Prop := (((40 : Int32) ≤ x3) → (((41 : Int32) ≤ x3) → p_LH_low s (x1 >>> ((7 : Int32) &&& 31)) (8 : Int32) ∧ (((x2 = 0) → (p_LH_act_840 s x1 x2 x3 x4 x5 x6 y0 (1 : Int32) (f_LH_low s (x1 >>> ((7 : Int32) &&& 31)) (8 : Int32)) (x1 >>> ((9 : Int32) &&& 31)) (3 : Int32))) ∧ (¬ (x2 = 0) → (p_LH_act_840 s x1 x2 x3 x4 x5 x6 y0 (1 : Int32) (f_LH_low s (x1 >>> ((7 : Int32) &&& 31)) (8 : Int32)) (x1 >>> ((9 : Int32) &&& 31)) (4 : Int32))))) ∧ (¬ ((41 : Int32) ≤ x3) → p_LH_low s (x1 >>> ((12 : Int32) &&& 31)) (6 : Int32) ∧ (p_LH_low s (x1 >>> ((10 : Int32) &&& 31)) (6 : Int32) ∧ (p_LH_asks s ((2 : Int32) + ((x1 >>> ((15 : Int32) &&& 31)) &&& (1 : Int32))) y0 x5 (f_LH_low s (x1 >>> ((12 : Int32) &&& 31)) (6 : Int32)) (f_LH_low s (x1 >>> ((10 : Int32) &&& 31)) (6 : Int32)) (0 : Int32) ∧ (True))))) ∧ (¬ ((40 : Int32) ≤ x3) → ((((x1 >>> ((14 : Int32) &&& 31)) &&& (1 : Int32)) = 0) → p_LH_asks s (0 : Int32) y0 (-1 : Int32) (0 : Int32) (0 : Int32) (0 : Int32) ∧ (True)) ∧ (¬ (((x1 >>> ((14 : Int32) &&& 31)) &&& (1 : Int32)) = 0) → p_LH_asks s (0 : Int32) y0 x5 (0 : Int32) (0 : Int32) (0 : Int32) ∧ (True)))
set_option maxRecDepth 100000 in
theorem w_LH_act_736 {l : Launch} {g : am_Gl} (hg : g.2.2.2.1 = true) {ad0 : Nat → Nat}  {s : am_M} {x1 : Int32} {x2 : Int32} {x3 : Int32} {x4 : Int32} {x5 : Int32} {x6 : Int32} {y0 : Int32} {k z : Nat} (hk : k ≤ 9) (hz : z ≤ 54) (h : p_LH_act_736  s x1 x2 x3 x4 x5 x6 y0) : AW l g m_LH_act 207 ad0 (am_oC (f_LH_act_736  s x1 x2 x3 x4 x5 x6 y0)) k z 207 s 736 [(0, .ref 0), (1, .int x1), (2, .int x2), (3, .int x3), (4, .int x4), (5, .int x5), (6, .int x6)] [.int y0] := by
  refine am_istore (lv2 := [(7, .int y0), (0, .ref 0), (1, .int x1), (2, .int x2), (3, .int x3), (4, .int x4), (5, .int x5), (6, .int x6)]) d_LH_act_736 (by decide) rfl ?_
  refine am_iload_n (j := 4) d_LH_act_738 rfl rfl ?_
  refine am_bipush (v := (40 : Int32)) d_LH_act_739 (by decide) ?_
  refine aj_ge (F := am_oC) (tgt := 772) d_LH_act_741 (by decide) (fun c => ?_) (fun c => ?_)
  · have h := h.1 c
    refine am_iload_n (j := 4) d_LH_act_772 rfl rfl ?_
    refine am_bipush (v := (41 : Int32)) d_LH_act_773 (by decide) ?_
    refine aj_ge (F := am_oC) (tgt := 816) d_LH_act_775 (by decide) (fun c => ?_) (fun c => ?_)
    · have h := h.1 c
      refine am_aload_n (j := 1) d_LH_act_816 rfl rfl ?_
      refine am_iconst (v := (1 : Int32)) d_LH_act_817 (by decide) ?_
      refine am_iload_n (j := 2) d_LH_act_818 rfl rfl ?_
      refine am_bipush (v := (7 : Int32)) d_LH_act_819 (by decide) ?_
      refine am_ishr d_LH_act_821 ?_
      refine am_bipush (v := (8 : Int32)) d_LH_act_822 (by decide) ?_
      obtain ⟨hc, h⟩ := h
      refine ak9_S (as := [.int (x1 >>> ((7 : Int32) &&& 31)), .int (8 : Int32)]) (rest := [.int (1 : Int32), .ref 0]) d_LH_act_824 cw_LH_act_824 rfl (am_1I (ct_LH_low hg hc)) rfl rfl (Nat.le_of_ble_eq_true rfl) (by show k + 0 ≤ 16; omega) (by show z + 0 ≤ 96; omega) ?_
      refine am_iload_n (j := 2) d_LH_act_827 rfl rfl ?_
      refine am_bipush (v := (9 : Int32)) d_LH_act_828 (by decide) ?_
      refine am_ishr d_LH_act_830 ?_
      refine am_iload_n (j := 3) d_LH_act_831 rfl rfl ?_
      refine ai_eq (F := am_oC) (tgt := 839) d_LH_act_832 (by decide) (fun c => ?_) (fun c => ?_)
      · have h := h.1 c
        refine am_iconst (v := (3 : Int32)) d_LH_act_839 (by decide) ?_
        refine am_sub [1, 2, 3, 4, 5, 6, 7, 0] (lv2 := [(0, .ref 0), (1, .int x1), (2, .int x2), (3, .int x3), (4, .int x4), (5, .int x5), (6, .int x6), (7, .int y0)]) rfl ?_
        exact w_LH_act_840 hg  (by show k + 0 ≤ 9; omega) (by show z + 0 ≤ 54; omega) h
      · have h := h.2 c
        refine am_iconst (v := (4 : Int32)) d_LH_act_835 (by decide) ?_
        refine am_goto (tgt := 840) d_LH_act_836 (by decide) ?_
        refine am_sub [1, 2, 3, 4, 5, 6, 7, 0] (lv2 := [(0, .ref 0), (1, .int x1), (2, .int x2), (3, .int x3), (4, .int x4), (5, .int x5), (6, .int x6), (7, .int y0)]) rfl ?_
        exact w_LH_act_840 hg  (by show k + 0 ≤ 9; omega) (by show z + 0 ≤ 54; omega) h
    · have h := h.2 c
      refine am_aload_n (j := 1) d_LH_act_778 rfl rfl ?_
      refine am_iconst (v := (2 : Int32)) d_LH_act_779 (by decide) ?_
      refine am_iload_n (j := 2) d_LH_act_780 rfl rfl ?_
      refine am_bipush (v := (15 : Int32)) d_LH_act_781 (by decide) ?_
      refine am_ishr d_LH_act_783 ?_
      refine am_iconst (v := (1 : Int32)) d_LH_act_784 (by decide) ?_
      refine am_iand d_LH_act_785 ?_
      refine am_iadd d_LH_act_786 ?_
      refine am_iload (j := 0) d_LH_act_787 rfl ?_
      refine am_iload (j := 6) d_LH_act_789 rfl ?_
      refine am_iload_n (j := 2) d_LH_act_791 rfl rfl ?_
      refine am_bipush (v := (12 : Int32)) d_LH_act_792 (by decide) ?_
      refine am_ishr d_LH_act_794 ?_
      refine am_bipush (v := (6 : Int32)) d_LH_act_795 (by decide) ?_
      obtain ⟨hc, h⟩ := h
      refine ak9_S (as := [.int (x1 >>> ((12 : Int32) &&& 31)), .int (6 : Int32)]) (rest := [.int x5, .int y0, .int ((2 : Int32) + ((x1 >>> ((15 : Int32) &&& 31)) &&& (1 : Int32))), .ref 0]) d_LH_act_797 cw_LH_act_797 rfl (am_1I (ct_LH_low hg hc)) rfl rfl (Nat.le_of_ble_eq_true rfl) (by show k + 0 ≤ 16; omega) (by show z + 0 ≤ 96; omega) ?_
      refine am_iload_n (j := 2) d_LH_act_800 rfl rfl ?_
      refine am_bipush (v := (10 : Int32)) d_LH_act_801 (by decide) ?_
      refine am_ishr d_LH_act_803 ?_
      refine am_bipush (v := (6 : Int32)) d_LH_act_804 (by decide) ?_
      obtain ⟨hc, h⟩ := h
      refine ak9_S (as := [.int (x1 >>> ((10 : Int32) &&& 31)), .int (6 : Int32)]) (rest := [.int (f_LH_low s (x1 >>> ((12 : Int32) &&& 31)) (6 : Int32)), .int x5, .int y0, .int ((2 : Int32) + ((x1 >>> ((15 : Int32) &&& 31)) &&& (1 : Int32))), .ref 0]) d_LH_act_806 cw_LH_act_806 rfl (am_1I (ct_LH_low hg hc)) rfl rfl (Nat.le_of_ble_eq_true rfl) (by show k + 0 + 0 ≤ 16; omega) (by show z + 0 + 0 ≤ 96; omega) ?_
      refine am_iconst (v := (0 : Int32)) d_LH_act_809 (by decide) ?_
      obtain ⟨hc, h⟩ := h
      refine ak9_SX (as := [.ref 0, .int ((2 : Int32) + ((x1 >>> ((15 : Int32) &&& 31)) &&& (1 : Int32))), .int y0, .int x5, .int (f_LH_low s (x1 >>> ((12 : Int32) &&& 31)) (6 : Int32)), .int (f_LH_low s (x1 >>> ((10 : Int32) &&& 31)) (6 : Int32)), .int (0 : Int32)]) (rest := []) d_LH_act_810 cw_LH_act_810 rfl (am_1C (ct_LH_asks hg hc)) rfl rfl (Nat.le_of_ble_eq_true rfl) (by show k + 0 + 0 + 7 ≤ 16; omega) (by show z + 0 + 0 + 42 ≤ 96; omega) ?_
      refine am_goto (tgt := 875) d_LH_act_813 (by decide) ?_
      exact am_iret d_LH_act_875 rfl rfl (by show k + 0 + 0 + 7 ≤ 16; omega) (by show z + 0 + 0 + 42 ≤ 96; omega) am_oC_ok
  · have h := h.2 c
    refine am_aload_n (j := 1) d_LH_act_744 rfl rfl ?_
    refine am_iconst (v := (0 : Int32)) d_LH_act_745 (by decide) ?_
    refine am_iload (j := 0) d_LH_act_746 rfl ?_
    refine am_iload_n (j := 2) d_LH_act_748 rfl rfl ?_
    refine am_bipush (v := (14 : Int32)) d_LH_act_749 (by decide) ?_
    refine am_ishr d_LH_act_751 ?_
    refine am_iconst (v := (1 : Int32)) d_LH_act_752 (by decide) ?_
    refine am_iand d_LH_act_753 ?_
    refine ai_ne (F := am_oC) (tgt := 761) d_LH_act_754 (by decide) (fun c => ?_) (fun c => ?_)
    · have h := h.2 c
      refine am_iload (j := 6) d_LH_act_761 rfl ?_
      refine am_iconst (v := (0 : Int32)) d_LH_act_763 (by decide) ?_
      refine am_iconst (v := (0 : Int32)) d_LH_act_764 (by decide) ?_
      refine am_iconst (v := (0 : Int32)) d_LH_act_765 (by decide) ?_
      obtain ⟨hc, h⟩ := h
      refine ak9_SX (as := [.ref 0, .int (0 : Int32), .int y0, .int x5, .int (0 : Int32), .int (0 : Int32), .int (0 : Int32)]) (rest := []) d_LH_act_766 cw_LH_act_766 rfl (am_1C (ct_LH_asks hg hc)) rfl rfl (Nat.le_of_ble_eq_true rfl) (by show k + 7 ≤ 16; omega) (by show z + 42 ≤ 96; omega) ?_
      refine am_goto (tgt := 875) d_LH_act_769 (by decide) ?_
      exact am_iret d_LH_act_875 rfl rfl (by show k + 7 ≤ 16; omega) (by show z + 42 ≤ 96; omega) am_oC_ok
    · have h := h.1 c
      refine am_iconst (v := (-1 : Int32)) d_LH_act_757 (by decide) ?_
      refine am_goto (tgt := 763) d_LH_act_758 (by decide) ?_
      refine am_iconst (v := (0 : Int32)) d_LH_act_763 (by decide) ?_
      refine am_iconst (v := (0 : Int32)) d_LH_act_764 (by decide) ?_
      refine am_iconst (v := (0 : Int32)) d_LH_act_765 (by decide) ?_
      obtain ⟨hc, h⟩ := h
      refine ak9_SX (as := [.ref 0, .int (0 : Int32), .int y0, .int (-1 : Int32), .int (0 : Int32), .int (0 : Int32), .int (0 : Int32)]) (rest := []) d_LH_act_766 cw_LH_act_766 rfl (am_1C (ct_LH_asks hg hc)) rfl rfl (Nat.le_of_ble_eq_true rfl) (by show k + 7 ≤ 16; omega) (by show z + 42 ≤ 96; omega) ?_
      refine am_goto (tgt := 875) d_LH_act_769 (by decide) ?_
      exact am_iret d_LH_act_875 rfl rfl (by show k + 7 ≤ 16; omega) (by show z + 42 ≤ 96; omega) am_oC_ok
def f_LH_act_732  (s : am_M) (x1 : Int32) (x2 : Int32) (x3 : Int32) (x4 : Int32) (x5 : Int32) (x6 : Int32) (y0 : Int32) (y1 : Int32) (y2 : Int32) : Int32 × am_M := (f_LH_act_736 s x1 x2 x3 x4 x5 x6 (y0 + (f_LH_low s y1 y2)))
def p_LH_act_732  (s : am_M) (x1 : Int32) (x2 : Int32) (x3 : Int32) (x4 : Int32) (x5 : Int32) (x6 : Int32) (y0 : Int32) (y1 : Int32) (y2 : Int32) : Prop := p_LH_low s y1 y2 ∧ ((p_LH_act_736 s x1 x2 x3 x4 x5 x6 (y0 + (f_LH_low s y1 y2))))
set_option maxRecDepth 100000 in
theorem w_LH_act_732 {l : Launch} {g : am_Gl} (hg : g.2.2.2.1 = true) {ad0 : Nat → Nat}  {s : am_M} {x1 : Int32} {x2 : Int32} {x3 : Int32} {x4 : Int32} {x5 : Int32} {x6 : Int32} {y0 : Int32} {y1 : Int32} {y2 : Int32} {k z : Nat} (hk : k ≤ 9) (hz : z ≤ 54) (h : p_LH_act_732  s x1 x2 x3 x4 x5 x6 y0 y1 y2) : AW l g m_LH_act 207 ad0 (am_oC (f_LH_act_732  s x1 x2 x3 x4 x5 x6 y0 y1 y2)) k z 207 s 732 [(0, .ref 0), (1, .int x1), (2, .int x2), (3, .int x3), (4, .int x4), (5, .int x5), (6, .int x6)] [.int y2, .int y1, .int y0] := by
  obtain ⟨hc, h⟩ := h
  refine ak9_S (as := [.int y1, .int y2]) (rest := [.int y0]) d_LH_act_732 cw_LH_act_732 rfl (am_1I (ct_LH_low hg hc)) rfl rfl (Nat.le_of_ble_eq_true rfl) (by show k + 0 ≤ 16; omega) (by show z + 0 ≤ 96; omega) ?_
  refine am_iadd d_LH_act_735 ?_
  exact w_LH_act_736 hg  (by show k + 0 ≤ 9; omega) (by show z + 0 ≤ 54; omega) h
def f_LH_act_109  (s : am_M) (x1 : Int32) (x2 : Int32) (x3 : Int32) (x4 : Int32) (x5 : Int32) (y0 : Int32) : Int32 × am_M := (if (5 : Int32) ≤ x3 then (if (9 : Int32) ≤ x3 then (if (15 : Int32) ≤ x3 then (if (21 : Int32) ≤ x3 then (if (30 : Int32) ≤ x3 then (if (38 : Int32) ≤ x3 then (if (43 : Int32) ≤ x3 then (if (47 : Int32) ≤ x3 then (if (49 : Int32) ≤ x3 then ((f_LH_does s (10 : Int32) (0 : Int32) (0 : Int32) (0 : Int32)).1, (f_LH_does s (10 : Int32) (0 : Int32) (0 : Int32) (0 : Int32)).2) else (if x2 = 0 then ((f_LH_does s (11 : Int32) (f_LH_low s (x1 >>> ((7 : Int32) &&& 31)) (3 : Int32)) (0 : Int32) (0 : Int32)).1, (f_LH_does s (11 : Int32) (f_LH_low s (x1 >>> ((7 : Int32) &&& 31)) (3 : Int32)) (0 : Int32) (0 : Int32)).2) else ((f_LH_does s (11 : Int32) (f_LH_low s (x1 >>> ((7 : Int32) &&& 31)) (6 : Int32)) (0 : Int32) (0 : Int32)).1, (f_LH_does s (11 : Int32) (f_LH_low s (x1 >>> ((7 : Int32) &&& 31)) (6 : Int32)) (0 : Int32) (0 : Int32)).2))) else (if x3 = (43 : Int32) then ((f_LH_does s (3 : Int32) (0 : Int32) (0 : Int32) (0 : Int32)).1, (f_LH_does s (3 : Int32) (0 : Int32) (0 : Int32) (0 : Int32)).2) else (if x3 = (44 : Int32) then ((f_LH_asks s (7 : Int32) (f_LH_low s (x1 >>> ((7 : Int32) &&& 31)) (3 : Int32)) (f_LH_low s (x1 >>> ((9 : Int32) &&& 31)) (6 : Int32)) x5 (f_LH_number s (x1 >>> ((12 : Int32) &&& 31)) x2) (0 : Int32)).1, (f_LH_asks s (7 : Int32) (f_LH_low s (x1 >>> ((7 : Int32) &&& 31)) (3 : Int32)) (f_LH_low s (x1 >>> ((9 : Int32) &&& 31)) (6 : Int32)) x5 (f_LH_number s (x1 >>> ((12 : Int32) &&& 31)) x2) (0 : Int32)).2) else (if x3 = (45 : Int32) then (if ((x1 >>> ((13 : Int32) &&& 31)) &&& (1 : Int32)) = 0 then ((f_LH_asks s (8 : Int32) (f_LH_low s (x1 >>> ((7 : Int32) &&& 31)) (3 : Int32)) x4 (0 : Int32) (0 : Int32) (0 : Int32)).1, (f_LH_asks s (8 : Int32) (f_LH_low s (x1 >>> ((7 : Int32) &&& 31)) (3 : Int32)) x4 (0 : Int32) (0 : Int32) (0 : Int32)).2) else (if x2 = 0 then ((f_LH_asks s (10 : Int32) (f_LH_low s (x1 >>> ((7 : Int32) &&& 31)) (3 : Int32)) (f_LH_low s (x1 >>> ((9 : Int32) &&& 31)) (6 : Int32)) ((1 : Int32) + (f_LH_low s (x1 >>> ((12 : Int32) &&& 31)) (4 : Int32))) (0 : Int32) (0 : Int32)).1, (f_LH_asks s (10 : Int32) (f_LH_low s (x1 >>> ((7 : Int32) &&& 31)) (3 : Int32)) (f_LH_low s (x1 >>> ((9 : Int32) &&& 31)) (6 : Int32)) ((1 : Int32) + (f_LH_low s (x1 >>> ((12 : Int32) &&& 31)) (4 : Int32))) (0 : Int32) (0 : Int32)).2) else ((f_LH_asks s (10 : Int32) (f_LH_low s (x1 >>> ((7 : Int32) &&& 31)) (3 : Int32)) (f_LH_low s (x1 >>> ((9 : Int32) &&& 31)) (6 : Int32)) ((1 : Int32) + (f_LH_low s (x1 >>> ((12 : Int32) &&& 31)) (7 : Int32))) (0 : Int32) (0 : Int32)).1, (f_LH_asks s (10 : Int32) (f_LH_low s (x1 >>> ((7 : Int32) &&& 31)) (3 : Int32)) (f_LH_low s (x1 >>> ((9 : Int32) &&& 31)) (6 : Int32)) ((1 : Int32) + (f_LH_low s (x1 >>> ((12 : Int32) &&& 31)) (7 : Int32))) (0 : Int32) (0 : Int32)).2))) else ((f_LH_asks s (9 : Int32) (f_LH_low s (x1 >>> ((7 : Int32) &&& 31)) (3 : Int32)) (f_LH_low s (x1 >>> ((9 : Int32) &&& 31)) (6 : Int32)) x5 (0 : Int32) (0 : Int32)).1, (f_LH_asks s (9 : Int32) (f_LH_low s (x1 >>> ((7 : Int32) &&& 31)) (3 : Int32)) (f_LH_low s (x1 >>> ((9 : Int32) &&& 31)) (6 : Int32)) x5 (0 : Int32) (0 : Int32)).2))))) else (if ((x1 >>> ((13 : Int32) &&& 31)) &&& (1 : Int32)) = 0 then (f_LH_act_736 s x1 x2 x3 x4 x5 y0 x4) else (if x2 = 0 then (f_LH_act_732 s x1 x2 x3 x4 x5 y0 (10 : Int32) (x1 >>> ((7 : Int32) &&& 31)) (6 : Int32)) else (f_LH_act_732 s x1 x2 x3 x4 x5 y0 (10 : Int32) (x1 >>> ((7 : Int32) &&& 31)) (9 : Int32))))) else (if (36 : Int32) ≤ x3 then ((f_LH_does s (8 : Int32) x4 y0 (0 : Int32)).1, (f_LH_does s (8 : Int32) x4 y0 (0 : Int32)).2) else ((f_LH_sets s (8 : Int32) x4 y0 x5 (f_LH_number s (x1 >>> ((13 : Int32) &&& 31)) x2) (0 : Int32) (0 : Int32)).1, (f_LH_sets s (8 : Int32) x4 y0 x5 (f_LH_number s (x1 >>> ((13 : Int32) &&& 31)) x2) (0 : Int32) (0 : Int32)).2))) else (if (28 : Int32) ≤ x3 then (if x3 = (28 : Int32) then ((f_LH_does s (9 : Int32) x4 y0 (0 : Int32)).1, (f_LH_does s (9 : Int32) x4 y0 (0 : Int32)).2) else ((f_LH_does s (7 : Int32) x4 x5 (0 : Int32)).1, (f_LH_does s (7 : Int32) x4 x5 (0 : Int32)).2)) else ((f_LH_does s (6 : Int32) x4 (0 : Int32) (0 : Int32)).1, (f_LH_does s (6 : Int32) x4 (0 : Int32) (0 : Int32)).2))) else (if x2 = 0 then ((f_LH_does s (5 : Int32) (f_LH_low s (x1 >>> ((9 : Int32) &&& 31)) (4 : Int32)) (f_LH_number s (x1 >>> ((11 : Int32) &&& 31)) x2) (0 : Int32)).1, (f_LH_does s (5 : Int32) (f_LH_low s (x1 >>> ((9 : Int32) &&& 31)) (4 : Int32)) (f_LH_number s (x1 >>> ((11 : Int32) &&& 31)) x2) (0 : Int32)).2) else ((f_LH_does s (5 : Int32) x5 (f_LH_number s (x1 >>> ((11 : Int32) &&& 31)) x2) (0 : Int32)).1, (f_LH_does s (5 : Int32) x5 (f_LH_number s (x1 >>> ((11 : Int32) &&& 31)) x2) (0 : Int32)).2))) else (if (11 : Int32) ≤ x3 then (if (13 : Int32) ≤ x3 then (if x3 = (13 : Int32) then (if ((x1 >>> ((13 : Int32) &&& 31)) &&& (1 : Int32)) = 0 then ((f_LH_sets s (5 : Int32) x4 x5 (0 : Int32) (0 : Int32) (0 : Int32) (0 : Int32)).1, (f_LH_sets s (5 : Int32) x4 x5 (0 : Int32) (0 : Int32) (0 : Int32) (0 : Int32)).2) else (f_LH_act_503 s x1 x2 x3 x4 x5 y0)) else (f_LH_act_503 s x1 x2 x3 x4 x5 y0)) else (if x3 = (11 : Int32) then (f_LH_act_425 s x1 x2 x3 x4 x5 y0 (4 : Int32)) else (f_LH_act_425 s x1 x2 x3 x4 x5 y0 (6 : Int32)))) else ((f_LH_sets s ((2 : Int32) + (x3 &&& (1 : Int32))) x4 x5 ((x1 >>> ((13 : Int32) &&& 31)) &&& (1 : Int32)) (0 : Int32) (0 : Int32) (0 : Int32)).1, (f_LH_sets s ((2 : Int32) + (x3 &&& (1 : Int32))) x4 x5 ((x1 >>> ((13 : Int32) &&& 31)) &&& (1 : Int32)) (0 : Int32) (0 : Int32) (0 : Int32)).2))) else (if (7 : Int32) ≤ x3 then (f_LH_act_273 s x1 x2 x3 x4 x5 y0 (0 : Int32)) else (f_LH_act_273 s x1 x2 x3 x4 x5 y0 (1 : Int32)))) else (if x3 = 0 then ((f_LH_does s (0 : Int32) (0 : Int32) (0 : Int32) (0 : Int32)).1, (f_LH_does s (0 : Int32) (0 : Int32) (0 : Int32) (0 : Int32)).2) else (if (3 : Int32) ≤ x3 then (if x2 = 0 then (f_LH_act_227 s x1 x2 x3 x4 x5 y0 (2 : Int32) x4 (f_LH_low s (x1 >>> ((9 : Int32) &&& 31)) (3 : Int32))) else (f_LH_act_227 s x1 x2 x3 x4 x5 y0 (2 : Int32) x4 ((f_LH_low s (x1 >>> ((9 : Int32) &&& 31)) (7 : Int32)) - (1 : Int32)))) else (if x2 = 0 then (f_LH_act_170 s x1 x2 x3 x4 x5 y0 (1 : Int32) x4 (-(f_LH_low s (x1 >>> ((9 : Int32) &&& 31)) (5 : Int32)))) else (f_LH_act_170 s x1 x2 x3 x4 x5 y0 (1 : Int32) x4 ((f_LH_low s (x1 >>> ((9 : Int32) &&& 31)) (30000 : Int32)) - (15000 : Int32)))))))
def p_LH_act_109  (s : am_M) (x1 : Int32) (x2 : Int32) (x3 : Int32) (x4 : Int32) (x5 : Int32) (y0 : Int32) : Prop := (((5 : Int32) ≤ x3) → (((9 : Int32) ≤ x3) → (((15 : Int32) ≤ x3) → (((21 : Int32) ≤ x3) → (((30 : Int32) ≤ x3) → (((38 : Int32) ≤ x3) → (((43 : Int32) ≤ x3) → (((47 : Int32) ≤ x3) → (((49 : Int32) ≤ x3) → p_LH_does s (10 : Int32) (0 : Int32) (0 : Int32) (0 : Int32) ∧ (True)) ∧ (¬ ((49 : Int32) ≤ x3) → ((x2 = 0) → p_LH_low s (x1 >>> ((7 : Int32) &&& 31)) (3 : Int32) ∧ (p_LH_does s (11 : Int32) (f_LH_low s (x1 >>> ((7 : Int32) &&& 31)) (3 : Int32)) (0 : Int32) (0 : Int32) ∧ (True))) ∧ (¬ (x2 = 0) → p_LH_low s (x1 >>> ((7 : Int32) &&& 31)) (6 : Int32) ∧ (p_LH_does s (11 : Int32) (f_LH_low s (x1 >>> ((7 : Int32) &&& 31)) (6 : Int32)) (0 : Int32) (0 : Int32) ∧ (True))))) ∧ (¬ ((47 : Int32) ≤ x3) → p_LH_low s (x1 >>> ((7 : Int32) &&& 31)) (3 : Int32) ∧ (p_LH_low s (x1 >>> ((9 : Int32) &&& 31)) (6 : Int32) ∧ (((x3 = (43 : Int32)) → p_LH_does s (3 : Int32) (0 : Int32) (0 : Int32) (0 : Int32) ∧ (True)) ∧ (¬ (x3 = (43 : Int32)) → ((x3 = (44 : Int32)) → p_LH_number s (x1 >>> ((12 : Int32) &&& 31)) x2 ∧ (p_LH_asks s (7 : Int32) (f_LH_low s (x1 >>> ((7 : Int32) &&& 31)) (3 : Int32)) (f_LH_low s (x1 >>> ((9 : Int32) &&& 31)) (6 : Int32)) x5 (f_LH_number s (x1 >>> ((12 : Int32) &&& 31)) x2) (0 : Int32) ∧ (True))) ∧ (¬ (x3 = (44 : Int32)) → ((x3 = (45 : Int32)) → ((((x1 >>> ((13 : Int32) &&& 31)) &&& (1 : Int32)) = 0) → p_LH_asks s (8 : Int32) (f_LH_low s (x1 >>> ((7 : Int32) &&& 31)) (3 : Int32)) x4 (0 : Int32) (0 : Int32) (0 : Int32) ∧ (True)) ∧ (¬ (((x1 >>> ((13 : Int32) &&& 31)) &&& (1 : Int32)) = 0) → ((x2 = 0) → p_LH_low s (x1 >>> ((12 : Int32) &&& 31)) (4 : Int32) ∧ (p_LH_asks s (10 : Int32) (f_LH_low s (x1 >>> ((7 : Int32) &&& 31)) (3 : Int32)) (f_LH_low s (x1 >>> ((9 : Int32) &&& 31)) (6 : Int32)) ((1 : Int32) + (f_LH_low s (x1 >>> ((12 : Int32) &&& 31)) (4 : Int32))) (0 : Int32) (0 : Int32) ∧ (True))) ∧ (¬ (x2 = 0) → p_LH_low s (x1 >>> ((12 : Int32) &&& 31)) (7 : Int32) ∧ (p_LH_asks s (10 : Int32) (f_LH_low s (x1 >>> ((7 : Int32) &&& 31)) (3 : Int32)) (f_LH_low s (x1 >>> ((9 : Int32) &&& 31)) (6 : Int32)) ((1 : Int32) + (f_LH_low s (x1 >>> ((12 : Int32) &&& 31)) (7 : Int32))) (0 : Int32) (0 : Int32) ∧ (True))))) ∧ (¬ (x3 = (45 : Int32)) → p_LH_asks s (9 : Int32) (f_LH_low s (x1 >>> ((7 : Int32) &&& 31)) (3 : Int32)) (f_LH_low s (x1 >>> ((9 : Int32) &&& 31)) (6 : Int32)) x5 (0 : Int32) (0 : Int32) ∧ (True)))))))) ∧ (¬ ((43 : Int32) ≤ x3) → ((((x1 >>> ((13 : Int32) &&& 31)) &&& (1 : Int32)) = 0) → (p_LH_act_736 s x1 x2 x3 x4 x5 y0 x4)) ∧ (¬ (((x1 >>> ((13 : Int32) &&& 31)) &&& (1 : Int32)) = 0) → ((x2 = 0) → (p_LH_act_732 s x1 x2 x3 x4 x5 y0 (10 : Int32) (x1 >>> ((7 : Int32) &&& 31)) (6 : Int32))) ∧ (¬ (x2 = 0) → (p_LH_act_732 s x1 x2 x3 x4 x5 y0 (10 : Int32) (x1 >>> ((7 : Int32) &&& 31)) (9 : Int32)))))) ∧ (¬ ((38 : Int32) ≤ x3) → (((36 : Int32) ≤ x3) → p_LH_does s (8 : Int32) x4 y0 (0 : Int32) ∧ (True)) ∧ (¬ ((36 : Int32) ≤ x3) → p_LH_number s (x1 >>> ((13 : Int32) &&& 31)) x2 ∧ (p_LH_sets s (8 : Int32) x4 y0 x5 (f_LH_number s (x1 >>> ((13 : Int32) &&& 31)) x2) (0 : Int32) (0 : Int32) ∧ (True))))) ∧ (¬ ((30 : Int32) ≤ x3) → (((28 : Int32) ≤ x3) → ((x3 = (28 : Int32)) → p_LH_does s (9 : Int32) x4 y0 (0 : Int32) ∧ (True)) ∧ (¬ (x3 = (28 : Int32)) → p_LH_does s (7 : Int32) x4 x5 (0 : Int32) ∧ (True))) ∧ (¬ ((28 : Int32) ≤ x3) → p_LH_does s (6 : Int32) x4 (0 : Int32) (0 : Int32) ∧ (True)))) ∧ (¬ ((21 : Int32) ≤ x3) → ((x2 = 0) → p_LH_low s (x1 >>> ((9 : Int32) &&& 31)) (4 : Int32) ∧ (p_LH_number s (x1 >>> ((11 : Int32) &&& 31)) x2 ∧ (p_LH_does s (5 : Int32) (f_LH_low s (x1 >>> ((9 : Int32) &&& 31)) (4 : Int32)) (f_LH_number s (x1 >>> ((11 : Int32) &&& 31)) x2) (0 : Int32) ∧ (True)))) ∧ (¬ (x2 = 0) → p_LH_number s (x1 >>> ((11 : Int32) &&& 31)) x2 ∧ (p_LH_does s (5 : Int32) x5 (f_LH_number s (x1 >>> ((11 : Int32) &&& 31)) x2) (0 : Int32) ∧ (True))))) ∧ (¬ ((15 : Int32) ≤ x3) → (((11 : Int32) ≤ x3) → (((13 : Int32) ≤ x3) → ((x3 = (13 : Int32)) → ((((x1 >>> ((13 : Int32) &&& 31)) &&& (1 : Int32)) = 0) → p_LH_sets s (5 : Int32) x4 x5 (0 : Int32) (0 : Int32) (0 : Int32) (0 : Int32) ∧ (True)) ∧ (¬ (((x1 >>> ((13 : Int32) &&& 31)) &&& (1 : Int32)) = 0) → (p_LH_act_503 s x1 x2 x3 x4 x5 y0))) ∧ (¬ (x3 = (13 : Int32)) → (p_LH_act_503 s x1 x2 x3 x4 x5 y0))) ∧ (¬ ((13 : Int32) ≤ x3) → ((x3 = (11 : Int32)) → (p_LH_act_425 s x1 x2 x3 x4 x5 y0 (4 : Int32))) ∧ (¬ (x3 = (11 : Int32)) → (p_LH_act_425 s x1 x2 x3 x4 x5 y0 (6 : Int32))))) ∧ (¬ ((11 : Int32) ≤ x3) → p_LH_sets s ((2 : Int32) + (x3 &&& (1 : Int32))) x4 x5 ((x1 >>> ((13 : Int32) &&& 31)) &&& (1 : Int32)) (0 : Int32) (0 : Int32) (0 : Int32) ∧ (True)))) ∧ (¬ ((9 : Int32) ≤ x3) → (((7 : Int32) ≤ x3) → (p_LH_act_273 s x1 x2 x3 x4 x5 y0 (0 : Int32))) ∧ (¬ ((7 : Int32) ≤ x3) → (p_LH_act_273 s x1 x2 x3 x4 x5 y0 (1 : Int32))))) ∧ (¬ ((5 : Int32) ≤ x3) → ((x3 = 0) → p_LH_does s (0 : Int32) (0 : Int32) (0 : Int32) (0 : Int32) ∧ (True)) ∧ (¬ (x3 = 0) → (((3 : Int32) ≤ x3) → ((x2 = 0) → p_LH_low s (x1 >>> ((9 : Int32) &&& 31)) (3 : Int32) ∧ ((p_LH_act_227 s x1 x2 x3 x4 x5 y0 (2 : Int32) x4 (f_LH_low s (x1 >>> ((9 : Int32) &&& 31)) (3 : Int32))))) ∧ (¬ (x2 = 0) → p_LH_low s (x1 >>> ((9 : Int32) &&& 31)) (7 : Int32) ∧ ((p_LH_act_227 s x1 x2 x3 x4 x5 y0 (2 : Int32) x4 ((f_LH_low s (x1 >>> ((9 : Int32) &&& 31)) (7 : Int32)) - (1 : Int32)))))) ∧ (¬ ((3 : Int32) ≤ x3) → ((x2 = 0) → p_LH_low s (x1 >>> ((9 : Int32) &&& 31)) (5 : Int32) ∧ ((p_LH_act_170 s x1 x2 x3 x4 x5 y0 (1 : Int32) x4 (-(f_LH_low s (x1 >>> ((9 : Int32) &&& 31)) (5 : Int32)))))) ∧ (¬ (x2 = 0) → p_LH_low s (x1 >>> ((9 : Int32) &&& 31)) (30000 : Int32) ∧ ((p_LH_act_170 s x1 x2 x3 x4 x5 y0 (1 : Int32) x4 ((f_LH_low s (x1 >>> ((9 : Int32) &&& 31)) (30000 : Int32)) - (15000 : Int32))))))))
set_option maxRecDepth 100000 in
theorem w_LH_act_109 {l : Launch} {g : am_Gl} (hg : g.2.2.2.1 = true) {ad0 : Nat → Nat}  {s : am_M} {x1 : Int32} {x2 : Int32} {x3 : Int32} {x4 : Int32} {x5 : Int32} {y0 : Int32} {k z : Nat} (hk : k ≤ 0) (hz : z ≤ 0) (h : p_LH_act_109  s x1 x2 x3 x4 x5 y0) : AW l g m_LH_act 207 ad0 (am_oC (f_LH_act_109  s x1 x2 x3 x4 x5 y0)) k z 207 s 109 [(0, .ref 0), (1, .int x1), (2, .int x2), (3, .int x3), (4, .int x4), (5, .int x5)] [.int y0] := by
  refine am_istore (lv2 := [(6, .int y0), (0, .ref 0), (1, .int x1), (2, .int x2), (3, .int x3), (4, .int x4), (5, .int x5)]) d_LH_act_109 (by decide) rfl ?_
  refine am_iload_n (j := 4) d_LH_act_111 rfl rfl ?_
  refine am_iconst (v := (5 : Int32)) d_LH_act_112 (by decide) ?_
  refine aj_ge (F := am_oC) (tgt := 256) d_LH_act_113 (by decide) (fun c => ?_) (fun c => ?_)
  · have h := h.1 c
    refine am_iload_n (j := 4) d_LH_act_256 rfl rfl ?_
    refine am_bipush (v := (9 : Int32)) d_LH_act_257 (by decide) ?_
    refine aj_ge (F := am_oC) (tgt := 369) d_LH_act_259 (by decide) (fun c => ?_) (fun c => ?_)
    · have h := h.1 c
      refine am_iload_n (j := 4) d_LH_act_369 rfl rfl ?_
      refine am_bipush (v := (15 : Int32)) d_LH_act_370 (by decide) ?_
      refine aj_ge (F := am_oC) (tgt := 551) d_LH_act_372 (by decide) (fun c => ?_) (fun c => ?_)
      · have h := h.1 c
        refine am_iload_n (j := 4) d_LH_act_551 rfl rfl ?_
        refine am_bipush (v := (21 : Int32)) d_LH_act_552 (by decide) ?_
        refine aj_ge (F := am_oC) (tgt := 589) d_LH_act_554 (by decide) (fun c => ?_) (fun c => ?_)
        · have h := h.1 c
          refine am_iload_n (j := 4) d_LH_act_589 rfl rfl ?_
          refine am_bipush (v := (30 : Int32)) d_LH_act_590 (by decide) ?_
          refine aj_ge (F := am_oC) (tgt := 646) d_LH_act_592 (by decide) (fun c => ?_) (fun c => ?_)
          · have h := h.1 c
            refine am_iload_n (j := 4) d_LH_act_646 rfl rfl ?_
            refine am_bipush (v := (38 : Int32)) d_LH_act_647 (by decide) ?_
            refine aj_ge (F := am_oC) (tgt := 695) d_LH_act_649 (by decide) (fun c => ?_) (fun c => ?_)
            · have h := h.1 c
              refine am_iload_n (j := 4) d_LH_act_695 rfl rfl ?_
              refine am_bipush (v := (43 : Int32)) d_LH_act_696 (by decide) ?_
              refine aj_ge (F := am_oC) (tgt := 876) d_LH_act_698 (by decide) (fun c => ?_) (fun c => ?_)
              · have h := h.1 c
                refine am_iload_n (j := 4) d_LH_act_876 rfl rfl ?_
                refine am_bipush (v := (47 : Int32)) d_LH_act_877 (by decide) ?_
                refine aj_ge (F := am_oC) (tgt := 1030) d_LH_act_879 (by decide) (fun c => ?_) (fun c => ?_)
                · have h := h.1 c
                  refine am_iload_n (j := 4) d_LH_act_1030 rfl rfl ?_
                  refine am_bipush (v := (49 : Int32)) d_LH_act_1031 (by decide) ?_
                  refine aj_ge (F := am_oC) (tgt := 1064) d_LH_act_1033 (by decide) (fun c => ?_) (fun c => ?_)
                  · have h := h.1 c
                    refine am_aload_n (j := 1) d_LH_act_1064 rfl rfl ?_
                    refine am_bipush (v := (10 : Int32)) d_LH_act_1065 (by decide) ?_
                    refine am_iconst (v := (0 : Int32)) d_LH_act_1067 (by decide) ?_
                    refine am_iconst (v := (0 : Int32)) d_LH_act_1068 (by decide) ?_
                    refine am_iconst (v := (0 : Int32)) d_LH_act_1069 (by decide) ?_
                    obtain ⟨hc, h⟩ := h
                    refine ak9_SX (as := [.ref 0, .int (10 : Int32), .int (0 : Int32), .int (0 : Int32), .int (0 : Int32)]) (rest := []) d_LH_act_1070 cw_LH_act_1070 rfl (am_1C (ct_LH_does hg hc)) rfl rfl (Nat.le_of_ble_eq_true rfl) (by show k + 4 ≤ 16; omega) (by show z + 24 ≤ 96; omega) ?_
                    exact am_iret d_LH_act_1073 rfl rfl (by show k + 4 ≤ 16; omega) (by show z + 24 ≤ 96; omega) am_oC_ok
                  · have h := h.2 c
                    refine am_aload_n (j := 1) d_LH_act_1036 rfl rfl ?_
                    refine am_bipush (v := (11 : Int32)) d_LH_act_1037 (by decide) ?_
                    refine am_iload_n (j := 2) d_LH_act_1039 rfl rfl ?_
                    refine am_bipush (v := (7 : Int32)) d_LH_act_1040 (by decide) ?_
                    refine am_ishr d_LH_act_1042 ?_
                    refine am_iload_n (j := 3) d_LH_act_1043 rfl rfl ?_
                    refine ai_eq (F := am_oC) (tgt := 1052) d_LH_act_1044 (by decide) (fun c => ?_) (fun c => ?_)
                    · have h := h.1 c
                      refine am_iconst (v := (3 : Int32)) d_LH_act_1052 (by decide) ?_
                      obtain ⟨hc, h⟩ := h
                      refine ak9_S (as := [.int (x1 >>> ((7 : Int32) &&& 31)), .int (3 : Int32)]) (rest := [.int (11 : Int32), .ref 0]) d_LH_act_1053 cw_LH_act_1053 rfl (am_1I (ct_LH_low hg hc)) rfl rfl (Nat.le_of_ble_eq_true rfl) (by show k + 0 ≤ 16; omega) (by show z + 0 ≤ 96; omega) ?_
                      refine am_iconst (v := (0 : Int32)) d_LH_act_1056 (by decide) ?_
                      refine am_iconst (v := (0 : Int32)) d_LH_act_1057 (by decide) ?_
                      obtain ⟨hc, h⟩ := h
                      refine ak9_SX (as := [.ref 0, .int (11 : Int32), .int (f_LH_low s (x1 >>> ((7 : Int32) &&& 31)) (3 : Int32)), .int (0 : Int32), .int (0 : Int32)]) (rest := []) d_LH_act_1058 cw_LH_act_1058 rfl (am_1C (ct_LH_does hg hc)) rfl rfl (Nat.le_of_ble_eq_true rfl) (by show k + 0 + 4 ≤ 16; omega) (by show z + 0 + 24 ≤ 96; omega) ?_
                      refine am_goto (tgt := 1073) d_LH_act_1061 (by decide) ?_
                      exact am_iret d_LH_act_1073 rfl rfl (by show k + 0 + 4 ≤ 16; omega) (by show z + 0 + 24 ≤ 96; omega) am_oC_ok
                    · have h := h.2 c
                      refine am_bipush (v := (6 : Int32)) d_LH_act_1047 (by decide) ?_
                      refine am_goto (tgt := 1053) d_LH_act_1049 (by decide) ?_
                      obtain ⟨hc, h⟩ := h
                      refine ak9_S (as := [.int (x1 >>> ((7 : Int32) &&& 31)), .int (6 : Int32)]) (rest := [.int (11 : Int32), .ref 0]) d_LH_act_1053 cw_LH_act_1053 rfl (am_1I (ct_LH_low hg hc)) rfl rfl (Nat.le_of_ble_eq_true rfl) (by show k + 0 ≤ 16; omega) (by show z + 0 ≤ 96; omega) ?_
                      refine am_iconst (v := (0 : Int32)) d_LH_act_1056 (by decide) ?_
                      refine am_iconst (v := (0 : Int32)) d_LH_act_1057 (by decide) ?_
                      obtain ⟨hc, h⟩ := h
                      refine ak9_SX (as := [.ref 0, .int (11 : Int32), .int (f_LH_low s (x1 >>> ((7 : Int32) &&& 31)) (6 : Int32)), .int (0 : Int32), .int (0 : Int32)]) (rest := []) d_LH_act_1058 cw_LH_act_1058 rfl (am_1C (ct_LH_does hg hc)) rfl rfl (Nat.le_of_ble_eq_true rfl) (by show k + 0 + 4 ≤ 16; omega) (by show z + 0 + 24 ≤ 96; omega) ?_
                      refine am_goto (tgt := 1073) d_LH_act_1061 (by decide) ?_
                      exact am_iret d_LH_act_1073 rfl rfl (by show k + 0 + 4 ≤ 16; omega) (by show z + 0 + 24 ≤ 96; omega) am_oC_ok
                · have h := h.2 c
                  refine am_iload_n (j := 2) d_LH_act_882 rfl rfl ?_
                  refine am_bipush (v := (7 : Int32)) d_LH_act_883 (by decide) ?_
                  refine am_ishr d_LH_act_885 ?_
                  refine am_iconst (v := (3 : Int32)) d_LH_act_886 (by decide) ?_
                  obtain ⟨hc, h⟩ := h
                  refine ak9_S (as := [.int (x1 >>> ((7 : Int32) &&& 31)), .int (3 : Int32)]) (rest := []) d_LH_act_887 cw_LH_act_887 rfl (am_1I (ct_LH_low hg hc)) rfl rfl (Nat.le_of_ble_eq_true rfl) (by show k + 0 ≤ 16; omega) (by show z + 0 ≤ 96; omega) ?_
                  refine am_istore (lv2 := [(7, .int (f_LH_low s (x1 >>> ((7 : Int32) &&& 31)) (3 : Int32))), (6, .int y0), (0, .ref 0), (1, .int x1), (2, .int x2), (3, .int x3), (4, .int x4), (5, .int x5)]) d_LH_act_890 (by decide) rfl ?_
                  refine am_iload_n (j := 3) d_LH_act_892 rfl rfl ?_
                  refine am_bipush (v := (9 : Int32)) d_LH_act_893 (by decide) ?_
                  refine am_ishr d_LH_act_895 ?_
                  refine am_bipush (v := (6 : Int32)) d_LH_act_896 (by decide) ?_
                  obtain ⟨hc, h⟩ := h
                  refine ak9_S (as := [.int (x1 >>> ((9 : Int32) &&& 31)), .int (6 : Int32)]) (rest := []) d_LH_act_898 cw_LH_act_898 rfl (am_1I (ct_LH_low hg hc)) rfl rfl (Nat.le_of_ble_eq_true rfl) (by show k + 0 + 0 ≤ 16; omega) (by show z + 0 + 0 ≤ 96; omega) ?_
                  refine am_istore (lv2 := [(8, .int (f_LH_low s (x1 >>> ((9 : Int32) &&& 31)) (6 : Int32))), (7, .int (f_LH_low s (x1 >>> ((7 : Int32) &&& 31)) (3 : Int32))), (6, .int y0), (0, .ref 0), (1, .int x1), (2, .int x2), (3, .int x3), (4, .int x4), (5, .int x5)]) d_LH_act_901 (by decide) rfl ?_
                  refine am_iload_n (j := 6) d_LH_act_903 rfl rfl ?_
                  refine am_bipush (v := (43 : Int32)) d_LH_act_904 (by decide) ?_
                  refine aj_ne (F := am_oC) (tgt := 920) d_LH_act_906 (by decide) (fun c => ?_) (fun c => ?_)
                  · have h := h.2 c
                    refine am_iload_n (j := 6) d_LH_act_920 rfl rfl ?_
                    refine am_bipush (v := (44 : Int32)) d_LH_act_921 (by decide) ?_
                    refine aj_ne (F := am_oC) (tgt := 950) d_LH_act_923 (by decide) (fun c => ?_) (fun c => ?_)
                    · have h := h.2 c
                      refine am_iload_n (j := 6) d_LH_act_950 rfl rfl ?_
                      refine am_bipush (v := (45 : Int32)) d_LH_act_951 (by decide) ?_
                      refine aj_ne (F := am_oC) (tgt := 1015) d_LH_act_953 (by decide) (fun c => ?_) (fun c => ?_)
                      · have h := h.2 c
                        refine am_aload_n (j := 3) d_LH_act_1015 rfl rfl ?_
                        refine am_bipush (v := (9 : Int32)) d_LH_act_1016 (by decide) ?_
                        refine am_iload (j := 1) d_LH_act_1018 rfl ?_
                        refine am_iload (j := 0) d_LH_act_1020 rfl ?_
                        refine am_iload (j := 8) d_LH_act_1022 rfl ?_
                        refine am_iconst (v := (0 : Int32)) d_LH_act_1024 (by decide) ?_
                        refine am_iconst (v := (0 : Int32)) d_LH_act_1025 (by decide) ?_
                        obtain ⟨hc, h⟩ := h
                        refine ak9_SX (as := [.ref 0, .int (9 : Int32), .int (f_LH_low s (x1 >>> ((7 : Int32) &&& 31)) (3 : Int32)), .int (f_LH_low s (x1 >>> ((9 : Int32) &&& 31)) (6 : Int32)), .int x5, .int (0 : Int32), .int (0 : Int32)]) (rest := []) d_LH_act_1026 cw_LH_act_1026 rfl (am_1C (ct_LH_asks hg hc)) rfl rfl (Nat.le_of_ble_eq_true rfl) (by show k + 0 + 0 + 7 ≤ 16; omega) (by show z + 0 + 0 + 42 ≤ 96; omega) ?_
                        exact am_iret d_LH_act_1029 rfl rfl (by show k + 0 + 0 + 7 ≤ 16; omega) (by show z + 0 + 0 + 42 ≤ 96; omega) am_oC_ok
                      · have h := h.1 c
                        refine am_iload_n (j := 4) d_LH_act_956 rfl rfl ?_
                        refine am_bipush (v := (13 : Int32)) d_LH_act_957 (by decide) ?_
                        refine am_ishr d_LH_act_959 ?_
                        refine am_iconst (v := (1 : Int32)) d_LH_act_960 (by decide) ?_
                        refine am_iand d_LH_act_961 ?_
                        refine ai_ne (F := am_oC) (tgt := 981) d_LH_act_962 (by decide) (fun c => ?_) (fun c => ?_)
                        · have h := h.2 c
                          refine am_aload_n (j := 3) d_LH_act_981 rfl rfl ?_
                          refine am_bipush (v := (10 : Int32)) d_LH_act_982 (by decide) ?_
                          refine am_iload (j := 1) d_LH_act_984 rfl ?_
                          refine am_iload (j := 0) d_LH_act_986 rfl ?_
                          refine am_iconst (v := (1 : Int32)) d_LH_act_988 (by decide) ?_
                          refine am_iload_n (j := 4) d_LH_act_989 rfl rfl ?_
                          refine am_bipush (v := (12 : Int32)) d_LH_act_990 (by decide) ?_
                          refine am_ishr d_LH_act_992 ?_
                          refine am_iload_n (j := 5) d_LH_act_993 rfl rfl ?_
                          refine ai_eq (F := am_oC) (tgt := 1002) d_LH_act_994 (by decide) (fun c => ?_) (fun c => ?_)
                          · have h := h.1 c
                            refine am_iconst (v := (4 : Int32)) d_LH_act_1002 (by decide) ?_
                            obtain ⟨hc, h⟩ := h
                            refine ak9_S (as := [.int (x1 >>> ((12 : Int32) &&& 31)), .int (4 : Int32)]) (rest := [.int (1 : Int32), .int (f_LH_low s (x1 >>> ((9 : Int32) &&& 31)) (6 : Int32)), .int (f_LH_low s (x1 >>> ((7 : Int32) &&& 31)) (3 : Int32)), .int (10 : Int32), .ref 0]) d_LH_act_1003 cw_LH_act_1003 rfl (am_1I (ct_LH_low hg hc)) rfl rfl (Nat.le_of_ble_eq_true rfl) (by show k + 0 + 0 + 0 ≤ 16; omega) (by show z + 0 + 0 + 0 ≤ 96; omega) ?_
                            refine am_iadd d_LH_act_1006 ?_
                            refine am_iconst (v := (0 : Int32)) d_LH_act_1007 (by decide) ?_
                            refine am_iconst (v := (0 : Int32)) d_LH_act_1008 (by decide) ?_
                            obtain ⟨hc, h⟩ := h
                            refine ak9_SX (as := [.ref 0, .int (10 : Int32), .int (f_LH_low s (x1 >>> ((7 : Int32) &&& 31)) (3 : Int32)), .int (f_LH_low s (x1 >>> ((9 : Int32) &&& 31)) (6 : Int32)), .int ((1 : Int32) + (f_LH_low s (x1 >>> ((12 : Int32) &&& 31)) (4 : Int32))), .int (0 : Int32), .int (0 : Int32)]) (rest := []) d_LH_act_1009 cw_LH_act_1009 rfl (am_1C (ct_LH_asks hg hc)) rfl rfl (Nat.le_of_ble_eq_true rfl) (by show k + 0 + 0 + 0 + 7 ≤ 16; omega) (by show z + 0 + 0 + 0 + 42 ≤ 96; omega) ?_
                            refine am_goto (tgt := 1029) d_LH_act_1012 (by decide) ?_
                            exact am_iret d_LH_act_1029 rfl rfl (by show k + 0 + 0 + 0 + 7 ≤ 16; omega) (by show z + 0 + 0 + 0 + 42 ≤ 96; omega) am_oC_ok
                          · have h := h.2 c
                            refine am_bipush (v := (7 : Int32)) d_LH_act_997 (by decide) ?_
                            refine am_goto (tgt := 1003) d_LH_act_999 (by decide) ?_
                            obtain ⟨hc, h⟩ := h
                            refine ak9_S (as := [.int (x1 >>> ((12 : Int32) &&& 31)), .int (7 : Int32)]) (rest := [.int (1 : Int32), .int (f_LH_low s (x1 >>> ((9 : Int32) &&& 31)) (6 : Int32)), .int (f_LH_low s (x1 >>> ((7 : Int32) &&& 31)) (3 : Int32)), .int (10 : Int32), .ref 0]) d_LH_act_1003 cw_LH_act_1003 rfl (am_1I (ct_LH_low hg hc)) rfl rfl (Nat.le_of_ble_eq_true rfl) (by show k + 0 + 0 + 0 ≤ 16; omega) (by show z + 0 + 0 + 0 ≤ 96; omega) ?_
                            refine am_iadd d_LH_act_1006 ?_
                            refine am_iconst (v := (0 : Int32)) d_LH_act_1007 (by decide) ?_
                            refine am_iconst (v := (0 : Int32)) d_LH_act_1008 (by decide) ?_
                            obtain ⟨hc, h⟩ := h
                            refine ak9_SX (as := [.ref 0, .int (10 : Int32), .int (f_LH_low s (x1 >>> ((7 : Int32) &&& 31)) (3 : Int32)), .int (f_LH_low s (x1 >>> ((9 : Int32) &&& 31)) (6 : Int32)), .int ((1 : Int32) + (f_LH_low s (x1 >>> ((12 : Int32) &&& 31)) (7 : Int32))), .int (0 : Int32), .int (0 : Int32)]) (rest := []) d_LH_act_1009 cw_LH_act_1009 rfl (am_1C (ct_LH_asks hg hc)) rfl rfl (Nat.le_of_ble_eq_true rfl) (by show k + 0 + 0 + 0 + 7 ≤ 16; omega) (by show z + 0 + 0 + 0 + 42 ≤ 96; omega) ?_
                            refine am_goto (tgt := 1029) d_LH_act_1012 (by decide) ?_
                            exact am_iret d_LH_act_1029 rfl rfl (by show k + 0 + 0 + 0 + 7 ≤ 16; omega) (by show z + 0 + 0 + 0 + 42 ≤ 96; omega) am_oC_ok
                        · have h := h.1 c
                          refine am_aload_n (j := 3) d_LH_act_965 rfl rfl ?_
                          refine am_bipush (v := (8 : Int32)) d_LH_act_966 (by decide) ?_
                          refine am_iload (j := 1) d_LH_act_968 rfl ?_
                          refine am_iload (j := 7) d_LH_act_970 rfl ?_
                          refine am_iconst (v := (0 : Int32)) d_LH_act_972 (by decide) ?_
                          refine am_iconst (v := (0 : Int32)) d_LH_act_973 (by decide) ?_
                          refine am_iconst (v := (0 : Int32)) d_LH_act_974 (by decide) ?_
                          obtain ⟨hc, h⟩ := h
                          refine ak9_SX (as := [.ref 0, .int (8 : Int32), .int (f_LH_low s (x1 >>> ((7 : Int32) &&& 31)) (3 : Int32)), .int x4, .int (0 : Int32), .int (0 : Int32), .int (0 : Int32)]) (rest := []) d_LH_act_975 cw_LH_act_975 rfl (am_1C (ct_LH_asks hg hc)) rfl rfl (Nat.le_of_ble_eq_true rfl) (by show k + 0 + 0 + 7 ≤ 16; omega) (by show z + 0 + 0 + 42 ≤ 96; omega) ?_
                          refine am_goto (tgt := 1029) d_LH_act_978 (by decide) ?_
                          exact am_iret d_LH_act_1029 rfl rfl (by show k + 0 + 0 + 7 ≤ 16; omega) (by show z + 0 + 0 + 42 ≤ 96; omega) am_oC_ok
                    · have h := h.1 c
                      refine am_aload_n (j := 3) d_LH_act_926 rfl rfl ?_
                      refine am_bipush (v := (7 : Int32)) d_LH_act_927 (by decide) ?_
                      refine am_iload (j := 1) d_LH_act_929 rfl ?_
                      refine am_iload (j := 0) d_LH_act_931 rfl ?_
                      refine am_iload (j := 8) d_LH_act_933 rfl ?_
                      refine am_iload_n (j := 4) d_LH_act_935 rfl rfl ?_
                      refine am_bipush (v := (12 : Int32)) d_LH_act_936 (by decide) ?_
                      refine am_ishr d_LH_act_938 ?_
                      refine am_iload_n (j := 5) d_LH_act_939 rfl rfl ?_
                      obtain ⟨hc, h⟩ := h
                      refine ak9_S (as := [.int (x1 >>> ((12 : Int32) &&& 31)), .int x2]) (rest := [.int x5, .int (f_LH_low s (x1 >>> ((9 : Int32) &&& 31)) (6 : Int32)), .int (f_LH_low s (x1 >>> ((7 : Int32) &&& 31)) (3 : Int32)), .int (7 : Int32), .ref 0]) d_LH_act_940 cw_LH_act_940 rfl (am_1I (ct_LH_number hg hc)) rfl rfl (Nat.le_of_ble_eq_true rfl) (by show k + 0 + 0 + 0 ≤ 16; omega) (by show z + 0 + 0 + 0 ≤ 96; omega) ?_
                      refine am_iconst (v := (0 : Int32)) d_LH_act_943 (by decide) ?_
                      obtain ⟨hc, h⟩ := h
                      refine ak9_SX (as := [.ref 0, .int (7 : Int32), .int (f_LH_low s (x1 >>> ((7 : Int32) &&& 31)) (3 : Int32)), .int (f_LH_low s (x1 >>> ((9 : Int32) &&& 31)) (6 : Int32)), .int x5, .int (f_LH_number s (x1 >>> ((12 : Int32) &&& 31)) x2), .int (0 : Int32)]) (rest := []) d_LH_act_944 cw_LH_act_944 rfl (am_1C (ct_LH_asks hg hc)) rfl rfl (Nat.le_of_ble_eq_true rfl) (by show k + 0 + 0 + 0 + 7 ≤ 16; omega) (by show z + 0 + 0 + 0 + 42 ≤ 96; omega) ?_
                      refine am_goto (tgt := 1029) d_LH_act_947 (by decide) ?_
                      exact am_iret d_LH_act_1029 rfl rfl (by show k + 0 + 0 + 0 + 7 ≤ 16; omega) (by show z + 0 + 0 + 0 + 42 ≤ 96; omega) am_oC_ok
                  · have h := h.1 c
                    refine am_aload_n (j := 3) d_LH_act_909 rfl rfl ?_
                    refine am_iconst (v := (3 : Int32)) d_LH_act_910 (by decide) ?_
                    refine am_iconst (v := (0 : Int32)) d_LH_act_911 (by decide) ?_
                    refine am_iconst (v := (0 : Int32)) d_LH_act_912 (by decide) ?_
                    refine am_iconst (v := (0 : Int32)) d_LH_act_913 (by decide) ?_
                    obtain ⟨hc, h⟩ := h
                    refine ak9_SX (as := [.ref 0, .int (3 : Int32), .int (0 : Int32), .int (0 : Int32), .int (0 : Int32)]) (rest := []) d_LH_act_914 cw_LH_act_914 rfl (am_1C (ct_LH_does hg hc)) rfl rfl (Nat.le_of_ble_eq_true rfl) (by show k + 0 + 0 + 4 ≤ 16; omega) (by show z + 0 + 0 + 24 ≤ 96; omega) ?_
                    refine am_goto (tgt := 1029) d_LH_act_917 (by decide) ?_
                    exact am_iret d_LH_act_1029 rfl rfl (by show k + 0 + 0 + 4 ≤ 16; omega) (by show z + 0 + 0 + 24 ≤ 96; omega) am_oC_ok
              · have h := h.2 c
                refine am_iload_n (j := 2) d_LH_act_701 rfl rfl ?_
                refine am_bipush (v := (13 : Int32)) d_LH_act_702 (by decide) ?_
                refine am_ishr d_LH_act_704 ?_
                refine am_iconst (v := (1 : Int32)) d_LH_act_705 (by decide) ?_
                refine am_iand d_LH_act_706 ?_
                refine ai_ne (F := am_oC) (tgt := 715) d_LH_act_707 (by decide) (fun c => ?_) (fun c => ?_)
                · have h := h.2 c
                  refine am_bipush (v := (10 : Int32)) d_LH_act_715 (by decide) ?_
                  refine am_iload_n (j := 2) d_LH_act_717 rfl rfl ?_
                  refine am_bipush (v := (7 : Int32)) d_LH_act_718 (by decide) ?_
                  refine am_ishr d_LH_act_720 ?_
                  refine am_iload_n (j := 3) d_LH_act_721 rfl rfl ?_
                  refine ai_eq (F := am_oC) (tgt := 730) d_LH_act_722 (by decide) (fun c => ?_) (fun c => ?_)
                  · have h := h.1 c
                    refine am_bipush (v := (6 : Int32)) d_LH_act_730 (by decide) ?_
                    refine am_sub [1, 2, 3, 4, 5, 6, 0] (lv2 := [(0, .ref 0), (1, .int x1), (2, .int x2), (3, .int x3), (4, .int x4), (5, .int x5), (6, .int y0)]) rfl ?_
                    exact w_LH_act_732 hg  (by show k ≤ 9; omega) (by show z ≤ 54; omega) h
                  · have h := h.2 c
                    refine am_bipush (v := (9 : Int32)) d_LH_act_725 (by decide) ?_
                    refine am_goto (tgt := 732) d_LH_act_727 (by decide) ?_
                    refine am_sub [1, 2, 3, 4, 5, 6, 0] (lv2 := [(0, .ref 0), (1, .int x1), (2, .int x2), (3, .int x3), (4, .int x4), (5, .int x5), (6, .int y0)]) rfl ?_
                    exact w_LH_act_732 hg  (by show k ≤ 9; omega) (by show z ≤ 54; omega) h
                · have h := h.1 c
                  refine am_iload (j := 5) d_LH_act_710 rfl ?_
                  refine am_goto (tgt := 736) d_LH_act_712 (by decide) ?_
                  refine am_sub [1, 2, 3, 4, 5, 6, 0] (lv2 := [(0, .ref 0), (1, .int x1), (2, .int x2), (3, .int x3), (4, .int x4), (5, .int x5), (6, .int y0)]) rfl ?_
                  exact w_LH_act_736 hg  (by show k ≤ 9; omega) (by show z ≤ 54; omega) h
            · have h := h.2 c
              refine am_iload_n (j := 4) d_LH_act_652 rfl rfl ?_
              refine am_bipush (v := (36 : Int32)) d_LH_act_653 (by decide) ?_
              refine aj_ge (F := am_oC) (tgt := 683) d_LH_act_655 (by decide) (fun c => ?_) (fun c => ?_)
              · have h := h.1 c
                refine am_aload_n (j := 1) d_LH_act_683 rfl rfl ?_
                refine am_bipush (v := (8 : Int32)) d_LH_act_684 (by decide) ?_
                refine am_iload (j := 5) d_LH_act_686 rfl ?_
                refine am_iload (j := 0) d_LH_act_688 rfl ?_
                refine am_iconst (v := (0 : Int32)) d_LH_act_690 (by decide) ?_
                obtain ⟨hc, h⟩ := h
                refine ak9_SX (as := [.ref 0, .int (8 : Int32), .int x4, .int y0, .int (0 : Int32)]) (rest := []) d_LH_act_691 cw_LH_act_691 rfl (am_1C (ct_LH_does hg hc)) rfl rfl (Nat.le_of_ble_eq_true rfl) (by show k + 4 ≤ 16; omega) (by show z + 24 ≤ 96; omega) ?_
                exact am_iret d_LH_act_694 rfl rfl (by show k + 4 ≤ 16; omega) (by show z + 24 ≤ 96; omega) am_oC_ok
              · have h := h.2 c
                refine am_aload_n (j := 1) d_LH_act_658 rfl rfl ?_
                refine am_bipush (v := (8 : Int32)) d_LH_act_659 (by decide) ?_
                refine am_iload (j := 5) d_LH_act_661 rfl ?_
                refine am_iload (j := 0) d_LH_act_663 rfl ?_
                refine am_iload (j := 6) d_LH_act_665 rfl ?_
                refine am_iload_n (j := 2) d_LH_act_667 rfl rfl ?_
                refine am_bipush (v := (13 : Int32)) d_LH_act_668 (by decide) ?_
                refine am_ishr d_LH_act_670 ?_
                refine am_iload_n (j := 3) d_LH_act_671 rfl rfl ?_
                obtain ⟨hc, h⟩ := h
                refine ak9_S (as := [.int (x1 >>> ((13 : Int32) &&& 31)), .int x2]) (rest := [.int x5, .int y0, .int x4, .int (8 : Int32), .ref 0]) d_LH_act_672 cw_LH_act_672 rfl (am_1I (ct_LH_number hg hc)) rfl rfl (Nat.le_of_ble_eq_true rfl) (by show k + 0 ≤ 16; omega) (by show z + 0 ≤ 96; omega) ?_
                refine am_iconst (v := (0 : Int32)) d_LH_act_675 (by decide) ?_
                refine am_iconst (v := (0 : Int32)) d_LH_act_676 (by decide) ?_
                obtain ⟨hc, h⟩ := h
                refine ak9_SX (as := [.ref 0, .int (8 : Int32), .int x4, .int y0, .int x5, .int (f_LH_number s (x1 >>> ((13 : Int32) &&& 31)) x2), .int (0 : Int32), .int (0 : Int32)]) (rest := []) d_LH_act_677 cw_LH_act_677 rfl (am_1C (ct_LH_sets hg hc)) rfl rfl (Nat.le_of_ble_eq_true rfl) (by show k + 0 + 16 ≤ 16; omega) (by show z + 0 + 96 ≤ 96; omega) ?_
                refine am_goto (tgt := 694) d_LH_act_680 (by decide) ?_
                exact am_iret d_LH_act_694 rfl rfl (by show k + 0 + 16 ≤ 16; omega) (by show z + 0 + 96 ≤ 96; omega) am_oC_ok
          · have h := h.2 c
            refine am_iload_n (j := 4) d_LH_act_595 rfl rfl ?_
            refine am_bipush (v := (28 : Int32)) d_LH_act_596 (by decide) ?_
            refine aj_ge (F := am_oC) (tgt := 614) d_LH_act_598 (by decide) (fun c => ?_) (fun c => ?_)
            · have h := h.1 c
              refine am_iload_n (j := 4) d_LH_act_614 rfl rfl ?_
              refine am_bipush (v := (28 : Int32)) d_LH_act_615 (by decide) ?_
              refine aj_ne (F := am_oC) (tgt := 634) d_LH_act_617 (by decide) (fun c => ?_) (fun c => ?_)
              · have h := h.2 c
                refine am_aload_n (j := 1) d_LH_act_634 rfl rfl ?_
                refine am_bipush (v := (7 : Int32)) d_LH_act_635 (by decide) ?_
                refine am_iload (j := 5) d_LH_act_637 rfl ?_
                refine am_iload (j := 6) d_LH_act_639 rfl ?_
                refine am_iconst (v := (0 : Int32)) d_LH_act_641 (by decide) ?_
                obtain ⟨hc, h⟩ := h
                refine ak9_SX (as := [.ref 0, .int (7 : Int32), .int x4, .int x5, .int (0 : Int32)]) (rest := []) d_LH_act_642 cw_LH_act_642 rfl (am_1C (ct_LH_does hg hc)) rfl rfl (Nat.le_of_ble_eq_true rfl) (by show k + 4 ≤ 16; omega) (by show z + 24 ≤ 96; omega) ?_
                exact am_iret d_LH_act_645 rfl rfl (by show k + 4 ≤ 16; omega) (by show z + 24 ≤ 96; omega) am_oC_ok
              · have h := h.1 c
                refine am_aload_n (j := 1) d_LH_act_620 rfl rfl ?_
                refine am_bipush (v := (9 : Int32)) d_LH_act_621 (by decide) ?_
                refine am_iload (j := 5) d_LH_act_623 rfl ?_
                refine am_iload (j := 0) d_LH_act_625 rfl ?_
                refine am_iconst (v := (0 : Int32)) d_LH_act_627 (by decide) ?_
                obtain ⟨hc, h⟩ := h
                refine ak9_SX (as := [.ref 0, .int (9 : Int32), .int x4, .int y0, .int (0 : Int32)]) (rest := []) d_LH_act_628 cw_LH_act_628 rfl (am_1C (ct_LH_does hg hc)) rfl rfl (Nat.le_of_ble_eq_true rfl) (by show k + 4 ≤ 16; omega) (by show z + 24 ≤ 96; omega) ?_
                refine am_goto (tgt := 645) d_LH_act_631 (by decide) ?_
                exact am_iret d_LH_act_645 rfl rfl (by show k + 4 ≤ 16; omega) (by show z + 24 ≤ 96; omega) am_oC_ok
            · have h := h.2 c
              refine am_aload_n (j := 1) d_LH_act_601 rfl rfl ?_
              refine am_bipush (v := (6 : Int32)) d_LH_act_602 (by decide) ?_
              refine am_iload (j := 5) d_LH_act_604 rfl ?_
              refine am_iconst (v := (0 : Int32)) d_LH_act_606 (by decide) ?_
              refine am_iconst (v := (0 : Int32)) d_LH_act_607 (by decide) ?_
              obtain ⟨hc, h⟩ := h
              refine ak9_SX (as := [.ref 0, .int (6 : Int32), .int x4, .int (0 : Int32), .int (0 : Int32)]) (rest := []) d_LH_act_608 cw_LH_act_608 rfl (am_1C (ct_LH_does hg hc)) rfl rfl (Nat.le_of_ble_eq_true rfl) (by show k + 4 ≤ 16; omega) (by show z + 24 ≤ 96; omega) ?_
              refine am_goto (tgt := 645) d_LH_act_611 (by decide) ?_
              exact am_iret d_LH_act_645 rfl rfl (by show k + 4 ≤ 16; omega) (by show z + 24 ≤ 96; omega) am_oC_ok
        · have h := h.2 c
          refine am_aload_n (j := 1) d_LH_act_557 rfl rfl ?_
          refine am_iconst (v := (5 : Int32)) d_LH_act_558 (by decide) ?_
          refine am_iload_n (j := 3) d_LH_act_559 rfl rfl ?_
          refine ai_eq (F := am_oC) (tgt := 568) d_LH_act_560 (by decide) (fun c => ?_) (fun c => ?_)
          · have h := h.1 c
            refine am_iload_n (j := 2) d_LH_act_568 rfl rfl ?_
            refine am_bipush (v := (9 : Int32)) d_LH_act_569 (by decide) ?_
            refine am_ishr d_LH_act_571 ?_
            refine am_iconst (v := (4 : Int32)) d_LH_act_572 (by decide) ?_
            obtain ⟨hc, h⟩ := h
            refine ak9_S (as := [.int (x1 >>> ((9 : Int32) &&& 31)), .int (4 : Int32)]) (rest := [.int (5 : Int32), .ref 0]) d_LH_act_573 cw_LH_act_573 rfl (am_1I (ct_LH_low hg hc)) rfl rfl (Nat.le_of_ble_eq_true rfl) (by show k + 0 ≤ 16; omega) (by show z + 0 ≤ 96; omega) ?_
            refine am_iload_n (j := 2) d_LH_act_576 rfl rfl ?_
            refine am_bipush (v := (11 : Int32)) d_LH_act_577 (by decide) ?_
            refine am_ishr d_LH_act_579 ?_
            refine am_iload_n (j := 3) d_LH_act_580 rfl rfl ?_
            obtain ⟨hc, h⟩ := h
            refine ak9_S (as := [.int (x1 >>> ((11 : Int32) &&& 31)), .int x2]) (rest := [.int (f_LH_low s (x1 >>> ((9 : Int32) &&& 31)) (4 : Int32)), .int (5 : Int32), .ref 0]) d_LH_act_581 cw_LH_act_581 rfl (am_1I (ct_LH_number hg hc)) rfl rfl (Nat.le_of_ble_eq_true rfl) (by show k + 0 + 0 ≤ 16; omega) (by show z + 0 + 0 ≤ 96; omega) ?_
            refine am_iconst (v := (0 : Int32)) d_LH_act_584 (by decide) ?_
            obtain ⟨hc, h⟩ := h
            refine ak9_SX (as := [.ref 0, .int (5 : Int32), .int (f_LH_low s (x1 >>> ((9 : Int32) &&& 31)) (4 : Int32)), .int (f_LH_number s (x1 >>> ((11 : Int32) &&& 31)) x2), .int (0 : Int32)]) (rest := []) d_LH_act_585 cw_LH_act_585 rfl (am_1C (ct_LH_does hg hc)) rfl rfl (Nat.le_of_ble_eq_true rfl) (by show k + 0 + 0 + 4 ≤ 16; omega) (by show z + 0 + 0 + 24 ≤ 96; omega) ?_
            exact am_iret d_LH_act_588 rfl rfl (by show k + 0 + 0 + 4 ≤ 16; omega) (by show z + 0 + 0 + 24 ≤ 96; omega) am_oC_ok
          · have h := h.2 c
            refine am_iload (j := 6) d_LH_act_563 rfl ?_
            refine am_goto (tgt := 576) d_LH_act_565 (by decide) ?_
            refine am_iload_n (j := 2) d_LH_act_576 rfl rfl ?_
            refine am_bipush (v := (11 : Int32)) d_LH_act_577 (by decide) ?_
            refine am_ishr d_LH_act_579 ?_
            refine am_iload_n (j := 3) d_LH_act_580 rfl rfl ?_
            obtain ⟨hc, h⟩ := h
            refine ak9_S (as := [.int (x1 >>> ((11 : Int32) &&& 31)), .int x2]) (rest := [.int x5, .int (5 : Int32), .ref 0]) d_LH_act_581 cw_LH_act_581 rfl (am_1I (ct_LH_number hg hc)) rfl rfl (Nat.le_of_ble_eq_true rfl) (by show k + 0 ≤ 16; omega) (by show z + 0 ≤ 96; omega) ?_
            refine am_iconst (v := (0 : Int32)) d_LH_act_584 (by decide) ?_
            obtain ⟨hc, h⟩ := h
            refine ak9_SX (as := [.ref 0, .int (5 : Int32), .int x5, .int (f_LH_number s (x1 >>> ((11 : Int32) &&& 31)) x2), .int (0 : Int32)]) (rest := []) d_LH_act_585 cw_LH_act_585 rfl (am_1C (ct_LH_does hg hc)) rfl rfl (Nat.le_of_ble_eq_true rfl) (by show k + 0 + 4 ≤ 16; omega) (by show z + 0 + 24 ≤ 96; omega) ?_
            exact am_iret d_LH_act_588 rfl rfl (by show k + 0 + 4 ≤ 16; omega) (by show z + 0 + 24 ≤ 96; omega) am_oC_ok
      · have h := h.2 c
        refine am_iload_n (j := 4) d_LH_act_375 rfl rfl ?_
        refine am_bipush (v := (11 : Int32)) d_LH_act_376 (by decide) ?_
        refine aj_ge (F := am_oC) (tgt := 406) d_LH_act_378 (by decide) (fun c => ?_) (fun c => ?_)
        · have h := h.1 c
          refine am_iload_n (j := 4) d_LH_act_406 rfl rfl ?_
          refine am_bipush (v := (13 : Int32)) d_LH_act_407 (by decide) ?_
          refine aj_ge (F := am_oC) (tgt := 472) d_LH_act_409 (by decide) (fun c => ?_) (fun c => ?_)
          · have h := h.1 c
            refine am_iload_n (j := 4) d_LH_act_472 rfl rfl ?_
            refine am_bipush (v := (13 : Int32)) d_LH_act_473 (by decide) ?_
            refine aj_ne (F := am_oC) (tgt := 503) d_LH_act_475 (by decide) (fun c => ?_) (fun c => ?_)
            · have h := h.2 c
              refine am_sub [1, 2, 3, 4, 5, 6, 0] (lv2 := [(0, .ref 0), (1, .int x1), (2, .int x2), (3, .int x3), (4, .int x4), (5, .int x5), (6, .int y0)]) rfl ?_
              exact w_LH_act_503 hg  (by show k ≤ 0; omega) (by show z ≤ 0; omega) h
            · have h := h.1 c
              refine am_iload_n (j := 2) d_LH_act_478 rfl rfl ?_
              refine am_bipush (v := (13 : Int32)) d_LH_act_479 (by decide) ?_
              refine am_ishr d_LH_act_481 ?_
              refine am_iconst (v := (1 : Int32)) d_LH_act_482 (by decide) ?_
              refine am_iand d_LH_act_483 ?_
              refine ai_ne (F := am_oC) (tgt := 503) d_LH_act_484 (by decide) (fun c => ?_) (fun c => ?_)
              · have h := h.2 c
                refine am_sub [1, 2, 3, 4, 5, 6, 0] (lv2 := [(0, .ref 0), (1, .int x1), (2, .int x2), (3, .int x3), (4, .int x4), (5, .int x5), (6, .int y0)]) rfl ?_
                exact w_LH_act_503 hg  (by show k ≤ 0; omega) (by show z ≤ 0; omega) h
              · have h := h.1 c
                refine am_aload_n (j := 1) d_LH_act_487 rfl rfl ?_
                refine am_iconst (v := (5 : Int32)) d_LH_act_488 (by decide) ?_
                refine am_iload (j := 5) d_LH_act_489 rfl ?_
                refine am_iload (j := 6) d_LH_act_491 rfl ?_
                refine am_iconst (v := (0 : Int32)) d_LH_act_493 (by decide) ?_
                refine am_iconst (v := (0 : Int32)) d_LH_act_494 (by decide) ?_
                refine am_iconst (v := (0 : Int32)) d_LH_act_495 (by decide) ?_
                refine am_iconst (v := (0 : Int32)) d_LH_act_496 (by decide) ?_
                obtain ⟨hc, h⟩ := h
                refine ak9_SX (as := [.ref 0, .int (5 : Int32), .int x4, .int x5, .int (0 : Int32), .int (0 : Int32), .int (0 : Int32), .int (0 : Int32)]) (rest := []) d_LH_act_497 cw_LH_act_497 rfl (am_1C (ct_LH_sets hg hc)) rfl rfl (Nat.le_of_ble_eq_true rfl) (by show k + 16 ≤ 16; omega) (by show z + 96 ≤ 96; omega) ?_
                refine am_goto (tgt := 550) d_LH_act_500 (by decide) ?_
                exact am_iret d_LH_act_550 rfl rfl (by show k + 16 ≤ 16; omega) (by show z + 96 ≤ 96; omega) am_oC_ok
          · have h := h.2 c
            refine am_aload_n (j := 1) d_LH_act_412 rfl rfl ?_
            refine am_iload_n (j := 4) d_LH_act_413 rfl rfl ?_
            refine am_bipush (v := (11 : Int32)) d_LH_act_414 (by decide) ?_
            refine aj_ne (F := am_oC) (tgt := 423) d_LH_act_416 (by decide) (fun c => ?_) (fun c => ?_)
            · have h := h.2 c
              refine am_bipush (v := (6 : Int32)) d_LH_act_423 (by decide) ?_
              refine am_sub [1, 2, 3, 4, 5, 6, 0] (lv2 := [(0, .ref 0), (1, .int x1), (2, .int x2), (3, .int x3), (4, .int x4), (5, .int x5), (6, .int y0)]) rfl ?_
              exact w_LH_act_425 hg  (by show k ≤ 0; omega) (by show z ≤ 0; omega) h
            · have h := h.1 c
              refine am_iconst (v := (4 : Int32)) d_LH_act_419 (by decide) ?_
              refine am_goto (tgt := 425) d_LH_act_420 (by decide) ?_
              refine am_sub [1, 2, 3, 4, 5, 6, 0] (lv2 := [(0, .ref 0), (1, .int x1), (2, .int x2), (3, .int x3), (4, .int x4), (5, .int x5), (6, .int y0)]) rfl ?_
              exact w_LH_act_425 hg  (by show k ≤ 0; omega) (by show z ≤ 0; omega) h
        · have h := h.2 c
          refine am_aload_n (j := 1) d_LH_act_381 rfl rfl ?_
          refine am_iconst (v := (2 : Int32)) d_LH_act_382 (by decide) ?_
          refine am_iload_n (j := 4) d_LH_act_383 rfl rfl ?_
          refine am_iconst (v := (1 : Int32)) d_LH_act_384 (by decide) ?_
          refine am_iand d_LH_act_385 ?_
          refine am_iadd d_LH_act_386 ?_
          refine am_iload (j := 5) d_LH_act_387 rfl ?_
          refine am_iload (j := 6) d_LH_act_389 rfl ?_
          refine am_iload_n (j := 2) d_LH_act_391 rfl rfl ?_
          refine am_bipush (v := (13 : Int32)) d_LH_act_392 (by decide) ?_
          refine am_ishr d_LH_act_394 ?_
          refine am_iconst (v := (1 : Int32)) d_LH_act_395 (by decide) ?_
          refine am_iand d_LH_act_396 ?_
          refine am_iconst (v := (0 : Int32)) d_LH_act_397 (by decide) ?_
          refine am_iconst (v := (0 : Int32)) d_LH_act_398 (by decide) ?_
          refine am_iconst (v := (0 : Int32)) d_LH_act_399 (by decide) ?_
          obtain ⟨hc, h⟩ := h
          refine ak9_SX (as := [.ref 0, .int ((2 : Int32) + (x3 &&& (1 : Int32))), .int x4, .int x5, .int ((x1 >>> ((13 : Int32) &&& 31)) &&& (1 : Int32)), .int (0 : Int32), .int (0 : Int32), .int (0 : Int32)]) (rest := []) d_LH_act_400 cw_LH_act_400 rfl (am_1C (ct_LH_sets hg hc)) rfl rfl (Nat.le_of_ble_eq_true rfl) (by show k + 16 ≤ 16; omega) (by show z + 96 ≤ 96; omega) ?_
          refine am_goto (tgt := 550) d_LH_act_403 (by decide) ?_
          exact am_iret d_LH_act_550 rfl rfl (by show k + 16 ≤ 16; omega) (by show z + 96 ≤ 96; omega) am_oC_ok
    · have h := h.2 c
      refine am_iload_n (j := 4) d_LH_act_262 rfl rfl ?_
      refine am_bipush (v := (7 : Int32)) d_LH_act_263 (by decide) ?_
      refine aj_ge (F := am_oC) (tgt := 272) d_LH_act_265 (by decide) (fun c => ?_) (fun c => ?_)
      · have h := h.1 c
        refine am_iconst (v := (0 : Int32)) d_LH_act_272 (by decide) ?_
        refine am_sub [1, 2, 3, 4, 5, 6, 0] (lv2 := [(0, .ref 0), (1, .int x1), (2, .int x2), (3, .int x3), (4, .int x4), (5, .int x5), (6, .int y0)]) rfl ?_
        exact w_LH_act_273 hg  (by show k ≤ 0; omega) (by show z ≤ 0; omega) h
      · have h := h.2 c
        refine am_iconst (v := (1 : Int32)) d_LH_act_268 (by decide) ?_
        refine am_goto (tgt := 273) d_LH_act_269 (by decide) ?_
        refine am_sub [1, 2, 3, 4, 5, 6, 0] (lv2 := [(0, .ref 0), (1, .int x1), (2, .int x2), (3, .int x3), (4, .int x4), (5, .int x5), (6, .int y0)]) rfl ?_
        exact w_LH_act_273 hg  (by show k ≤ 0; omega) (by show z ≤ 0; omega) h
  · have h := h.2 c
    refine am_iload_n (j := 4) d_LH_act_116 rfl rfl ?_
    refine ai_ne (F := am_oC) (tgt := 131) d_LH_act_117 (by decide) (fun c => ?_) (fun c => ?_)
    · have h := h.2 c
      refine am_iload_n (j := 4) d_LH_act_131 rfl rfl ?_
      refine am_iconst (v := (3 : Int32)) d_LH_act_132 (by decide) ?_
      refine aj_ge (F := am_oC) (tgt := 197) d_LH_act_133 (by decide) (fun c => ?_) (fun c => ?_)
      · have h := h.1 c
        refine am_aload_n (j := 1) d_LH_act_197 rfl rfl ?_
        refine am_iconst (v := (2 : Int32)) d_LH_act_198 (by decide) ?_
        refine am_iload (j := 5) d_LH_act_199 rfl ?_
        refine am_iload_n (j := 3) d_LH_act_201 rfl rfl ?_
        refine ai_eq (F := am_oC) (tgt := 219) d_LH_act_202 (by decide) (fun c => ?_) (fun c => ?_)
        · have h := h.1 c
          refine am_iload_n (j := 2) d_LH_act_219 rfl rfl ?_
          refine am_bipush (v := (9 : Int32)) d_LH_act_220 (by decide) ?_
          refine am_ishr d_LH_act_222 ?_
          refine am_iconst (v := (3 : Int32)) d_LH_act_223 (by decide) ?_
          obtain ⟨hc, h⟩ := h
          refine ak9_S (as := [.int (x1 >>> ((9 : Int32) &&& 31)), .int (3 : Int32)]) (rest := [.int x4, .int (2 : Int32), .ref 0]) d_LH_act_224 cw_LH_act_224 rfl (am_1I (ct_LH_low hg hc)) rfl rfl (Nat.le_of_ble_eq_true rfl) (by show k + 0 ≤ 16; omega) (by show z + 0 ≤ 96; omega) ?_
          refine am_sub [1, 2, 3, 4, 5, 6, 0] (lv2 := [(0, .ref 0), (1, .int x1), (2, .int x2), (3, .int x3), (4, .int x4), (5, .int x5), (6, .int y0)]) rfl ?_
          exact w_LH_act_227 hg  (by show k + 0 ≤ 12; omega) (by show z + 0 ≤ 72; omega) h
        · have h := h.2 c
          refine am_iload_n (j := 2) d_LH_act_205 rfl rfl ?_
          refine am_bipush (v := (9 : Int32)) d_LH_act_206 (by decide) ?_
          refine am_ishr d_LH_act_208 ?_
          refine am_bipush (v := (7 : Int32)) d_LH_act_209 (by decide) ?_
          obtain ⟨hc, h⟩ := h
          refine ak9_S (as := [.int (x1 >>> ((9 : Int32) &&& 31)), .int (7 : Int32)]) (rest := [.int x4, .int (2 : Int32), .ref 0]) d_LH_act_211 cw_LH_act_211 rfl (am_1I (ct_LH_low hg hc)) rfl rfl (Nat.le_of_ble_eq_true rfl) (by show k + 0 ≤ 16; omega) (by show z + 0 ≤ 96; omega) ?_
          refine am_iconst (v := (1 : Int32)) d_LH_act_214 (by decide) ?_
          refine am_isub d_LH_act_215 ?_
          refine am_goto (tgt := 227) d_LH_act_216 (by decide) ?_
          refine am_sub [1, 2, 3, 4, 5, 6, 0] (lv2 := [(0, .ref 0), (1, .int x1), (2, .int x2), (3, .int x3), (4, .int x4), (5, .int x5), (6, .int y0)]) rfl ?_
          exact w_LH_act_227 hg  (by show k + 0 ≤ 12; omega) (by show z + 0 ≤ 72; omega) h
      · have h := h.2 c
        refine am_aload_n (j := 1) d_LH_act_136 rfl rfl ?_
        refine am_iconst (v := (1 : Int32)) d_LH_act_137 (by decide) ?_
        refine am_iload (j := 5) d_LH_act_138 rfl ?_
        refine am_iload_n (j := 3) d_LH_act_140 rfl rfl ?_
        refine ai_eq (F := am_oC) (tgt := 161) d_LH_act_141 (by decide) (fun c => ?_) (fun c => ?_)
        · have h := h.1 c
          refine am_iload_n (j := 2) d_LH_act_161 rfl rfl ?_
          refine am_bipush (v := (9 : Int32)) d_LH_act_162 (by decide) ?_
          refine am_ishr d_LH_act_164 ?_
          refine am_iconst (v := (5 : Int32)) d_LH_act_165 (by decide) ?_
          obtain ⟨hc, h⟩ := h
          refine ak9_S (as := [.int (x1 >>> ((9 : Int32) &&& 31)), .int (5 : Int32)]) (rest := [.int x4, .int (1 : Int32), .ref 0]) d_LH_act_166 cw_LH_act_166 rfl (am_1I (ct_LH_low hg hc)) rfl rfl (Nat.le_of_ble_eq_true rfl) (by show k + 0 ≤ 16; omega) (by show z + 0 ≤ 96; omega) ?_
          refine am_ineg d_LH_act_169 ?_
          refine am_sub [1, 2, 3, 4, 5, 6, 0] (lv2 := [(0, .ref 0), (1, .int x1), (2, .int x2), (3, .int x3), (4, .int x4), (5, .int x5), (6, .int y0)]) rfl ?_
          exact w_LH_act_170 hg  (by show k + 0 ≤ 12; omega) (by show z + 0 ≤ 72; omega) h
        · have h := h.2 c
          refine am_iload_n (j := 2) d_LH_act_144 rfl rfl ?_
          refine am_bipush (v := (9 : Int32)) d_LH_act_145 (by decide) ?_
          refine am_ishr d_LH_act_147 ?_
          refine am_sipush (v := (30000 : Int32)) d_LH_act_148 (by decide) ?_
          obtain ⟨hc, h⟩ := h
          refine ak9_S (as := [.int (x1 >>> ((9 : Int32) &&& 31)), .int (30000 : Int32)]) (rest := [.int x4, .int (1 : Int32), .ref 0]) d_LH_act_151 cw_LH_act_151 rfl (am_1I (ct_LH_low hg hc)) rfl rfl (Nat.le_of_ble_eq_true rfl) (by show k + 0 ≤ 16; omega) (by show z + 0 ≤ 96; omega) ?_
          refine am_sipush (v := (15000 : Int32)) d_LH_act_154 (by decide) ?_
          refine am_isub d_LH_act_157 ?_
          refine am_goto (tgt := 170) d_LH_act_158 (by decide) ?_
          refine am_sub [1, 2, 3, 4, 5, 6, 0] (lv2 := [(0, .ref 0), (1, .int x1), (2, .int x2), (3, .int x3), (4, .int x4), (5, .int x5), (6, .int y0)]) rfl ?_
          exact w_LH_act_170 hg  (by show k + 0 ≤ 12; omega) (by show z + 0 ≤ 72; omega) h
    · have h := h.1 c
      refine am_aload_n (j := 1) d_LH_act_120 rfl rfl ?_
      refine am_iconst (v := (0 : Int32)) d_LH_act_121 (by decide) ?_
      refine am_iconst (v := (0 : Int32)) d_LH_act_122 (by decide) ?_
      refine am_iconst (v := (0 : Int32)) d_LH_act_123 (by decide) ?_
      refine am_iconst (v := (0 : Int32)) d_LH_act_124 (by decide) ?_
      obtain ⟨hc, h⟩ := h
      refine ak9_SX (as := [.ref 0, .int (0 : Int32), .int (0 : Int32), .int (0 : Int32), .int (0 : Int32)]) (rest := []) d_LH_act_125 cw_LH_act_125 rfl (am_1C (ct_LH_does hg hc)) rfl rfl (Nat.le_of_ble_eq_true rfl) (by show k + 4 ≤ 16; omega) (by show z + 24 ≤ 96; omega) ?_
      refine am_goto (tgt := 255) d_LH_act_128 (by decide) ?_
      exact am_iret d_LH_act_255 rfl rfl (by show k + 4 ≤ 16; omega) (by show z + 24 ≤ 96; omega) am_oC_ok
def f_LH_act_80  (s : am_M) (x1 : Int32) (x2 : Int32) (x3 : Int32) (x4 : Int32) (y0 : Int32) : Int32 × am_M := (if x2 = 0 then (f_LH_act_109 s x1 x2 x3 x4 y0 (f_LH_low s (x1 >>> ((11 : Int32) &&& 31)) (8 : Int32))) else (f_LH_act_109 s x1 x2 x3 x4 y0 ((f_LH_low s (x1 >>> ((11 : Int32) &&& 31)) (40 : Int32)) - (3 : Int32))))
def p_LH_act_80  (s : am_M) (x1 : Int32) (x2 : Int32) (x3 : Int32) (x4 : Int32) (y0 : Int32) : Prop := ((x2 = 0) → p_LH_low s (x1 >>> ((11 : Int32) &&& 31)) (8 : Int32) ∧ ((p_LH_act_109 s x1 x2 x3 x4 y0 (f_LH_low s (x1 >>> ((11 : Int32) &&& 31)) (8 : Int32))))) ∧ (¬ (x2 = 0) → p_LH_low s (x1 >>> ((11 : Int32) &&& 31)) (40 : Int32) ∧ ((p_LH_act_109 s x1 x2 x3 x4 y0 ((f_LH_low s (x1 >>> ((11 : Int32) &&& 31)) (40 : Int32)) - (3 : Int32)))))
set_option maxRecDepth 100000 in
theorem w_LH_act_80 {l : Launch} {g : am_Gl} (hg : g.2.2.2.1 = true) {ad0 : Nat → Nat}  {s : am_M} {x1 : Int32} {x2 : Int32} {x3 : Int32} {x4 : Int32} {y0 : Int32} {k z : Nat} (hk : k ≤ 0) (hz : z ≤ 0) (h : p_LH_act_80  s x1 x2 x3 x4 y0) : AW l g m_LH_act 207 ad0 (am_oC (f_LH_act_80  s x1 x2 x3 x4 y0)) k z 207 s 80 [(0, .ref 0), (1, .int x1), (2, .int x2), (3, .int x3), (4, .int x4)] [.int y0] := by
  refine am_istore (lv2 := [(5, .int y0), (0, .ref 0), (1, .int x1), (2, .int x2), (3, .int x3), (4, .int x4)]) d_LH_act_80 (by decide) rfl ?_
  refine am_iload_n (j := 3) d_LH_act_82 rfl rfl ?_
  refine ai_eq (F := am_oC) (tgt := 100) d_LH_act_83 (by decide) (fun c => ?_) (fun c => ?_)
  · have h := h.1 c
    refine am_iload_n (j := 2) d_LH_act_100 rfl rfl ?_
    refine am_bipush (v := (11 : Int32)) d_LH_act_101 (by decide) ?_
    refine am_ishr d_LH_act_103 ?_
    refine am_bipush (v := (8 : Int32)) d_LH_act_104 (by decide) ?_
    obtain ⟨hc, h⟩ := h
    refine ak9_S (as := [.int (x1 >>> ((11 : Int32) &&& 31)), .int (8 : Int32)]) (rest := []) d_LH_act_106 cw_LH_act_106 rfl (am_1I (ct_LH_low hg hc)) rfl rfl (Nat.le_of_ble_eq_true rfl) (by show k + 0 ≤ 16; omega) (by show z + 0 ≤ 96; omega) ?_
    refine am_sub [1, 2, 3, 4, 5, 0] (lv2 := [(0, .ref 0), (1, .int x1), (2, .int x2), (3, .int x3), (4, .int x4), (5, .int y0)]) rfl ?_
    exact w_LH_act_109 hg  (by show k + 0 ≤ 0; omega) (by show z + 0 ≤ 0; omega) h
  · have h := h.2 c
    refine am_iload_n (j := 2) d_LH_act_86 rfl rfl ?_
    refine am_bipush (v := (11 : Int32)) d_LH_act_87 (by decide) ?_
    refine am_ishr d_LH_act_89 ?_
    refine am_bipush (v := (40 : Int32)) d_LH_act_90 (by decide) ?_
    obtain ⟨hc, h⟩ := h
    refine ak9_S (as := [.int (x1 >>> ((11 : Int32) &&& 31)), .int (40 : Int32)]) (rest := []) d_LH_act_92 cw_LH_act_92 rfl (am_1I (ct_LH_low hg hc)) rfl rfl (Nat.le_of_ble_eq_true rfl) (by show k + 0 ≤ 16; omega) (by show z + 0 ≤ 96; omega) ?_
    refine am_iconst (v := (3 : Int32)) d_LH_act_95 (by decide) ?_
    refine am_isub d_LH_act_96 ?_
    refine am_goto (tgt := 109) d_LH_act_97 (by decide) ?_
    refine am_sub [1, 2, 3, 4, 5, 0] (lv2 := [(0, .ref 0), (1, .int x1), (2, .int x2), (3, .int x3), (4, .int x4), (5, .int y0)]) rfl ?_
    exact w_LH_act_109 hg  (by show k + 0 ≤ 0; omega) (by show z + 0 ≤ 0; omega) h
def f_LH_act_51  (s : am_M) (x1 : Int32) (x2 : Int32) (x3 : Int32) (y0 : Int32) : Int32 × am_M := (if x2 = 0 then (f_LH_act_80 s x1 x2 x3 y0 (f_LH_low s (x1 >>> ((9 : Int32) &&& 31)) (6 : Int32))) else (f_LH_act_80 s x1 x2 x3 y0 ((f_LH_low s (x1 >>> ((9 : Int32) &&& 31)) (9 : Int32)) - (1 : Int32))))
def p_LH_act_51  (s : am_M) (x1 : Int32) (x2 : Int32) (x3 : Int32) (y0 : Int32) : Prop := ((x2 = 0) → p_LH_low s (x1 >>> ((9 : Int32) &&& 31)) (6 : Int32) ∧ ((p_LH_act_80 s x1 x2 x3 y0 (f_LH_low s (x1 >>> ((9 : Int32) &&& 31)) (6 : Int32))))) ∧ (¬ (x2 = 0) → p_LH_low s (x1 >>> ((9 : Int32) &&& 31)) (9 : Int32) ∧ ((p_LH_act_80 s x1 x2 x3 y0 ((f_LH_low s (x1 >>> ((9 : Int32) &&& 31)) (9 : Int32)) - (1 : Int32)))))
set_option maxRecDepth 100000 in
theorem w_LH_act_51 {l : Launch} {g : am_Gl} (hg : g.2.2.2.1 = true) {ad0 : Nat → Nat}  {s : am_M} {x1 : Int32} {x2 : Int32} {x3 : Int32} {y0 : Int32} {k z : Nat} (hk : k ≤ 0) (hz : z ≤ 0) (h : p_LH_act_51  s x1 x2 x3 y0) : AW l g m_LH_act 207 ad0 (am_oC (f_LH_act_51  s x1 x2 x3 y0)) k z 207 s 51 [(0, .ref 0), (1, .int x1), (2, .int x2), (3, .int x3)] [.int y0] := by
  refine am_istore (lv2 := [(4, .int y0), (0, .ref 0), (1, .int x1), (2, .int x2), (3, .int x3)]) d_LH_act_51 (by decide) rfl ?_
  refine am_iload_n (j := 3) d_LH_act_53 rfl rfl ?_
  refine ai_eq (F := am_oC) (tgt := 71) d_LH_act_54 (by decide) (fun c => ?_) (fun c => ?_)
  · have h := h.1 c
    refine am_iload_n (j := 2) d_LH_act_71 rfl rfl ?_
    refine am_bipush (v := (9 : Int32)) d_LH_act_72 (by decide) ?_
    refine am_ishr d_LH_act_74 ?_
    refine am_bipush (v := (6 : Int32)) d_LH_act_75 (by decide) ?_
    obtain ⟨hc, h⟩ := h
    refine ak9_S (as := [.int (x1 >>> ((9 : Int32) &&& 31)), .int (6 : Int32)]) (rest := []) d_LH_act_77 cw_LH_act_77 rfl (am_1I (ct_LH_low hg hc)) rfl rfl (Nat.le_of_ble_eq_true rfl) (by show k + 0 ≤ 16; omega) (by show z + 0 ≤ 96; omega) ?_
    refine am_sub [1, 2, 3, 4, 0] (lv2 := [(0, .ref 0), (1, .int x1), (2, .int x2), (3, .int x3), (4, .int y0)]) rfl ?_
    exact w_LH_act_80 hg  (by show k + 0 ≤ 0; omega) (by show z + 0 ≤ 0; omega) h
  · have h := h.2 c
    refine am_iload_n (j := 2) d_LH_act_57 rfl rfl ?_
    refine am_bipush (v := (9 : Int32)) d_LH_act_58 (by decide) ?_
    refine am_ishr d_LH_act_60 ?_
    refine am_bipush (v := (9 : Int32)) d_LH_act_61 (by decide) ?_
    obtain ⟨hc, h⟩ := h
    refine ak9_S (as := [.int (x1 >>> ((9 : Int32) &&& 31)), .int (9 : Int32)]) (rest := []) d_LH_act_63 cw_LH_act_63 rfl (am_1I (ct_LH_low hg hc)) rfl rfl (Nat.le_of_ble_eq_true rfl) (by show k + 0 ≤ 16; omega) (by show z + 0 ≤ 96; omega) ?_
    refine am_iconst (v := (1 : Int32)) d_LH_act_66 (by decide) ?_
    refine am_isub d_LH_act_67 ?_
    refine am_goto (tgt := 80) d_LH_act_68 (by decide) ?_
    refine am_sub [1, 2, 3, 4, 0] (lv2 := [(0, .ref 0), (1, .int x1), (2, .int x2), (3, .int x3), (4, .int y0)]) rfl ?_
    exact w_LH_act_80 hg  (by show k + 0 ≤ 0; omega) (by show z + 0 ≤ 0; omega) h
def f_LH_act_17  (s : am_M) (x1 : Int32) (y0 : Int32) : Int32 × am_M := (if y0 = 0 then (f_LH_act_51 s x1 y0 (f_LH_low s x1 (50 : Int32)) (f_LH_low s (x1 >>> ((6 : Int32) &&& 31)) (3 : Int32))) else (f_LH_act_51 s x1 y0 (f_LH_low s x1 (50 : Int32)) ((f_LH_low s (x1 >>> ((6 : Int32) &&& 31)) (6 : Int32)) - (1 : Int32))))
def p_LH_act_17  (s : am_M) (x1 : Int32) (y0 : Int32) : Prop := p_LH_low s x1 (50 : Int32) ∧ (((y0 = 0) → p_LH_low s (x1 >>> ((6 : Int32) &&& 31)) (3 : Int32) ∧ ((p_LH_act_51 s x1 y0 (f_LH_low s x1 (50 : Int32)) (f_LH_low s (x1 >>> ((6 : Int32) &&& 31)) (3 : Int32))))) ∧ (¬ (y0 = 0) → p_LH_low s (x1 >>> ((6 : Int32) &&& 31)) (6 : Int32) ∧ ((p_LH_act_51 s x1 y0 (f_LH_low s x1 (50 : Int32)) ((f_LH_low s (x1 >>> ((6 : Int32) &&& 31)) (6 : Int32)) - (1 : Int32))))))
set_option maxRecDepth 100000 in
theorem w_LH_act_17 {l : Launch} {g : am_Gl} (hg : g.2.2.2.1 = true) {ad0 : Nat → Nat}  {s : am_M} {x1 : Int32} {y0 : Int32} {k z : Nat} (hk : k ≤ 0) (hz : z ≤ 0) (h : p_LH_act_17  s x1 y0) : AW l g m_LH_act 207 ad0 (am_oC (f_LH_act_17  s x1 y0)) k z 207 s 17 [(0, .ref 0), (1, .int x1)] [.int y0] := by
  refine am_istore_n (lv2 := [(2, .int y0), (0, .ref 0), (1, .int x1)]) d_LH_act_17 rfl (by decide) rfl ?_
  refine am_iload_n (j := 2) d_LH_act_18 rfl rfl ?_
  refine am_bipush (v := (50 : Int32)) d_LH_act_19 (by decide) ?_
  obtain ⟨hc, h⟩ := h
  refine ak9_S (as := [.int x1, .int (50 : Int32)]) (rest := []) d_LH_act_21 cw_LH_act_21 rfl (am_1I (ct_LH_low hg hc)) rfl rfl (Nat.le_of_ble_eq_true rfl) (by show k + 0 ≤ 16; omega) (by show z + 0 ≤ 96; omega) ?_
  refine am_istore_n (lv2 := [(3, .int (f_LH_low s x1 (50 : Int32))), (2, .int y0), (0, .ref 0), (1, .int x1)]) d_LH_act_24 rfl (by decide) rfl ?_
  refine am_iload_n (j := 1) d_LH_act_25 rfl rfl ?_
  refine ai_eq (F := am_oC) (tgt := 43) d_LH_act_26 (by decide) (fun c => ?_) (fun c => ?_)
  · have h := h.1 c
    refine am_iload_n (j := 3) d_LH_act_43 rfl rfl ?_
    refine am_bipush (v := (6 : Int32)) d_LH_act_44 (by decide) ?_
    refine am_ishr d_LH_act_46 ?_
    refine am_iconst (v := (3 : Int32)) d_LH_act_47 (by decide) ?_
    obtain ⟨hc, h⟩ := h
    refine ak9_S (as := [.int (x1 >>> ((6 : Int32) &&& 31)), .int (3 : Int32)]) (rest := []) d_LH_act_48 cw_LH_act_48 rfl (am_1I (ct_LH_low hg hc)) rfl rfl (Nat.le_of_ble_eq_true rfl) (by show k + 0 + 0 ≤ 16; omega) (by show z + 0 + 0 ≤ 96; omega) ?_
    refine am_sub [2, 3, 1, 0] (lv2 := [(0, .ref 0), (1, .int x1), (2, .int y0), (3, .int (f_LH_low s x1 (50 : Int32)))]) rfl ?_
    exact w_LH_act_51 hg  (by show k + 0 + 0 ≤ 0; omega) (by show z + 0 + 0 ≤ 0; omega) h
  · have h := h.2 c
    refine am_iload_n (j := 3) d_LH_act_29 rfl rfl ?_
    refine am_bipush (v := (6 : Int32)) d_LH_act_30 (by decide) ?_
    refine am_ishr d_LH_act_32 ?_
    refine am_bipush (v := (6 : Int32)) d_LH_act_33 (by decide) ?_
    obtain ⟨hc, h⟩ := h
    refine ak9_S (as := [.int (x1 >>> ((6 : Int32) &&& 31)), .int (6 : Int32)]) (rest := []) d_LH_act_35 cw_LH_act_35 rfl (am_1I (ct_LH_low hg hc)) rfl rfl (Nat.le_of_ble_eq_true rfl) (by show k + 0 + 0 ≤ 16; omega) (by show z + 0 + 0 ≤ 96; omega) ?_
    refine am_iconst (v := (1 : Int32)) d_LH_act_38 (by decide) ?_
    refine am_isub d_LH_act_39 ?_
    refine am_goto (tgt := 51) d_LH_act_40 (by decide) ?_
    refine am_sub [2, 3, 1, 0] (lv2 := [(0, .ref 0), (1, .int x1), (2, .int y0), (3, .int (f_LH_low s x1 (50 : Int32)))]) rfl ?_
    exact w_LH_act_51 hg  (by show k + 0 + 0 ≤ 0; omega) (by show z + 0 + 0 ≤ 0; omega) h
def f_LH_act (s : am_M) (x1 : Int32) : Int32 × am_M := (if ((x1 >>> ((18 : Int32) &&& 31)) &&& (7 : Int32)) = (7 : Int32) then (f_LH_act_17 s x1 (1 : Int32)) else (f_LH_act_17 s x1 (0 : Int32)))
def p_LH_act (s : am_M) (x1 : Int32) : Prop := ((((x1 >>> ((18 : Int32) &&& 31)) &&& (7 : Int32)) = (7 : Int32)) → (p_LH_act_17 s x1 (1 : Int32))) ∧ (¬ (((x1 >>> ((18 : Int32) &&& 31)) &&& (7 : Int32)) = (7 : Int32)) → (p_LH_act_17 s x1 (0 : Int32)))
set_option maxRecDepth 100000 in
theorem w_LH_act {l : Launch} {g : am_Gl} (hg : g.2.2.2.1 = true) {ad0 : Nat → Nat} {s : am_M} {x1 : Int32} (h : p_LH_act s x1) : AW l g m_LH_act 207 ad0 (am_oC (f_LH_act s x1)) 0 0 207 s 0 [(0, .ref 0), (1, .int x1)] [] := by
  refine am_iload_n (j := 1) d_LH_act_0 rfl rfl ?_
  refine am_bipush (v := (18 : Int32)) d_LH_act_1 (by decide) ?_
  refine am_ishr d_LH_act_3 ?_
  refine am_bipush (v := (7 : Int32)) d_LH_act_4 (by decide) ?_
  refine am_iand d_LH_act_6 ?_
  refine am_bipush (v := (7 : Int32)) d_LH_act_7 (by decide) ?_
  refine aj_ne (F := am_oC) (tgt := 16) d_LH_act_9 (by decide) (fun c => ?_) (fun c => ?_)
  · have h := h.2 c
    refine am_iconst (v := (0 : Int32)) d_LH_act_16 (by decide) ?_
    exact w_LH_act_17 hg  (by show 0 ≤ 0; omega) (by show 0 ≤ 0; omega) h
  · have h := h.1 c
    refine am_iconst (v := (1 : Int32)) d_LH_act_12 (by decide) ?_
    refine am_goto (tgt := 17) d_LH_act_13 (by decide) ?_
    exact w_LH_act_17 hg  (by show 0 ≤ 0; omega) (by show 0 ≤ 0; omega) h
theorem ct_LH_act {l : Launch} {g : am_Gl} (hg : g.2.2.2.1 = true) {s : am_M} {x1 : Int32} (h : p_LH_act s x1) : AC l g m_LH_act 207 s [.ref 0, .int x1] (am_oC (f_LH_act s x1)) := am_enter ok_LH_act rfl (Nat.le_of_ble_eq_true rfl) rfl (fun ad0 => w_LH_act hg h)
end

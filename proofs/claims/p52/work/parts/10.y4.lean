noncomputable section
theorem cw_LH_areAlike_1 : am_cv m_LH_areAlike m_CB_broken 175 0 := ⟨⟨ok_CB_broken, rfl, by decide +kernel, by decide, by decide⟩, aw_5_74, aw_5_75, aw_5_76⟩
theorem cw_LH_areAlike_8 : am_cv m_LH_areAlike m_CB_broken 175 0 := ⟨⟨ok_CB_broken, rfl, by decide +kernel, by decide, by decide⟩, aw_5_74, aw_5_75, aw_5_76⟩
theorem cw_LH_areAlike_15 : am_cv m_LH_areAlike m_CB_undoable 178 0 := ⟨⟨ok_CB_undoable, rfl, by decide +kernel, by decide, by decide⟩, aw_5_79, aw_5_80, aw_5_81⟩
theorem cw_LH_areAlike_19 : am_cv m_LH_areAlike m_CB_undoable 178 0 := ⟨⟨ok_CB_undoable, rfl, by decide +kernel, by decide, by decide⟩, aw_5_79, aw_5_80, aw_5_81⟩
theorem cw_LH_areAlike_26 : am_cv m_LH_areAlike m_CB_reason 181 0 := ⟨⟨ok_CB_reason, rfl, by decide +kernel, by decide, by decide⟩, aw_5_83, aw_5_84, aw_5_85⟩
theorem cw_LH_areAlike_30 : am_cv m_LH_areAlike m_CB_reason 181 0 := ⟨⟨ok_CB_reason, rfl, by decide +kernel, by decide, by decide⟩, aw_5_83, aw_5_84, aw_5_85⟩
theorem cw_LH_areAlike_37 : am_cv m_LH_areAlike m_CB_whereTable 184 0 := ⟨⟨ok_CB_whereTable, rfl, by decide +kernel, by decide, by decide⟩, aw_5_87, aw_5_88, aw_5_89⟩
theorem cw_LH_areAlike_41 : am_cv m_LH_areAlike m_CB_whereTable 184 0 := ⟨⟨ok_CB_whereTable, rfl, by decide +kernel, by decide, by decide⟩, aw_5_87, aw_5_88, aw_5_89⟩
theorem cw_LH_areAlike_48 : am_cv m_LH_areAlike m_CB_whereRow 187 0 := ⟨⟨ok_CB_whereRow, rfl, by decide +kernel, by decide, by decide⟩, aw_5_91, aw_5_92, aw_5_93⟩
theorem cw_LH_areAlike_52 : am_cv m_LH_areAlike m_CB_whereRow 187 0 := ⟨⟨ok_CB_whereRow, rfl, by decide +kernel, by decide, by decide⟩, aw_5_91, aw_5_92, aw_5_93⟩
theorem cw_LH_areAlike_59 : am_cv m_LH_areAlike m_CB_whereColumn 190 0 := ⟨⟨ok_CB_whereColumn, rfl, by decide +kernel, by decide, by decide⟩, aw_5_95, aw_5_96, aw_5_97⟩
theorem cw_LH_areAlike_63 : am_cv m_LH_areAlike m_CB_whereColumn 190 0 := ⟨⟨ok_CB_whereColumn, rfl, by decide +kernel, by decide, by decide⟩, aw_5_95, aw_5_96, aw_5_97⟩
theorem cw_LH_areAlike_88 : am_sh9 m_LH_areAlike m_LH_rows 193 2 := ⟨ok_LH_rows, ⟨_, rfl⟩, by decide +kernel, by decide, by decide, aw_5_99, aw_5_100⟩
theorem cw_LH_areAlike_93 : am_sh9 m_LH_areAlike m_LH_rows 193 2 := ⟨ok_LH_rows, ⟨_, rfl⟩, by decide +kernel, by decide, by decide, aw_5_99, aw_5_100⟩
theorem cw_LH_areAlike_112 : am_sh9 m_LH_areAlike m_LH_rows 193 2 := ⟨ok_LH_rows, ⟨_, rfl⟩, by decide +kernel, by decide, by decide, aw_5_99, aw_5_100⟩
theorem cw_LH_areAlike_126 : am_cv m_LH_areAlike m_CB_isThere 196 2 := ⟨⟨ok_CB_isThere, rfl, by decide +kernel, by decide, by decide⟩, aw_5_107, aw_5_108, aw_5_109⟩
theorem cw_LH_areAlike_133 : am_cv m_LH_areAlike m_CB_isThere 196 2 := ⟨⟨ok_CB_isThere, rfl, by decide +kernel, by decide, by decide⟩, aw_5_107, aw_5_108, aw_5_109⟩
theorem cw_LH_areAlike_170 : am_sh9 m_LH_areAlike m_LH_sets10 163 8 := ⟨ok_LH_sets10, ⟨_, rfl⟩, by decide +kernel, by decide, by decide, aw_3_221, aw_3_222⟩
theorem cw_LH_areAlike_184 : am_sh9 m_LH_areAlike m_LH_sets10 163 8 := ⟨ok_LH_sets10, ⟨_, rfl⟩, by decide +kernel, by decide, by decide, aw_3_221, aw_3_222⟩
theorem cw_LH_areAlike_229 : am_sh9 m_LH_areAlike m_LH_many 199 3 := ⟨ok_LH_many, ⟨_, rfl⟩, by decide +kernel, by decide, by decide, aw_5_111, aw_5_112⟩
theorem cw_LH_areAlike_235 : am_sh9 m_LH_areAlike m_LH_many 199 3 := ⟨ok_LH_many, ⟨_, rfl⟩, by decide +kernel, by decide, by decide, aw_5_111, aw_5_112⟩
theorem cw_LH_areAlike_244 : am_sh9 m_LH_areAlike m_LH_many 199 3 := ⟨ok_LH_many, ⟨_, rfl⟩, by decide +kernel, by decide, by decide, aw_5_111, aw_5_112⟩
theorem cw_LH_areAlike_250 : am_sh9 m_LH_areAlike m_LH_many 199 3 := ⟨ok_LH_many, ⟨_, rfl⟩, by decide +kernel, by decide, by decide, aw_5_111, aw_5_112⟩
theorem cw_LH_areAlike_261 : am_sh9 m_LH_areAlike m_LH_does 159 5 := ⟨ok_LH_does, ⟨_, rfl⟩, by decide +kernel, by decide, by decide, aw_1_193, aw_1_194⟩
theorem cw_LH_areAlike_269 : am_sh9 m_LH_areAlike m_LH_does 159 5 := ⟨ok_LH_does, ⟨_, rfl⟩, by decide +kernel, by decide, by decide, aw_1_193, aw_1_194⟩
def f_LH_areAlike_195 (K77 : am_M → am_M → Int32 → Int32 → Int32 × am_M × am_M) (K108 : am_M → am_M → Int32 → Int32 → Int32 → Int32 × am_M × am_M) (K148 : am_M → am_M → Int32 → Int32 → Int32 → Int32 → Int32 × am_M × am_M) (s : am_M) (t : am_M) (x2 : Int32) (x3 : Int32) (x4 : Int32) (x5 : Int32) (y0 : Int32) : Int32 × am_M × am_M := (K148 s t y0 x3 x4 (x5 + (1 : Int32)))
def p_LH_areAlike_195 (KP77 : am_M → am_M → Int32 → Int32 → Prop) (KP108 : am_M → am_M → Int32 → Int32 → Int32 → Prop) (KP148 : am_M → am_M → Int32 → Int32 → Int32 → Int32 → Prop) (s : am_M) (t : am_M) (x2 : Int32) (x3 : Int32) (x4 : Int32) (x5 : Int32) (y0 : Int32) : Prop := (KP148 s t y0 x3 x4 (x5 + (1 : Int32)))
set_option maxRecDepth 100000 in
theorem w_LH_areAlike_195 {l : Launch} {g : am_Gl} (hg : g.2.2.2.1 = true) {ad0 : Nat → Nat} {K77 : am_M → am_M → Int32 → Int32 → Int32 × am_M × am_M} {KP77 : am_M → am_M → Int32 → Int32 → Prop} {β77 : Nat} {K108 : am_M → am_M → Int32 → Int32 → Int32 → Int32 × am_M × am_M} {KP108 : am_M → am_M → Int32 → Int32 → Int32 → Prop} {β108 : Nat} {K148 : am_M → am_M → Int32 → Int32 → Int32 → Int32 → Int32 × am_M × am_M} {KP148 : am_M → am_M → Int32 → Int32 → Int32 → Int32 → Prop} {β148 : Nat} (hβ77 : β77 ≤ 4815) (hK77 : ∀ (s : am_M) (t : am_M) (x2 : Int32) (x3 : Int32) (k z : Nat), k ≤ β77 → z ≤ 6 * β77 → KP77 s t x2 x3 → AW l g m_LH_areAlike 414 ad0 (am_oC2 (K77 s t x2 x3)) k z 414 (jn s t) 77 [(0, .ref 0), (1, .ref 207), (2, .int x2), (3, .int x3)] []) (hβ108 : β108 + 0 ≤ β77) (hK108 : ∀ (s : am_M) (t : am_M) (x2 : Int32) (x3 : Int32) (x4 : Int32) (k z : Nat), k ≤ β108 → z ≤ 6 * β108 → KP108 s t x2 x3 x4 → AW l g m_LH_areAlike 414 ad0 (am_oC2 (K108 s t x2 x3 x4)) k z 414 (jn s t) 108 [(0, .ref 0), (1, .ref 207), (2, .int x2), (3, .int x3), (4, .int x4)] []) (hβ148 : β148 + 0 ≤ β108) (hK148 : ∀ (s : am_M) (t : am_M) (x2 : Int32) (x3 : Int32) (x4 : Int32) (x5 : Int32) (k z : Nat), k ≤ β148 → z ≤ 6 * β148 → KP148 s t x2 x3 x4 x5 → AW l g m_LH_areAlike 414 ad0 (am_oC2 (K148 s t x2 x3 x4 x5)) k z 414 (jn s t) 148 [(0, .ref 0), (1, .ref 207), (2, .int x2), (3, .int x3), (4, .int x4), (5, .int x5)] []) {s : am_M} {t : am_M} {x2 : Int32} {x3 : Int32} {x4 : Int32} {x5 : Int32} {y0 : Int32} {k z : Nat} (hk : k + 0 ≤ β148) (hz : z + 0 ≤ 6 * β148) (h : p_LH_areAlike_195 KP77 KP108 KP148 s t x2 x3 x4 x5 y0) : AW l g m_LH_areAlike 414 ad0 (am_oC2 (f_LH_areAlike_195 K77 K108 K148 s t x2 x3 x4 x5 y0)) k z 414 (jn s t) 195 [(0, .ref 0), (1, .ref 207), (2, .int x2), (3, .int x3), (4, .int x4), (5, .int x5)] [.int y0] := by
  refine am_istore_n (lv2 := [(2, .int y0), (0, .ref 0), (1, .ref 207), (3, .int x3), (4, .int x4), (5, .int x5)]) d_LH_areAlike_195 rfl (by decide) rfl ?_
  refine am_iinc (j := 5) (v := (x5 + (1 : Int32))) (lv2 := [(5, .int (x5 + (1 : Int32))), (2, .int y0), (0, .ref 0), (1, .ref 207), (3, .int x3), (4, .int x4)]) d_LH_areAlike_196 rfl rfl (by decide) rfl ?_
  refine am_goto (tgt := 148) d_LH_areAlike_199 (by decide) ?_
  refine am_sub [2, 3, 1, 4, 5, 0] (lv2 := [(0, .ref 0), (1, .ref 207), (2, .int y0), (3, .int x3), (4, .int x4), (5, .int (x5 + (1 : Int32)))]) rfl ?_
  exact hK148 _ _ _ _ _ _ _ _ (by show k ≤ β148; omega) (by show z ≤ 6 * β148; omega) h
def f_LH_areAlike_202 (K77 : am_M → am_M → Int32 → Int32 → Int32 × am_M × am_M) (K108 : am_M → am_M → Int32 → Int32 → Int32 → Int32 × am_M × am_M) (s : am_M) (t : am_M) (x2 : Int32) (x3 : Int32) (x4 : Int32) (x5 : Int32) : Int32 × am_M × am_M := (K108 s t x2 x3 (x4 + (1 : Int32)))
def p_LH_areAlike_202 (KP77 : am_M → am_M → Int32 → Int32 → Prop) (KP108 : am_M → am_M → Int32 → Int32 → Int32 → Prop) (s : am_M) (t : am_M) (x2 : Int32) (x3 : Int32) (x4 : Int32) (x5 : Int32) : Prop := (KP108 s t x2 x3 (x4 + (1 : Int32)))
set_option maxRecDepth 100000 in
theorem w_LH_areAlike_202 {l : Launch} {g : am_Gl} (hg : g.2.2.2.1 = true) {ad0 : Nat → Nat} {K77 : am_M → am_M → Int32 → Int32 → Int32 × am_M × am_M} {KP77 : am_M → am_M → Int32 → Int32 → Prop} {β77 : Nat} {K108 : am_M → am_M → Int32 → Int32 → Int32 → Int32 × am_M × am_M} {KP108 : am_M → am_M → Int32 → Int32 → Int32 → Prop} {β108 : Nat} (hβ77 : β77 ≤ 4815) (hK77 : ∀ (s : am_M) (t : am_M) (x2 : Int32) (x3 : Int32) (k z : Nat), k ≤ β77 → z ≤ 6 * β77 → KP77 s t x2 x3 → AW l g m_LH_areAlike 414 ad0 (am_oC2 (K77 s t x2 x3)) k z 414 (jn s t) 77 [(0, .ref 0), (1, .ref 207), (2, .int x2), (3, .int x3)] []) (hβ108 : β108 + 0 ≤ β77) (hK108 : ∀ (s : am_M) (t : am_M) (x2 : Int32) (x3 : Int32) (x4 : Int32) (k z : Nat), k ≤ β108 → z ≤ 6 * β108 → KP108 s t x2 x3 x4 → AW l g m_LH_areAlike 414 ad0 (am_oC2 (K108 s t x2 x3 x4)) k z 414 (jn s t) 108 [(0, .ref 0), (1, .ref 207), (2, .int x2), (3, .int x3), (4, .int x4)] []) {s : am_M} {t : am_M} {x2 : Int32} {x3 : Int32} {x4 : Int32} {x5 : Int32} {k z : Nat} (hk : k + 0 ≤ β108) (hz : z + 0 ≤ 6 * β108) (h : p_LH_areAlike_202 KP77 KP108 s t x2 x3 x4 x5) : AW l g m_LH_areAlike 414 ad0 (am_oC2 (f_LH_areAlike_202 K77 K108 s t x2 x3 x4 x5)) k z 414 (jn s t) 202 [(0, .ref 0), (1, .ref 207), (2, .int x2), (3, .int x3), (4, .int x4), (5, .int x5)] [] := by
  refine am_iinc (j := 4) (v := (x4 + (1 : Int32))) (lv2 := [(4, .int (x4 + (1 : Int32))), (0, .ref 0), (1, .ref 207), (2, .int x2), (3, .int x3), (5, .int x5)]) d_LH_areAlike_202 rfl rfl (by decide) rfl ?_
  refine am_goto (tgt := 108) d_LH_areAlike_205 (by decide) ?_
  refine am_sub [1, 2, 3, 4, 0] (lv2 := [(0, .ref 0), (1, .ref 207), (2, .int x2), (3, .int x3), (4, .int (x4 + (1 : Int32)))]) rfl ?_
  exact hK108 _ _ _ _ _ _ _ (by show k ≤ β108; omega) (by show z ≤ 6 * β108; omega) h
def f_LH_areAlike_148 (K77 : am_M → am_M → Int32 → Int32 → Int32 × am_M × am_M) (K108 : am_M → am_M → Int32 → Int32 → Int32 → Int32 × am_M × am_M) : Nat → am_M → am_M → Int32 → Int32 → Int32 → Int32 → Int32 × am_M × am_M
  | 0, s, t, x2, x3, x4, x5 => (0, s, t)
  | n + 1, s, t, x2, x3, x4, x5 => (if (6 : Int32) ≤ x5 then (f_LH_areAlike_202 K77 K108 s t x2 x3 x4 x5) else (if x2 = 0 then (f_LH_areAlike_202 K77 K108 s t x2 x3 x4 x5) else (if (f_LH_sets10 s x3 x4 x5 (0 : Int32) (0 : Int32) (0 : Int32)).1 = (f_LH_sets10 t x3 x4 x5 (0 : Int32) (0 : Int32) (0 : Int32)).1 then (f_LH_areAlike_195 K77 K108 (f_LH_areAlike_148 K77 K108 n) (f_LH_sets10 s x3 x4 x5 (0 : Int32) (0 : Int32) (0 : Int32)).2 (f_LH_sets10 t x3 x4 x5 (0 : Int32) (0 : Int32) (0 : Int32)).2 x2 x3 x4 x5 (1 : Int32)) else (f_LH_areAlike_195 K77 K108 (f_LH_areAlike_148 K77 K108 n) (f_LH_sets10 s x3 x4 x5 (0 : Int32) (0 : Int32) (0 : Int32)).2 (f_LH_sets10 t x3 x4 x5 (0 : Int32) (0 : Int32) (0 : Int32)).2 x2 x3 x4 x5 (0 : Int32)))))
def p_LH_areAlike_148 (KP77 : am_M → am_M → Int32 → Int32 → Prop) (KP108 : am_M → am_M → Int32 → Int32 → Int32 → Prop) : Nat → am_M → am_M → Int32 → Int32 → Int32 → Int32 → Prop
  | 0, s, t, x2, x3, x4, x5 => False
  | n + 1, s, t, x2, x3, x4, x5 => (((6 : Int32) ≤ x5) → (p_LH_areAlike_202 KP77 KP108 s t x2 x3 x4 x5)) ∧ (¬ ((6 : Int32) ≤ x5) → ((x2 = 0) → (p_LH_areAlike_202 KP77 KP108 s t x2 x3 x4 x5)) ∧ (¬ (x2 = 0) → p_LH_sets10 s x3 x4 x5 (0 : Int32) (0 : Int32) (0 : Int32) ∧ (p_LH_sets10 t x3 x4 x5 (0 : Int32) (0 : Int32) (0 : Int32) ∧ ((((f_LH_sets10 s x3 x4 x5 (0 : Int32) (0 : Int32) (0 : Int32)).1 = (f_LH_sets10 t x3 x4 x5 (0 : Int32) (0 : Int32) (0 : Int32)).1) → (p_LH_areAlike_195 KP77 KP108 (p_LH_areAlike_148 KP77 KP108 n) (f_LH_sets10 s x3 x4 x5 (0 : Int32) (0 : Int32) (0 : Int32)).2 (f_LH_sets10 t x3 x4 x5 (0 : Int32) (0 : Int32) (0 : Int32)).2 x2 x3 x4 x5 (1 : Int32))) ∧ (¬ ((f_LH_sets10 s x3 x4 x5 (0 : Int32) (0 : Int32) (0 : Int32)).1 = (f_LH_sets10 t x3 x4 x5 (0 : Int32) (0 : Int32) (0 : Int32)).1) → (p_LH_areAlike_195 KP77 KP108 (p_LH_areAlike_148 KP77 KP108 n) (f_LH_sets10 s x3 x4 x5 (0 : Int32) (0 : Int32) (0 : Int32)).2 (f_LH_sets10 t x3 x4 x5 (0 : Int32) (0 : Int32) (0 : Int32)).2 x2 x3 x4 x5 (0 : Int32)))))))
set_option maxRecDepth 100000 in
theorem w_LH_areAlike_148 {l : Launch} {g : am_Gl} (hg : g.2.2.2.1 = true) {ad0 : Nat → Nat} {K77 : am_M → am_M → Int32 → Int32 → Int32 × am_M × am_M} {KP77 : am_M → am_M → Int32 → Int32 → Prop} {β77 : Nat} {K108 : am_M → am_M → Int32 → Int32 → Int32 → Int32 × am_M × am_M} {KP108 : am_M → am_M → Int32 → Int32 → Int32 → Prop} {β108 : Nat} (hβ77 : β77 ≤ 4815) (hK77 : ∀ (s : am_M) (t : am_M) (x2 : Int32) (x3 : Int32) (k z : Nat), k ≤ β77 → z ≤ 6 * β77 → KP77 s t x2 x3 → AW l g m_LH_areAlike 414 ad0 (am_oC2 (K77 s t x2 x3)) k z 414 (jn s t) 77 [(0, .ref 0), (1, .ref 207), (2, .int x2), (3, .int x3)] []) (hβ108 : β108 + 0 ≤ β77) (hK108 : ∀ (s : am_M) (t : am_M) (x2 : Int32) (x3 : Int32) (x4 : Int32) (k z : Nat), k ≤ β108 → z ≤ 6 * β108 → KP108 s t x2 x3 x4 → AW l g m_LH_areAlike 414 ad0 (am_oC2 (K108 s t x2 x3 x4)) k z 414 (jn s t) 108 [(0, .ref 0), (1, .ref 207), (2, .int x2), (3, .int x3), (4, .int x4)] []) : ∀ (n : Nat) (s : am_M) (t : am_M) (x2 : Int32) (x3 : Int32) (x4 : Int32) (x5 : Int32) (k z : Nat), k + 4 * n + 0 ≤ β108 → z + 24 * n + 0 ≤ 6 * β108 → p_LH_areAlike_148 KP77 KP108 n s t x2 x3 x4 x5 → AW l g m_LH_areAlike 414 ad0 (am_oC2 (f_LH_areAlike_148 K77 K108 n s t x2 x3 x4 x5)) k z 414 (jn s t) 148 [(0, .ref 0), (1, .ref 207), (2, .int x2), (3, .int x3), (4, .int x4), (5, .int x5)] [] := by
  intro n
  induction n with
  | zero => intro s t x2 x3 x4 x5 k z _ _ h; exact h.elim
  | succ n ih =>
    intro s t x2 x3 x4 x5 k z hk hz h
    obtain ⟨β148, hb148⟩ : ∃ b, b + 4 * n + 0 = β108 := ⟨β108 - (4 * n + 0), by omega⟩
    have hβ148 : β148 + 0 ≤ β108 := by omega
    have hK148 : ∀ (s : am_M) (t : am_M) (x2 : Int32) (x3 : Int32) (x4 : Int32) (x5 : Int32) (k z : Nat), k ≤ β148 → z ≤ 6 * β148 → (p_LH_areAlike_148 KP77 KP108 n) s t x2 x3 x4 x5 → AW l g m_LH_areAlike 414 ad0 (am_oC2 ((f_LH_areAlike_148 K77 K108 n) s t x2 x3 x4 x5)) k z 414 (jn s t) 148 [(0, .ref 0), (1, .ref 207), (2, .int x2), (3, .int x3), (4, .int x4), (5, .int x5)] [] := fun s t x2 x3 x4 x5 k z h1 h2 h3 => ih s t x2 x3 x4 x5 k z (by omega) (by omega) h3
    refine am_iload (j := 5) d_LH_areAlike_148 rfl ?_
    refine am_bipush (v := (6 : Int32)) d_LH_areAlike_150 (by decide) ?_
    refine aj_ge (F := am_oC2) (tgt := 202) d_LH_areAlike_152 (by decide) (fun c => ?_) (fun c => ?_)
    · have h := h.1 c
      exact w_LH_areAlike_202 hg hβ77 hK77 hβ108 hK108 (by show k + 0 ≤ β108; omega) (by show z + 0 ≤ 6 * β108; omega) h
    · have h := h.2 c
      refine am_iload_n (j := 2) d_LH_areAlike_155 rfl rfl ?_
      refine ai_eq (F := am_oC2) (tgt := 202) d_LH_areAlike_156 (by decide) (fun c => ?_) (fun c => ?_)
      · have h := h.1 c
        exact w_LH_areAlike_202 hg hβ77 hK77 hβ108 hK108 (by show k + 0 ≤ β108; omega) (by show z + 0 ≤ 6 * β108; omega) h
      · have h := h.2 c
        refine am_aload_n (j := 0) d_LH_areAlike_159 rfl rfl ?_
        refine am_bipush (v := (10 : Int32)) d_LH_areAlike_160 (by decide) ?_
        refine am_iload_n (j := 3) d_LH_areAlike_162 rfl rfl ?_
        refine am_iload (j := 4) d_LH_areAlike_163 rfl ?_
        refine am_iload (j := 5) d_LH_areAlike_165 rfl ?_
        refine am_iconst (v := (0 : Int32)) d_LH_areAlike_167 (by decide) ?_
        refine am_iconst (v := (0 : Int32)) d_LH_areAlike_168 (by decide) ?_
        refine am_iconst (v := (0 : Int32)) d_LH_areAlike_169 (by decide) ?_
        obtain ⟨hc, h⟩ := h
        refine ak9_SX (as := [.ref 0, .int (10 : Int32), .int x3, .int x4, .int x5, .int (0 : Int32), .int (0 : Int32), .int (0 : Int32)]) (rest := []) d_LH_areAlike_170 cw_LH_areAlike_170 rfl (am_2O hg rfl (fun A9 => am_1C (ct_LH_sets10 (g := am_ga g A9) hg hc))) rfl rfl (Nat.le_of_ble_eq_true rfl) (by show k + 2 ≤ 4923; omega) (by show z + 12 ≤ 29538; omega) ?_
        refine am_aload_n (j := 1) d_LH_areAlike_173 rfl rfl ?_
        refine am_bipush (v := (10 : Int32)) d_LH_areAlike_174 (by decide) ?_
        refine am_iload_n (j := 3) d_LH_areAlike_176 rfl rfl ?_
        refine am_iload (j := 4) d_LH_areAlike_177 rfl ?_
        refine am_iload (j := 5) d_LH_areAlike_179 rfl ?_
        refine am_iconst (v := (0 : Int32)) d_LH_areAlike_181 (by decide) ?_
        refine am_iconst (v := (0 : Int32)) d_LH_areAlike_182 (by decide) ?_
        refine am_iconst (v := (0 : Int32)) d_LH_areAlike_183 (by decide) ?_
        obtain ⟨hc, h⟩ := h
        refine ak9_SX (as := [.ref 207, .int (10 : Int32), .int x3, .int x4, .int x5, .int (0 : Int32), .int (0 : Int32), .int (0 : Int32)]) (rest := [.int (f_LH_sets10 s x3 x4 x5 (0 : Int32) (0 : Int32) (0 : Int32)).1]) d_LH_areAlike_184 cw_LH_areAlike_184 rfl (am_2P (av1 := [.ref 0, .int (10 : Int32), .int x3, .int x4, .int x5, .int (0 : Int32), .int (0 : Int32), .int (0 : Int32)]) hg rfl (fun _ => rfl) (fun A9 => am_1C (ct_LH_sets10 (g := am_ga g A9) hg hc))) rfl rfl (Nat.le_of_ble_eq_true rfl) (by show k + 2 + 2 ≤ 4923; omega) (by show z + 12 + 12 ≤ 29538; omega) ?_
        refine aj_ne (F := am_oC2) (tgt := 194) d_LH_areAlike_187 (by decide) (fun c => ?_) (fun c => ?_)
        · have h := h.2 c
          refine am_iconst (v := (0 : Int32)) d_LH_areAlike_194 (by decide) ?_
          exact w_LH_areAlike_195 hg hβ77 hK77 hβ108 hK108 hβ148 hK148 (by show k + 2 + 2 + 0 ≤ β148; omega) (by show z + 12 + 12 + 0 ≤ 6 * β148; omega) h
        · have h := h.1 c
          refine am_iconst (v := (1 : Int32)) d_LH_areAlike_190 (by decide) ?_
          refine am_goto (tgt := 195) d_LH_areAlike_191 (by decide) ?_
          exact w_LH_areAlike_195 hg hβ77 hK77 hβ108 hK108 hβ148 hK148 (by show k + 2 + 2 + 0 ≤ β148; omega) (by show z + 12 + 12 + 0 ≤ 6 * β148; omega) h
def f_LH_areAlike_144 (K77 : am_M → am_M → Int32 → Int32 → Int32 × am_M × am_M) (K108 : am_M → am_M → Int32 → Int32 → Int32 → Int32 × am_M × am_M) (s : am_M) (t : am_M) (x2 : Int32) (x3 : Int32) (x4 : Int32) (y0 : Int32) : Int32 × am_M × am_M := (f_LH_areAlike_148 K77 K108 7 s t y0 x3 x4 (0 : Int32))
def p_LH_areAlike_144 (KP77 : am_M → am_M → Int32 → Int32 → Prop) (KP108 : am_M → am_M → Int32 → Int32 → Int32 → Prop) (s : am_M) (t : am_M) (x2 : Int32) (x3 : Int32) (x4 : Int32) (y0 : Int32) : Prop := (p_LH_areAlike_148 KP77 KP108 7 s t y0 x3 x4 (0 : Int32))
set_option maxRecDepth 100000 in
theorem w_LH_areAlike_144 {l : Launch} {g : am_Gl} (hg : g.2.2.2.1 = true) {ad0 : Nat → Nat} {K77 : am_M → am_M → Int32 → Int32 → Int32 × am_M × am_M} {KP77 : am_M → am_M → Int32 → Int32 → Prop} {β77 : Nat} {K108 : am_M → am_M → Int32 → Int32 → Int32 → Int32 × am_M × am_M} {KP108 : am_M → am_M → Int32 → Int32 → Int32 → Prop} {β108 : Nat} (hβ77 : β77 ≤ 4815) (hK77 : ∀ (s : am_M) (t : am_M) (x2 : Int32) (x3 : Int32) (k z : Nat), k ≤ β77 → z ≤ 6 * β77 → KP77 s t x2 x3 → AW l g m_LH_areAlike 414 ad0 (am_oC2 (K77 s t x2 x3)) k z 414 (jn s t) 77 [(0, .ref 0), (1, .ref 207), (2, .int x2), (3, .int x3)] []) (hβ108 : β108 + 0 ≤ β77) (hK108 : ∀ (s : am_M) (t : am_M) (x2 : Int32) (x3 : Int32) (x4 : Int32) (k z : Nat), k ≤ β108 → z ≤ 6 * β108 → KP108 s t x2 x3 x4 → AW l g m_LH_areAlike 414 ad0 (am_oC2 (K108 s t x2 x3 x4)) k z 414 (jn s t) 108 [(0, .ref 0), (1, .ref 207), (2, .int x2), (3, .int x3), (4, .int x4)] []) {s : am_M} {t : am_M} {x2 : Int32} {x3 : Int32} {x4 : Int32} {y0 : Int32} {k z : Nat} (hk : k + 28 ≤ β108) (hz : z + 168 ≤ 6 * β108) (h : p_LH_areAlike_144 KP77 KP108 s t x2 x3 x4 y0) : AW l g m_LH_areAlike 414 ad0 (am_oC2 (f_LH_areAlike_144 K77 K108 s t x2 x3 x4 y0)) k z 414 (jn s t) 144 [(0, .ref 0), (1, .ref 207), (2, .int x2), (3, .int x3), (4, .int x4)] [.int y0] := by
  refine am_istore_n (lv2 := [(2, .int y0), (0, .ref 0), (1, .ref 207), (3, .int x3), (4, .int x4)]) d_LH_areAlike_144 rfl (by decide) rfl ?_
  refine am_iconst (v := (0 : Int32)) d_LH_areAlike_145 (by decide) ?_
  refine am_istore (lv2 := [(5, .int (0 : Int32)), (2, .int y0), (0, .ref 0), (1, .ref 207), (3, .int x3), (4, .int x4)]) d_LH_areAlike_146 (by decide) rfl ?_
  refine am_sub [2, 3, 1, 4, 5, 0] (lv2 := [(0, .ref 0), (1, .ref 207), (2, .int y0), (3, .int x3), (4, .int x4), (5, .int (0 : Int32))]) rfl ?_
  exact w_LH_areAlike_148 hg hβ77 hK77 hβ108 hK108 7 _ _ _ _ _ _ _ _ (by omega) (by omega) h
def f_LH_areAlike_208 (K77 : am_M → am_M → Int32 → Int32 → Int32 × am_M × am_M) (s : am_M) (t : am_M) (x2 : Int32) (x3 : Int32) (x4 : Int32) : Int32 × am_M × am_M := (K77 s t x2 (x3 + (1 : Int32)))
def p_LH_areAlike_208 (KP77 : am_M → am_M → Int32 → Int32 → Prop) (s : am_M) (t : am_M) (x2 : Int32) (x3 : Int32) (x4 : Int32) : Prop := (KP77 s t x2 (x3 + (1 : Int32)))
set_option maxRecDepth 100000 in
theorem w_LH_areAlike_208 {l : Launch} {g : am_Gl} (hg : g.2.2.2.1 = true) {ad0 : Nat → Nat} {K77 : am_M → am_M → Int32 → Int32 → Int32 × am_M × am_M} {KP77 : am_M → am_M → Int32 → Int32 → Prop} {β77 : Nat} (hβ77 : β77 ≤ 4815) (hK77 : ∀ (s : am_M) (t : am_M) (x2 : Int32) (x3 : Int32) (k z : Nat), k ≤ β77 → z ≤ 6 * β77 → KP77 s t x2 x3 → AW l g m_LH_areAlike 414 ad0 (am_oC2 (K77 s t x2 x3)) k z 414 (jn s t) 77 [(0, .ref 0), (1, .ref 207), (2, .int x2), (3, .int x3)] []) {s : am_M} {t : am_M} {x2 : Int32} {x3 : Int32} {x4 : Int32} {k z : Nat} (hk : k + 0 ≤ β77) (hz : z + 0 ≤ 6 * β77) (h : p_LH_areAlike_208 KP77 s t x2 x3 x4) : AW l g m_LH_areAlike 414 ad0 (am_oC2 (f_LH_areAlike_208 K77 s t x2 x3 x4)) k z 414 (jn s t) 208 [(0, .ref 0), (1, .ref 207), (2, .int x2), (3, .int x3), (4, .int x4)] [] := by
  refine am_iinc (j := 3) (v := (x3 + (1 : Int32))) (lv2 := [(3, .int (x3 + (1 : Int32))), (0, .ref 0), (1, .ref 207), (2, .int x2), (4, .int x4)]) d_LH_areAlike_208 rfl rfl (by decide) rfl ?_
  refine am_goto (tgt := 77) d_LH_areAlike_211 (by decide) ?_
  refine am_sub [1, 2, 3, 0] (lv2 := [(0, .ref 0), (1, .ref 207), (2, .int x2), (3, .int (x3 + (1 : Int32)))]) rfl ?_
  exact hK77 _ _ _ _ _ _ (by show k ≤ β77; omega) (by show z ≤ 6 * β77; omega) h
def f_LH_areAlike_108 (K77 : am_M → am_M → Int32 → Int32 → Int32 × am_M × am_M) : Nat → am_M → am_M → Int32 → Int32 → Int32 → Int32 × am_M × am_M
  | 0, s, t, x2, x3, x4 => (0, s, t)
  | n + 1, s, t, x2, x3, x4 => (if (f_LH_rows s x3).1 ≤ x4 then (f_LH_areAlike_208 K77 (f_LH_rows s x3).2 t x2 x3 x4) else (if x2 = 0 then (f_LH_areAlike_208 K77 (f_LH_rows s x3).2 t x2 x3 x4) else (if (f_CB_isThere (f_LH_rows s x3).2 x3 x4).2.1 = (f_CB_isThere t x3 x4).2.1 then (f_LH_areAlike_144 K77 (f_LH_areAlike_108 K77 n) (f_CB_isThere (f_LH_rows s x3).2 x3 x4).2.2 (f_CB_isThere t x3 x4).2.2 x2 x3 x4 (1 : Int32)) else (f_LH_areAlike_144 K77 (f_LH_areAlike_108 K77 n) (f_CB_isThere (f_LH_rows s x3).2 x3 x4).2.2 (f_CB_isThere t x3 x4).2.2 x2 x3 x4 (0 : Int32)))))
def p_LH_areAlike_108 (KP77 : am_M → am_M → Int32 → Int32 → Prop) : Nat → am_M → am_M → Int32 → Int32 → Int32 → Prop
  | 0, s, t, x2, x3, x4 => False
  | n + 1, s, t, x2, x3, x4 => p_LH_rows s x3 ∧ ((((f_LH_rows s x3).1 ≤ x4) → (p_LH_areAlike_208 KP77 (f_LH_rows s x3).2 t x2 x3 x4)) ∧ (¬ ((f_LH_rows s x3).1 ≤ x4) → ((x2 = 0) → (p_LH_areAlike_208 KP77 (f_LH_rows s x3).2 t x2 x3 x4)) ∧ (¬ (x2 = 0) → p_CB_isThere (f_LH_rows s x3).2 x3 x4 ∧ ((f_CB_isThere (f_LH_rows s x3).2 x3 x4).1 = 0 ∧ (p_CB_isThere t x3 x4 ∧ ((f_CB_isThere t x3 x4).1 = 0 ∧ ((((f_CB_isThere (f_LH_rows s x3).2 x3 x4).2.1 = (f_CB_isThere t x3 x4).2.1) → (p_LH_areAlike_144 KP77 (p_LH_areAlike_108 KP77 n) (f_CB_isThere (f_LH_rows s x3).2 x3 x4).2.2 (f_CB_isThere t x3 x4).2.2 x2 x3 x4 (1 : Int32))) ∧ (¬ ((f_CB_isThere (f_LH_rows s x3).2 x3 x4).2.1 = (f_CB_isThere t x3 x4).2.1) → (p_LH_areAlike_144 KP77 (p_LH_areAlike_108 KP77 n) (f_CB_isThere (f_LH_rows s x3).2 x3 x4).2.2 (f_CB_isThere t x3 x4).2.2 x2 x3 x4 (0 : Int32))))))))))
set_option maxRecDepth 100000 in
theorem w_LH_areAlike_108 {l : Launch} {g : am_Gl} (hg : g.2.2.2.1 = true) {ad0 : Nat → Nat} {K77 : am_M → am_M → Int32 → Int32 → Int32 × am_M × am_M} {KP77 : am_M → am_M → Int32 → Int32 → Prop} {β77 : Nat} (hβ77 : β77 ≤ 4815) (hK77 : ∀ (s : am_M) (t : am_M) (x2 : Int32) (x3 : Int32) (k z : Nat), k ≤ β77 → z ≤ 6 * β77 → KP77 s t x2 x3 → AW l g m_LH_areAlike 414 ad0 (am_oC2 (K77 s t x2 x3)) k z 414 (jn s t) 77 [(0, .ref 0), (1, .ref 207), (2, .int x2), (3, .int x3)] []) : ∀ (n : Nat) (s : am_M) (t : am_M) (x2 : Int32) (x3 : Int32) (x4 : Int32) (k z : Nat), k + 31 * n + 0 ≤ β77 → z + 186 * n + 0 ≤ 6 * β77 → p_LH_areAlike_108 KP77 n s t x2 x3 x4 → AW l g m_LH_areAlike 414 ad0 (am_oC2 (f_LH_areAlike_108 K77 n s t x2 x3 x4)) k z 414 (jn s t) 108 [(0, .ref 0), (1, .ref 207), (2, .int x2), (3, .int x3), (4, .int x4)] [] := by
  intro n
  induction n with
  | zero => intro s t x2 x3 x4 k z _ _ h; exact h.elim
  | succ n ih =>
    intro s t x2 x3 x4 k z hk hz h
    obtain ⟨β108, hb108⟩ : ∃ b, b + 31 * n + 0 = β77 := ⟨β77 - (31 * n + 0), by omega⟩
    have hβ108 : β108 + 0 ≤ β77 := by omega
    have hK108 : ∀ (s : am_M) (t : am_M) (x2 : Int32) (x3 : Int32) (x4 : Int32) (k z : Nat), k ≤ β108 → z ≤ 6 * β108 → (p_LH_areAlike_108 KP77 n) s t x2 x3 x4 → AW l g m_LH_areAlike 414 ad0 (am_oC2 ((f_LH_areAlike_108 K77 n) s t x2 x3 x4)) k z 414 (jn s t) 108 [(0, .ref 0), (1, .ref 207), (2, .int x2), (3, .int x3), (4, .int x4)] [] := fun s t x2 x3 x4 k z h1 h2 h3 => ih s t x2 x3 x4 k z (by omega) (by omega) h3
    refine am_iload (j := 4) d_LH_areAlike_108 rfl ?_
    refine am_aload_n (j := 0) d_LH_areAlike_110 rfl rfl ?_
    refine am_iload_n (j := 3) d_LH_areAlike_111 rfl rfl ?_
    obtain ⟨hc, h⟩ := h
    refine ak9_SX (as := [.ref 0, .int x3]) (rest := [.int x4]) d_LH_areAlike_112 cw_LH_areAlike_112 rfl (am_2O hg rfl (fun A9 => am_1C (ct_LH_rows (g := am_ga g A9) hg hc))) rfl rfl (Nat.le_of_ble_eq_true rfl) (by show k + 1 ≤ 4923; omega) (by show z + 6 ≤ 29538; omega) ?_
    refine aj_ge (F := am_oC2) (tgt := 208) d_LH_areAlike_115 (by decide) (fun c => ?_) (fun c => ?_)
    · have h := h.1 c
      exact w_LH_areAlike_208 hg hβ77 hK77 (by show k + 1 + 0 ≤ β77; omega) (by show z + 6 + 0 ≤ 6 * β77; omega) h
    · have h := h.2 c
      refine am_iload_n (j := 2) d_LH_areAlike_118 rfl rfl ?_
      refine ai_eq (F := am_oC2) (tgt := 208) d_LH_areAlike_119 (by decide) (fun c => ?_) (fun c => ?_)
      · have h := h.1 c
        exact w_LH_areAlike_208 hg hβ77 hK77 (by show k + 1 + 0 ≤ β77; omega) (by show z + 6 + 0 ≤ 6 * β77; omega) h
      · have h := h.2 c
        refine am_aload_n (j := 0) d_LH_areAlike_122 rfl rfl ?_
        refine am_iload_n (j := 3) d_LH_areAlike_123 rfl rfl ?_
        refine am_iload (j := 4) d_LH_areAlike_124 rfl ?_
        obtain ⟨hc, h⟩ := h
        obtain ⟨h0, h⟩ := h
        refine ak9_VX (as := [.int x3, .int x4]) (rest := []) d_LH_areAlike_126 cw_LH_areAlike_126 rfl (am_2O hg rfl (fun A9 => am_1E h0 (ct_CB_isThere (g := am_ga g A9) hg hc))) rfl rfl rc_1 (Nat.le_of_ble_eq_true rfl) (by show k + 1 + 1 ≤ 4923; omega) (by show z + 6 + 6 ≤ 29538; omega) ?_
        refine am_aload_n (j := 1) d_LH_areAlike_129 rfl rfl ?_
        refine am_iload_n (j := 3) d_LH_areAlike_130 rfl rfl ?_
        refine am_iload (j := 4) d_LH_areAlike_131 rfl ?_
        obtain ⟨hc, h⟩ := h
        obtain ⟨h0, h⟩ := h
        refine ak9_VX (as := [.int x3, .int x4]) (rest := [.int (f_CB_isThere (f_LH_rows s x3).2 x3 x4).2.1]) d_LH_areAlike_133 cw_LH_areAlike_133 rfl (am_2P (av1 := [.ref 0, .int x3, .int x4]) hg rfl (fun _ => rfl) (fun A9 => am_1E h0 (ct_CB_isThere (g := am_ga g A9) hg hc))) rfl rfl rc_2 (Nat.le_of_ble_eq_true rfl) (by show k + 1 + 1 + 1 ≤ 4923; omega) (by show z + 6 + 6 + 6 ≤ 29538; omega) ?_
        refine aj_ne (F := am_oC2) (tgt := 143) d_LH_areAlike_136 (by decide) (fun c => ?_) (fun c => ?_)
        · have h := h.2 c
          refine am_iconst (v := (0 : Int32)) d_LH_areAlike_143 (by decide) ?_
          exact w_LH_areAlike_144 hg hβ77 hK77 hβ108 hK108 (by show k + 1 + 1 + 1 + 28 ≤ β108; omega) (by show z + 6 + 6 + 6 + 168 ≤ 6 * β108; omega) h
        · have h := h.1 c
          refine am_iconst (v := (1 : Int32)) d_LH_areAlike_139 (by decide) ?_
          refine am_goto (tgt := 144) d_LH_areAlike_140 (by decide) ?_
          exact w_LH_areAlike_144 hg hβ77 hK77 hβ108 hK108 (by show k + 1 + 1 + 1 + 28 ≤ β108; omega) (by show z + 6 + 6 + 6 + 168 ≤ 6 * β108; omega) h
def f_LH_areAlike_104 (K77 : am_M → am_M → Int32 → Int32 → Int32 × am_M × am_M) (s : am_M) (t : am_M) (x2 : Int32) (x3 : Int32) (y0 : Int32) : Int32 × am_M × am_M := (f_LH_areAlike_108 K77 31 s t y0 x3 (0 : Int32))
def p_LH_areAlike_104 (KP77 : am_M → am_M → Int32 → Int32 → Prop) (s : am_M) (t : am_M) (x2 : Int32) (x3 : Int32) (y0 : Int32) : Prop := (p_LH_areAlike_108 KP77 31 s t y0 x3 (0 : Int32))
set_option maxRecDepth 100000 in
theorem w_LH_areAlike_104 {l : Launch} {g : am_Gl} (hg : g.2.2.2.1 = true) {ad0 : Nat → Nat} {K77 : am_M → am_M → Int32 → Int32 → Int32 × am_M × am_M} {KP77 : am_M → am_M → Int32 → Int32 → Prop} {β77 : Nat} (hβ77 : β77 ≤ 4815) (hK77 : ∀ (s : am_M) (t : am_M) (x2 : Int32) (x3 : Int32) (k z : Nat), k ≤ β77 → z ≤ 6 * β77 → KP77 s t x2 x3 → AW l g m_LH_areAlike 414 ad0 (am_oC2 (K77 s t x2 x3)) k z 414 (jn s t) 77 [(0, .ref 0), (1, .ref 207), (2, .int x2), (3, .int x3)] []) {s : am_M} {t : am_M} {x2 : Int32} {x3 : Int32} {y0 : Int32} {k z : Nat} (hk : k + 961 ≤ β77) (hz : z + 5766 ≤ 6 * β77) (h : p_LH_areAlike_104 KP77 s t x2 x3 y0) : AW l g m_LH_areAlike 414 ad0 (am_oC2 (f_LH_areAlike_104 K77 s t x2 x3 y0)) k z 414 (jn s t) 104 [(0, .ref 0), (1, .ref 207), (2, .int x2), (3, .int x3)] [.int y0] := by
  refine am_istore_n (lv2 := [(2, .int y0), (0, .ref 0), (1, .ref 207), (3, .int x3)]) d_LH_areAlike_104 rfl (by decide) rfl ?_
  refine am_iconst (v := (0 : Int32)) d_LH_areAlike_105 (by decide) ?_
  refine am_istore (lv2 := [(4, .int (0 : Int32)), (2, .int y0), (0, .ref 0), (1, .ref 207), (3, .int x3)]) d_LH_areAlike_106 (by decide) rfl ?_
  refine am_sub [2, 3, 1, 4, 0] (lv2 := [(0, .ref 0), (1, .ref 207), (2, .int y0), (3, .int x3), (4, .int (0 : Int32))]) rfl ?_
  exact w_LH_areAlike_108 hg hβ77 hK77 31 _ _ _ _ _ _ _ (by omega) (by omega) h
def f_LH_areAlike_280 (K216 : am_M → am_M → Int32 → Int32 → Int32 × am_M × am_M) (s : am_M) (t : am_M) (x2 : Int32) (x3 : Int32) (y0 : Int32) : Int32 × am_M × am_M := (K216 s t y0 (x3 + (1 : Int32)))
def p_LH_areAlike_280 (KP216 : am_M → am_M → Int32 → Int32 → Prop) (s : am_M) (t : am_M) (x2 : Int32) (x3 : Int32) (y0 : Int32) : Prop := (KP216 s t y0 (x3 + (1 : Int32)))
set_option maxRecDepth 100000 in
theorem w_LH_areAlike_280 {l : Launch} {g : am_Gl} (hg : g.2.2.2.1 = true) {ad0 : Nat → Nat} {K216 : am_M → am_M → Int32 → Int32 → Int32 × am_M × am_M} {KP216 : am_M → am_M → Int32 → Int32 → Prop} {β216 : Nat} (hβ216 : β216 ≤ 4923) (hK216 : ∀ (s : am_M) (t : am_M) (x2 : Int32) (x3 : Int32) (k z : Nat), k ≤ β216 → z ≤ 6 * β216 → KP216 s t x2 x3 → AW l g m_LH_areAlike 414 ad0 (am_oC2 (K216 s t x2 x3)) k z 414 (jn s t) 216 [(0, .ref 0), (1, .ref 207), (2, .int x2), (3, .int x3)] []) {s : am_M} {t : am_M} {x2 : Int32} {x3 : Int32} {y0 : Int32} {k z : Nat} (hk : k + 0 ≤ β216) (hz : z + 0 ≤ 6 * β216) (h : p_LH_areAlike_280 KP216 s t x2 x3 y0) : AW l g m_LH_areAlike 414 ad0 (am_oC2 (f_LH_areAlike_280 K216 s t x2 x3 y0)) k z 414 (jn s t) 280 [(0, .ref 0), (1, .ref 207), (2, .int x2), (3, .int x3)] [.int y0] := by
  refine am_istore_n (lv2 := [(2, .int y0), (0, .ref 0), (1, .ref 207), (3, .int x3)]) d_LH_areAlike_280 rfl (by decide) rfl ?_
  refine am_iinc (j := 3) (v := (x3 + (1 : Int32))) (lv2 := [(3, .int (x3 + (1 : Int32))), (2, .int y0), (0, .ref 0), (1, .ref 207)]) d_LH_areAlike_281 rfl rfl (by decide) rfl ?_
  refine am_goto (tgt := 216) d_LH_areAlike_284 (by decide) ?_
  refine am_sub [2, 3, 1, 0] (lv2 := [(0, .ref 0), (1, .ref 207), (2, .int y0), (3, .int (x3 + (1 : Int32)))]) rfl ?_
  exact hK216 _ _ _ _ _ _ (by show k ≤ β216; omega) (by show z ≤ 6 * β216; omega) h
def f_LH_areAlike_279 (K216 : am_M → am_M → Int32 → Int32 → Int32 × am_M × am_M) (s : am_M) (t : am_M) (x2 : Int32) (x3 : Int32) : Int32 × am_M × am_M := (f_LH_areAlike_280 K216 s t x2 x3 (0 : Int32))
def p_LH_areAlike_279 (KP216 : am_M → am_M → Int32 → Int32 → Prop) (s : am_M) (t : am_M) (x2 : Int32) (x3 : Int32) : Prop := (p_LH_areAlike_280 KP216 s t x2 x3 (0 : Int32))
set_option maxRecDepth 100000 in
theorem w_LH_areAlike_279 {l : Launch} {g : am_Gl} (hg : g.2.2.2.1 = true) {ad0 : Nat → Nat} {K216 : am_M → am_M → Int32 → Int32 → Int32 × am_M × am_M} {KP216 : am_M → am_M → Int32 → Int32 → Prop} {β216 : Nat} (hβ216 : β216 ≤ 4923) (hK216 : ∀ (s : am_M) (t : am_M) (x2 : Int32) (x3 : Int32) (k z : Nat), k ≤ β216 → z ≤ 6 * β216 → KP216 s t x2 x3 → AW l g m_LH_areAlike 414 ad0 (am_oC2 (K216 s t x2 x3)) k z 414 (jn s t) 216 [(0, .ref 0), (1, .ref 207), (2, .int x2), (3, .int x3)] []) {s : am_M} {t : am_M} {x2 : Int32} {x3 : Int32} {k z : Nat} (hk : k + 0 ≤ β216) (hz : z + 0 ≤ 6 * β216) (h : p_LH_areAlike_279 KP216 s t x2 x3) : AW l g m_LH_areAlike 414 ad0 (am_oC2 (f_LH_areAlike_279 K216 s t x2 x3)) k z 414 (jn s t) 279 [(0, .ref 0), (1, .ref 207), (2, .int x2), (3, .int x3)] [] := by
  refine am_iconst (v := (0 : Int32)) d_LH_areAlike_279 (by decide) ?_
  exact w_LH_areAlike_280 hg hβ216 hK216 (by show k + 0 ≤ β216; omega) (by show z + 0 ≤ 6 * β216; omega) h
def f_LH_areAlike_216  : Nat → am_M → am_M → Int32 → Int32 → Int32 × am_M × am_M
  | 0, s, t, x2, x3 => (0, s, t)
  | n + 1, s, t, x2, x3 => (if (8 : Int32) ≤ x3 then (x2, s, t) else (if x2 = 0 then (x2, s, t) else (if (f_LH_many s (0 : Int32) x3).1 = (f_LH_many t (0 : Int32) x3).1 then (if (f_LH_many (f_LH_many s (0 : Int32) x3).2 (1 : Int32) x3).1 = (f_LH_many (f_LH_many t (0 : Int32) x3).2 (1 : Int32) x3).1 then (if (f_LH_does (f_LH_many (f_LH_many s (0 : Int32) x3).2 (1 : Int32) x3).2 (4 : Int32) x3 (0 : Int32) (0 : Int32)).1 = (f_LH_does (f_LH_many (f_LH_many t (0 : Int32) x3).2 (1 : Int32) x3).2 (4 : Int32) x3 (0 : Int32) (0 : Int32)).1 then (f_LH_areAlike_280 (f_LH_areAlike_216  n) (f_LH_does (f_LH_many (f_LH_many s (0 : Int32) x3).2 (1 : Int32) x3).2 (4 : Int32) x3 (0 : Int32) (0 : Int32)).2 (f_LH_does (f_LH_many (f_LH_many t (0 : Int32) x3).2 (1 : Int32) x3).2 (4 : Int32) x3 (0 : Int32) (0 : Int32)).2 x2 x3 (1 : Int32)) else (f_LH_areAlike_279 (f_LH_areAlike_216  n) (f_LH_does (f_LH_many (f_LH_many s (0 : Int32) x3).2 (1 : Int32) x3).2 (4 : Int32) x3 (0 : Int32) (0 : Int32)).2 (f_LH_does (f_LH_many (f_LH_many t (0 : Int32) x3).2 (1 : Int32) x3).2 (4 : Int32) x3 (0 : Int32) (0 : Int32)).2 x2 x3)) else (f_LH_areAlike_279 (f_LH_areAlike_216  n) (f_LH_many (f_LH_many s (0 : Int32) x3).2 (1 : Int32) x3).2 (f_LH_many (f_LH_many t (0 : Int32) x3).2 (1 : Int32) x3).2 x2 x3)) else (f_LH_areAlike_279 (f_LH_areAlike_216  n) (f_LH_many s (0 : Int32) x3).2 (f_LH_many t (0 : Int32) x3).2 x2 x3))))
def p_LH_areAlike_216  : Nat → am_M → am_M → Int32 → Int32 → Prop
  | 0, s, t, x2, x3 => False
  | n + 1, s, t, x2, x3 => (((8 : Int32) ≤ x3) → (x2 = 0 ∨ x2 = 1) ∧ (True)) ∧ (¬ ((8 : Int32) ≤ x3) → ((x2 = 0) → (x2 = 0 ∨ x2 = 1) ∧ (True)) ∧ (¬ (x2 = 0) → p_LH_many s (0 : Int32) x3 ∧ (p_LH_many t (0 : Int32) x3 ∧ ((((f_LH_many s (0 : Int32) x3).1 = (f_LH_many t (0 : Int32) x3).1) → p_LH_many (f_LH_many s (0 : Int32) x3).2 (1 : Int32) x3 ∧ (p_LH_many (f_LH_many t (0 : Int32) x3).2 (1 : Int32) x3 ∧ ((((f_LH_many (f_LH_many s (0 : Int32) x3).2 (1 : Int32) x3).1 = (f_LH_many (f_LH_many t (0 : Int32) x3).2 (1 : Int32) x3).1) → p_LH_does (f_LH_many (f_LH_many s (0 : Int32) x3).2 (1 : Int32) x3).2 (4 : Int32) x3 (0 : Int32) (0 : Int32) ∧ (p_LH_does (f_LH_many (f_LH_many t (0 : Int32) x3).2 (1 : Int32) x3).2 (4 : Int32) x3 (0 : Int32) (0 : Int32) ∧ ((((f_LH_does (f_LH_many (f_LH_many s (0 : Int32) x3).2 (1 : Int32) x3).2 (4 : Int32) x3 (0 : Int32) (0 : Int32)).1 = (f_LH_does (f_LH_many (f_LH_many t (0 : Int32) x3).2 (1 : Int32) x3).2 (4 : Int32) x3 (0 : Int32) (0 : Int32)).1) → (p_LH_areAlike_280 (p_LH_areAlike_216  n) (f_LH_does (f_LH_many (f_LH_many s (0 : Int32) x3).2 (1 : Int32) x3).2 (4 : Int32) x3 (0 : Int32) (0 : Int32)).2 (f_LH_does (f_LH_many (f_LH_many t (0 : Int32) x3).2 (1 : Int32) x3).2 (4 : Int32) x3 (0 : Int32) (0 : Int32)).2 x2 x3 (1 : Int32))) ∧ (¬ ((f_LH_does (f_LH_many (f_LH_many s (0 : Int32) x3).2 (1 : Int32) x3).2 (4 : Int32) x3 (0 : Int32) (0 : Int32)).1 = (f_LH_does (f_LH_many (f_LH_many t (0 : Int32) x3).2 (1 : Int32) x3).2 (4 : Int32) x3 (0 : Int32) (0 : Int32)).1) → (p_LH_areAlike_279 (p_LH_areAlike_216  n) (f_LH_does (f_LH_many (f_LH_many s (0 : Int32) x3).2 (1 : Int32) x3).2 (4 : Int32) x3 (0 : Int32) (0 : Int32)).2 (f_LH_does (f_LH_many (f_LH_many t (0 : Int32) x3).2 (1 : Int32) x3).2 (4 : Int32) x3 (0 : Int32) (0 : Int32)).2 x2 x3))))) ∧ (¬ ((f_LH_many (f_LH_many s (0 : Int32) x3).2 (1 : Int32) x3).1 = (f_LH_many (f_LH_many t (0 : Int32) x3).2 (1 : Int32) x3).1) → (p_LH_areAlike_279 (p_LH_areAlike_216  n) (f_LH_many (f_LH_many s (0 : Int32) x3).2 (1 : Int32) x3).2 (f_LH_many (f_LH_many t (0 : Int32) x3).2 (1 : Int32) x3).2 x2 x3))))) ∧ (¬ ((f_LH_many s (0 : Int32) x3).1 = (f_LH_many t (0 : Int32) x3).1) → (p_LH_areAlike_279 (p_LH_areAlike_216  n) (f_LH_many s (0 : Int32) x3).2 (f_LH_many t (0 : Int32) x3).2 x2 x3))))))
set_option maxRecDepth 100000 in
theorem w_LH_areAlike_216 {l : Launch} {g : am_Gl} (hg : g.2.2.2.1 = true) {ad0 : Nat → Nat}  : ∀ (n : Nat) (s : am_M) (t : am_M) (x2 : Int32) (x3 : Int32) (k z : Nat), k + 12 * n ≤ 4923 → z + 72 * n ≤ 6 * 4923 → p_LH_areAlike_216  n s t x2 x3 → AW l g m_LH_areAlike 414 ad0 (am_oC2 (f_LH_areAlike_216  n s t x2 x3)) k z 414 (jn s t) 216 [(0, .ref 0), (1, .ref 207), (2, .int x2), (3, .int x3)] [] := by
  intro n
  induction n with
  | zero => intro s t x2 x3 k z _ _ h; exact h.elim
  | succ n ih =>
    intro s t x2 x3 k z hk hz h
    obtain ⟨β216, hb216⟩ : ∃ b, b + 12 * n + 0 = 4923 := ⟨4923 - (12 * n + 0), by omega⟩
    have hβ216 : β216 ≤ 4923 := by omega
    have hK216 : ∀ (s : am_M) (t : am_M) (x2 : Int32) (x3 : Int32) (k z : Nat), k ≤ β216 → z ≤ 6 * β216 → (p_LH_areAlike_216  n) s t x2 x3 → AW l g m_LH_areAlike 414 ad0 (am_oC2 ((f_LH_areAlike_216  n) s t x2 x3)) k z 414 (jn s t) 216 [(0, .ref 0), (1, .ref 207), (2, .int x2), (3, .int x3)] [] := fun s t x2 x3 k z h1 h2 h3 => ih s t x2 x3 k z (by omega) (by omega) h3
    refine am_iload_n (j := 3) d_LH_areAlike_216 rfl rfl ?_
    refine am_bipush (v := (8 : Int32)) d_LH_areAlike_217 (by decide) ?_
    refine aj_ge (F := am_oC2) (tgt := 287) d_LH_areAlike_219 (by decide) (fun c => ?_) (fun c => ?_)
    · have h := h.1 c
      refine am_iload_n (j := 2) d_LH_areAlike_287 rfl rfl ?_
      obtain ⟨hz, h⟩ := h
      exact am_iret d_LH_areAlike_288 rfl (am_bool hz).1 (by show k ≤ 4923; omega) (by show z ≤ 29538; omega) am_oC2_ok
    · have h := h.2 c
      refine am_iload_n (j := 2) d_LH_areAlike_222 rfl rfl ?_
      refine ai_eq (F := am_oC2) (tgt := 287) d_LH_areAlike_223 (by decide) (fun c => ?_) (fun c => ?_)
      · have h := h.1 c
        refine am_iload_n (j := 2) d_LH_areAlike_287 rfl rfl ?_
        obtain ⟨hz, h⟩ := h
        exact am_iret d_LH_areAlike_288 rfl (am_bool hz).1 (by show k ≤ 4923; omega) (by show z ≤ 29538; omega) am_oC2_ok
      · have h := h.2 c
        refine am_aload_n (j := 0) d_LH_areAlike_226 rfl rfl ?_
        refine am_iconst (v := (0 : Int32)) d_LH_areAlike_227 (by decide) ?_
        refine am_iload_n (j := 3) d_LH_areAlike_228 rfl rfl ?_
        obtain ⟨hc, h⟩ := h
        refine ak9_SX (as := [.ref 0, .int (0 : Int32), .int x3]) (rest := []) d_LH_areAlike_229 cw_LH_areAlike_229 rfl (am_2O hg rfl (fun A9 => am_1C (ct_LH_many (g := am_ga g A9) hg hc))) rfl rfl (Nat.le_of_ble_eq_true rfl) (by show k + 1 ≤ 4923; omega) (by show z + 6 ≤ 29538; omega) ?_
        refine am_aload_n (j := 1) d_LH_areAlike_232 rfl rfl ?_
        refine am_iconst (v := (0 : Int32)) d_LH_areAlike_233 (by decide) ?_
        refine am_iload_n (j := 3) d_LH_areAlike_234 rfl rfl ?_
        obtain ⟨hc, h⟩ := h
        refine ak9_SX (as := [.ref 207, .int (0 : Int32), .int x3]) (rest := [.int (f_LH_many s (0 : Int32) x3).1]) d_LH_areAlike_235 cw_LH_areAlike_235 rfl (am_2P (av1 := [.ref 0, .int (0 : Int32), .int x3]) hg rfl (fun _ => rfl) (fun A9 => am_1C (ct_LH_many (g := am_ga g A9) hg hc))) rfl rfl (Nat.le_of_ble_eq_true rfl) (by show k + 1 + 1 ≤ 4923; omega) (by show z + 6 + 6 ≤ 29538; omega) ?_
        refine aj_ne (F := am_oC2) (tgt := 279) d_LH_areAlike_238 (by decide) (fun c => ?_) (fun c => ?_)
        · have h := h.2 c
          exact w_LH_areAlike_279 hg hβ216 hK216 (by show k + 1 + 1 + 0 ≤ β216; omega) (by show z + 6 + 6 + 0 ≤ 6 * β216; omega) h
        · have h := h.1 c
          refine am_aload_n (j := 0) d_LH_areAlike_241 rfl rfl ?_
          refine am_iconst (v := (1 : Int32)) d_LH_areAlike_242 (by decide) ?_
          refine am_iload_n (j := 3) d_LH_areAlike_243 rfl rfl ?_
          obtain ⟨hc, h⟩ := h
          refine ak9_SX (as := [.ref 0, .int (1 : Int32), .int x3]) (rest := []) d_LH_areAlike_244 cw_LH_areAlike_244 rfl (am_2O hg rfl (fun A9 => am_1C (ct_LH_many (g := am_ga g A9) hg hc))) rfl rfl (Nat.le_of_ble_eq_true rfl) (by show k + 1 + 1 + 1 ≤ 4923; omega) (by show z + 6 + 6 + 6 ≤ 29538; omega) ?_
          refine am_aload_n (j := 1) d_LH_areAlike_247 rfl rfl ?_
          refine am_iconst (v := (1 : Int32)) d_LH_areAlike_248 (by decide) ?_
          refine am_iload_n (j := 3) d_LH_areAlike_249 rfl rfl ?_
          obtain ⟨hc, h⟩ := h
          refine ak9_SX (as := [.ref 207, .int (1 : Int32), .int x3]) (rest := [.int (f_LH_many (f_LH_many s (0 : Int32) x3).2 (1 : Int32) x3).1]) d_LH_areAlike_250 cw_LH_areAlike_250 rfl (am_2P (av1 := [.ref 0, .int (1 : Int32), .int x3]) hg rfl (fun _ => rfl) (fun A9 => am_1C (ct_LH_many (g := am_ga g A9) hg hc))) rfl rfl (Nat.le_of_ble_eq_true rfl) (by show k + 1 + 1 + 1 + 1 ≤ 4923; omega) (by show z + 6 + 6 + 6 + 6 ≤ 29538; omega) ?_
          refine aj_ne (F := am_oC2) (tgt := 279) d_LH_areAlike_253 (by decide) (fun c => ?_) (fun c => ?_)
          · have h := h.2 c
            exact w_LH_areAlike_279 hg hβ216 hK216 (by show k + 1 + 1 + 1 + 1 + 0 ≤ β216; omega) (by show z + 6 + 6 + 6 + 6 + 0 ≤ 6 * β216; omega) h
          · have h := h.1 c
            refine am_aload_n (j := 0) d_LH_areAlike_256 rfl rfl ?_
            refine am_iconst (v := (4 : Int32)) d_LH_areAlike_257 (by decide) ?_
            refine am_iload_n (j := 3) d_LH_areAlike_258 rfl rfl ?_
            refine am_iconst (v := (0 : Int32)) d_LH_areAlike_259 (by decide) ?_
            refine am_iconst (v := (0 : Int32)) d_LH_areAlike_260 (by decide) ?_
            obtain ⟨hc, h⟩ := h
            refine ak9_SX (as := [.ref 0, .int (4 : Int32), .int x3, .int (0 : Int32), .int (0 : Int32)]) (rest := []) d_LH_areAlike_261 cw_LH_areAlike_261 rfl (am_2O hg rfl (fun A9 => am_1C (ct_LH_does (g := am_ga g A9) hg hc))) rfl rfl (Nat.le_of_ble_eq_true rfl) (by show k + 1 + 1 + 1 + 1 + 4 ≤ 4923; omega) (by show z + 6 + 6 + 6 + 6 + 24 ≤ 29538; omega) ?_
            refine am_aload_n (j := 1) d_LH_areAlike_264 rfl rfl ?_
            refine am_iconst (v := (4 : Int32)) d_LH_areAlike_265 (by decide) ?_
            refine am_iload_n (j := 3) d_LH_areAlike_266 rfl rfl ?_
            refine am_iconst (v := (0 : Int32)) d_LH_areAlike_267 (by decide) ?_
            refine am_iconst (v := (0 : Int32)) d_LH_areAlike_268 (by decide) ?_
            obtain ⟨hc, h⟩ := h
            refine ak9_SX (as := [.ref 207, .int (4 : Int32), .int x3, .int (0 : Int32), .int (0 : Int32)]) (rest := [.int (f_LH_does (f_LH_many (f_LH_many s (0 : Int32) x3).2 (1 : Int32) x3).2 (4 : Int32) x3 (0 : Int32) (0 : Int32)).1]) d_LH_areAlike_269 cw_LH_areAlike_269 rfl (am_2P (av1 := [.ref 0, .int (4 : Int32), .int x3, .int (0 : Int32), .int (0 : Int32)]) hg rfl (fun _ => rfl) (fun A9 => am_1C (ct_LH_does (g := am_ga g A9) hg hc))) rfl rfl (Nat.le_of_ble_eq_true rfl) (by show k + 1 + 1 + 1 + 1 + 4 + 4 ≤ 4923; omega) (by show z + 6 + 6 + 6 + 6 + 24 + 24 ≤ 29538; omega) ?_
            refine aj_ne (F := am_oC2) (tgt := 279) d_LH_areAlike_272 (by decide) (fun c => ?_) (fun c => ?_)
            · have h := h.2 c
              exact w_LH_areAlike_279 hg hβ216 hK216 (by show k + 1 + 1 + 1 + 1 + 4 + 4 + 0 ≤ β216; omega) (by show z + 6 + 6 + 6 + 6 + 24 + 24 + 0 ≤ 6 * β216; omega) h
            · have h := h.1 c
              refine am_iconst (v := (1 : Int32)) d_LH_areAlike_275 (by decide) ?_
              refine am_goto (tgt := 280) d_LH_areAlike_276 (by decide) ?_
              exact w_LH_areAlike_280 hg hβ216 hK216 (by show k + 1 + 1 + 1 + 1 + 4 + 4 + 0 ≤ β216; omega) (by show z + 6 + 6 + 6 + 6 + 24 + 24 + 0 ≤ 6 * β216; omega) h
def f_LH_areAlike_214  (s : am_M) (t : am_M) (x2 : Int32) (x3 : Int32) : Int32 × am_M × am_M := (f_LH_areAlike_216 9 s t x2 (0 : Int32))
def p_LH_areAlike_214  (s : am_M) (t : am_M) (x2 : Int32) (x3 : Int32) : Prop := (p_LH_areAlike_216 9 s t x2 (0 : Int32))
set_option maxRecDepth 100000 in
theorem w_LH_areAlike_214 {l : Launch} {g : am_Gl} (hg : g.2.2.2.1 = true) {ad0 : Nat → Nat}  {s : am_M} {t : am_M} {x2 : Int32} {x3 : Int32} {k z : Nat} (hk : k ≤ 4815) (hz : z ≤ 28890) (h : p_LH_areAlike_214  s t x2 x3) : AW l g m_LH_areAlike 414 ad0 (am_oC2 (f_LH_areAlike_214  s t x2 x3)) k z 414 (jn s t) 214 [(0, .ref 0), (1, .ref 207), (2, .int x2), (3, .int x3)] [] := by
  refine am_iconst (v := (0 : Int32)) d_LH_areAlike_214 (by decide) ?_
  refine am_istore_n (lv2 := [(3, .int (0 : Int32)), (0, .ref 0), (1, .ref 207), (2, .int x2)]) d_LH_areAlike_215 rfl (by decide) rfl ?_
  refine am_sub [1, 2, 3, 0] (lv2 := [(0, .ref 0), (1, .ref 207), (2, .int x2), (3, .int (0 : Int32))]) rfl ?_
  exact w_LH_areAlike_216 hg  9 _ _ _ _ _ _ (by omega) (by omega) h
def f_LH_areAlike_77  : Nat → am_M → am_M → Int32 → Int32 → Int32 × am_M × am_M
  | 0, s, t, x2, x3 => (0, s, t)
  | n + 1, s, t, x2, x3 => (if (4 : Int32) ≤ x3 then (f_LH_areAlike_214 s t x2 x3) else (if x2 = 0 then (f_LH_areAlike_214 s t x2 x3) else (if (f_LH_rows s x3).1 = (f_LH_rows t x3).1 then (f_LH_areAlike_104 (f_LH_areAlike_77  n) (f_LH_rows s x3).2 (f_LH_rows t x3).2 x2 x3 (1 : Int32)) else (f_LH_areAlike_104 (f_LH_areAlike_77  n) (f_LH_rows s x3).2 (f_LH_rows t x3).2 x2 x3 (0 : Int32)))))
def p_LH_areAlike_77  : Nat → am_M → am_M → Int32 → Int32 → Prop
  | 0, s, t, x2, x3 => False
  | n + 1, s, t, x2, x3 => (((4 : Int32) ≤ x3) → (p_LH_areAlike_214 s t x2 x3)) ∧ (¬ ((4 : Int32) ≤ x3) → ((x2 = 0) → (p_LH_areAlike_214 s t x2 x3)) ∧ (¬ (x2 = 0) → p_LH_rows s x3 ∧ (p_LH_rows t x3 ∧ ((((f_LH_rows s x3).1 = (f_LH_rows t x3).1) → (p_LH_areAlike_104 (p_LH_areAlike_77  n) (f_LH_rows s x3).2 (f_LH_rows t x3).2 x2 x3 (1 : Int32))) ∧ (¬ ((f_LH_rows s x3).1 = (f_LH_rows t x3).1) → (p_LH_areAlike_104 (p_LH_areAlike_77  n) (f_LH_rows s x3).2 (f_LH_rows t x3).2 x2 x3 (0 : Int32)))))))
set_option maxRecDepth 100000 in
theorem w_LH_areAlike_77 {l : Launch} {g : am_Gl} (hg : g.2.2.2.1 = true) {ad0 : Nat → Nat}  : ∀ (n : Nat) (s : am_M) (t : am_M) (x2 : Int32) (x3 : Int32) (k z : Nat), k + 963 * n ≤ 4815 → z + 5778 * n ≤ 6 * 4815 → p_LH_areAlike_77  n s t x2 x3 → AW l g m_LH_areAlike 414 ad0 (am_oC2 (f_LH_areAlike_77  n s t x2 x3)) k z 414 (jn s t) 77 [(0, .ref 0), (1, .ref 207), (2, .int x2), (3, .int x3)] [] := by
  intro n
  induction n with
  | zero => intro s t x2 x3 k z _ _ h; exact h.elim
  | succ n ih =>
    intro s t x2 x3 k z hk hz h
    obtain ⟨β77, hb77⟩ : ∃ b, b + 963 * n + 0 = 4815 := ⟨4815 - (963 * n + 0), by omega⟩
    have hβ77 : β77 ≤ 4815 := by omega
    have hK77 : ∀ (s : am_M) (t : am_M) (x2 : Int32) (x3 : Int32) (k z : Nat), k ≤ β77 → z ≤ 6 * β77 → (p_LH_areAlike_77  n) s t x2 x3 → AW l g m_LH_areAlike 414 ad0 (am_oC2 ((f_LH_areAlike_77  n) s t x2 x3)) k z 414 (jn s t) 77 [(0, .ref 0), (1, .ref 207), (2, .int x2), (3, .int x3)] [] := fun s t x2 x3 k z h1 h2 h3 => ih s t x2 x3 k z (by omega) (by omega) h3
    refine am_iload_n (j := 3) d_LH_areAlike_77 rfl rfl ?_
    refine am_iconst (v := (4 : Int32)) d_LH_areAlike_78 (by decide) ?_
    refine aj_ge (F := am_oC2) (tgt := 214) d_LH_areAlike_79 (by decide) (fun c => ?_) (fun c => ?_)
    · have h := h.1 c
      exact w_LH_areAlike_214 hg  (by show k ≤ 4815; omega) (by show z ≤ 28890; omega) h
    · have h := h.2 c
      refine am_iload_n (j := 2) d_LH_areAlike_82 rfl rfl ?_
      refine ai_eq (F := am_oC2) (tgt := 214) d_LH_areAlike_83 (by decide) (fun c => ?_) (fun c => ?_)
      · have h := h.1 c
        exact w_LH_areAlike_214 hg  (by show k ≤ 4815; omega) (by show z ≤ 28890; omega) h
      · have h := h.2 c
        refine am_aload_n (j := 0) d_LH_areAlike_86 rfl rfl ?_
        refine am_iload_n (j := 3) d_LH_areAlike_87 rfl rfl ?_
        obtain ⟨hc, h⟩ := h
        refine ak9_SX (as := [.ref 0, .int x3]) (rest := []) d_LH_areAlike_88 cw_LH_areAlike_88 rfl (am_2O hg rfl (fun A9 => am_1C (ct_LH_rows (g := am_ga g A9) hg hc))) rfl rfl (Nat.le_of_ble_eq_true rfl) (by show k + 1 ≤ 4923; omega) (by show z + 6 ≤ 29538; omega) ?_
        refine am_aload_n (j := 1) d_LH_areAlike_91 rfl rfl ?_
        refine am_iload_n (j := 3) d_LH_areAlike_92 rfl rfl ?_
        obtain ⟨hc, h⟩ := h
        refine ak9_SX (as := [.ref 207, .int x3]) (rest := [.int (f_LH_rows s x3).1]) d_LH_areAlike_93 cw_LH_areAlike_93 rfl (am_2P (av1 := [.ref 0, .int x3]) hg rfl (fun _ => rfl) (fun A9 => am_1C (ct_LH_rows (g := am_ga g A9) hg hc))) rfl rfl (Nat.le_of_ble_eq_true rfl) (by show k + 1 + 1 ≤ 4923; omega) (by show z + 6 + 6 ≤ 29538; omega) ?_
        refine aj_ne (F := am_oC2) (tgt := 103) d_LH_areAlike_96 (by decide) (fun c => ?_) (fun c => ?_)
        · have h := h.2 c
          refine am_iconst (v := (0 : Int32)) d_LH_areAlike_103 (by decide) ?_
          exact w_LH_areAlike_104 hg hβ77 hK77 (by show k + 1 + 1 + 961 ≤ β77; omega) (by show z + 6 + 6 + 5766 ≤ 6 * β77; omega) h
        · have h := h.1 c
          refine am_iconst (v := (1 : Int32)) d_LH_areAlike_99 (by decide) ?_
          refine am_goto (tgt := 104) d_LH_areAlike_100 (by decide) ?_
          exact w_LH_areAlike_104 hg hβ77 hK77 (by show k + 1 + 1 + 961 ≤ β77; omega) (by show z + 6 + 6 + 5766 ≤ 6 * β77; omega) h
def f_LH_areAlike_74  (s : am_M) (t : am_M) (y0 : Int32) : Int32 × am_M × am_M := (f_LH_areAlike_77 5 s t y0 (0 : Int32))
def p_LH_areAlike_74  (s : am_M) (t : am_M) (y0 : Int32) : Prop := (p_LH_areAlike_77 5 s t y0 (0 : Int32))
set_option maxRecDepth 100000 in
theorem w_LH_areAlike_74 {l : Launch} {g : am_Gl} (hg : g.2.2.2.1 = true) {ad0 : Nat → Nat}  {s : am_M} {t : am_M} {y0 : Int32} {k z : Nat} (hk : k ≤ 0) (hz : z ≤ 0) (h : p_LH_areAlike_74  s t y0) : AW l g m_LH_areAlike 414 ad0 (am_oC2 (f_LH_areAlike_74  s t y0)) k z 414 (jn s t) 74 [(0, .ref 0), (1, .ref 207)] [.int y0] := by
  refine am_istore_n (lv2 := [(2, .int y0), (0, .ref 0), (1, .ref 207)]) d_LH_areAlike_74 rfl (by decide) rfl ?_
  refine am_iconst (v := (0 : Int32)) d_LH_areAlike_75 (by decide) ?_
  refine am_istore_n (lv2 := [(3, .int (0 : Int32)), (2, .int y0), (0, .ref 0), (1, .ref 207)]) d_LH_areAlike_76 rfl (by decide) rfl ?_
  refine am_sub [2, 3, 1, 0] (lv2 := [(0, .ref 0), (1, .ref 207), (2, .int y0), (3, .int (0 : Int32))]) rfl ?_
  exact w_LH_areAlike_77 hg  5 _ _ _ _ _ _ (by omega) (by omega) h
def f_LH_areAlike_73  (s : am_M) (t : am_M)  : Int32 × am_M × am_M := (f_LH_areAlike_74 s t (0 : Int32))
def p_LH_areAlike_73  (s : am_M) (t : am_M)  : Prop := (p_LH_areAlike_74 s t (0 : Int32))
set_option maxRecDepth 100000 in
theorem w_LH_areAlike_73 {l : Launch} {g : am_Gl} (hg : g.2.2.2.1 = true) {ad0 : Nat → Nat}  {s : am_M} {t : am_M}  {k z : Nat} (hk : k ≤ 0) (hz : z ≤ 0) (h : p_LH_areAlike_73  s t ) : AW l g m_LH_areAlike 414 ad0 (am_oC2 (f_LH_areAlike_73  s t )) k z 414 (jn s t) 73 [(0, .ref 0), (1, .ref 207)] [] := by
  refine am_iconst (v := (0 : Int32)) d_LH_areAlike_73 (by decide) ?_
  exact w_LH_areAlike_74 hg  (by show k ≤ 0; omega) (by show z ≤ 0; omega) h
def f_LH_areAlike (s : am_M) (t : am_M)  : Int32 × am_M × am_M := (if (f_CB_broken s).1 = 0 then (if (f_CB_broken t).1 = 0 then (if (f_CB_undoable (f_CB_broken s).2) = (f_CB_undoable (f_CB_broken t).2) then (if (f_CB_reason (f_CB_broken s).2) = (f_CB_reason (f_CB_broken t).2) then (if (f_CB_whereTable (f_CB_broken s).2) = (f_CB_whereTable (f_CB_broken t).2) then (if (f_CB_whereRow (f_CB_broken s).2) = (f_CB_whereRow (f_CB_broken t).2) then (if (f_CB_whereColumn (f_CB_broken s).2) = (f_CB_whereColumn (f_CB_broken t).2) then (f_LH_areAlike_74 (f_CB_broken s).2 (f_CB_broken t).2 (1 : Int32)) else (f_LH_areAlike_73 (f_CB_broken s).2 (f_CB_broken t).2)) else (f_LH_areAlike_73 (f_CB_broken s).2 (f_CB_broken t).2)) else (f_LH_areAlike_73 (f_CB_broken s).2 (f_CB_broken t).2)) else (f_LH_areAlike_73 (f_CB_broken s).2 (f_CB_broken t).2)) else (f_LH_areAlike_73 (f_CB_broken s).2 (f_CB_broken t).2)) else (f_LH_areAlike_73 (f_CB_broken s).2 (f_CB_broken t).2)) else (f_LH_areAlike_73 (f_CB_broken s).2 t))
def p_LH_areAlike (s : am_M) (t : am_M)  : Prop := p_CB_broken s ∧ ((((f_CB_broken s).1 = 0) → p_CB_broken t ∧ ((((f_CB_broken t).1 = 0) → (((f_CB_undoable (f_CB_broken s).2) = (f_CB_undoable (f_CB_broken t).2)) → (((f_CB_reason (f_CB_broken s).2) = (f_CB_reason (f_CB_broken t).2)) → (((f_CB_whereTable (f_CB_broken s).2) = (f_CB_whereTable (f_CB_broken t).2)) → (((f_CB_whereRow (f_CB_broken s).2) = (f_CB_whereRow (f_CB_broken t).2)) → (((f_CB_whereColumn (f_CB_broken s).2) = (f_CB_whereColumn (f_CB_broken t).2)) → (p_LH_areAlike_74 (f_CB_broken s).2 (f_CB_broken t).2 (1 : Int32))) ∧ (¬ ((f_CB_whereColumn (f_CB_broken s).2) = (f_CB_whereColumn (f_CB_broken t).2)) → (p_LH_areAlike_73 (f_CB_broken s).2 (f_CB_broken t).2))) ∧ (¬ ((f_CB_whereRow (f_CB_broken s).2) = (f_CB_whereRow (f_CB_broken t).2)) → (p_LH_areAlike_73 (f_CB_broken s).2 (f_CB_broken t).2))) ∧ (¬ ((f_CB_whereTable (f_CB_broken s).2) = (f_CB_whereTable (f_CB_broken t).2)) → (p_LH_areAlike_73 (f_CB_broken s).2 (f_CB_broken t).2))) ∧ (¬ ((f_CB_reason (f_CB_broken s).2) = (f_CB_reason (f_CB_broken t).2)) → (p_LH_areAlike_73 (f_CB_broken s).2 (f_CB_broken t).2))) ∧ (¬ ((f_CB_undoable (f_CB_broken s).2) = (f_CB_undoable (f_CB_broken t).2)) → (p_LH_areAlike_73 (f_CB_broken s).2 (f_CB_broken t).2))) ∧ (¬ ((f_CB_broken t).1 = 0) → (p_LH_areAlike_73 (f_CB_broken s).2 (f_CB_broken t).2)))) ∧ (¬ ((f_CB_broken s).1 = 0) → (p_LH_areAlike_73 (f_CB_broken s).2 t)))
set_option maxRecDepth 100000 in
theorem w_LH_areAlike {l : Launch} {g : am_Gl} (hg : g.2.2.2.1 = true) {ad0 : Nat → Nat} {s : am_M} {t : am_M}  (h : p_LH_areAlike s t ) : AW l g m_LH_areAlike 414 ad0 (am_oC2 (f_LH_areAlike s t )) 0 0 414 (jn s t) 0 [(0, .ref 0), (1, .ref 207)] [] := by
  refine am_aload_n (j := 0) d_LH_areAlike_0 rfl rfl ?_
  obtain ⟨hc, h⟩ := h
  refine ak9_V (as := []) (rest := []) d_LH_areAlike_1 cw_LH_areAlike_1 rfl (am_2O hg rfl (fun A9 => am_1C (ct_CB_broken (g := am_ga g A9) hg hc))) rfl rfl rc_1 (Nat.le_of_ble_eq_true rfl) (by show 0 + 0 ≤ 4923; omega) (by show 0 + 0 ≤ 29538; omega) ?_
  refine ai_ne (F := am_oC2) (tgt := 73) d_LH_areAlike_4 (by decide) (fun c => ?_) (fun c => ?_)
  · have h := h.2 c
    exact w_LH_areAlike_73 hg  (by show 0 + 0 ≤ 0; omega) (by show 0 + 0 ≤ 0; omega) h
  · have h := h.1 c
    refine am_aload_n (j := 1) d_LH_areAlike_7 rfl rfl ?_
    obtain ⟨hc, h⟩ := h
    refine ak9_V (as := []) (rest := []) d_LH_areAlike_8 cw_LH_areAlike_8 rfl (am_2P (av1 := [.ref 0]) hg rfl (fun _ => rfl) (fun A9 => am_1C (ct_CB_broken (g := am_ga g A9) hg hc))) rfl rfl rc_2 (Nat.le_of_ble_eq_true rfl) (by show 0 + 0 + 0 ≤ 4923; omega) (by show 0 + 0 + 0 ≤ 29538; omega) ?_
    refine ai_ne (F := am_oC2) (tgt := 73) d_LH_areAlike_11 (by decide) (fun c => ?_) (fun c => ?_)
    · have h := h.2 c
      exact w_LH_areAlike_73 hg  (by show 0 + 0 + 0 ≤ 0; omega) (by show 0 + 0 + 0 ≤ 0; omega) h
    · have h := h.1 c
      refine am_aload_n (j := 0) d_LH_areAlike_14 rfl rfl ?_
      refine ak9_V (as := []) (rest := []) d_LH_areAlike_15 cw_LH_areAlike_15 rfl (am_2O hg rfl (fun A9 => am_1I (ct_CB_undoable (g := am_ga g A9) hg))) rfl rfl rc_1 (Nat.le_of_ble_eq_true rfl) (by show 0 + 0 + 0 + 0 ≤ 4923; omega) (by show 0 + 0 + 0 + 0 ≤ 29538; omega) ?_
      refine am_aload_n (j := 1) d_LH_areAlike_18 rfl rfl ?_
      refine ak9_V (as := []) (rest := [.int (f_CB_undoable (f_CB_broken s).2)]) d_LH_areAlike_19 cw_LH_areAlike_19 rfl (am_2P (av1 := [.ref 0]) hg rfl (fun _ => rfl) (fun A9 => am_1I (ct_CB_undoable (g := am_ga g A9) hg))) rfl rfl rc_2 (Nat.le_of_ble_eq_true rfl) (by show 0 + 0 + 0 + 0 + 0 ≤ 4923; omega) (by show 0 + 0 + 0 + 0 + 0 ≤ 29538; omega) ?_
      refine aj_ne (F := am_oC2) (tgt := 73) d_LH_areAlike_22 (by decide) (fun c => ?_) (fun c => ?_)
      · have h := h.2 c
        exact w_LH_areAlike_73 hg  (by show 0 + 0 + 0 + 0 + 0 ≤ 0; omega) (by show 0 + 0 + 0 + 0 + 0 ≤ 0; omega) h
      · have h := h.1 c
        refine am_aload_n (j := 0) d_LH_areAlike_25 rfl rfl ?_
        refine ak9_V (as := []) (rest := []) d_LH_areAlike_26 cw_LH_areAlike_26 rfl (am_2O hg rfl (fun A9 => am_1I (ct_CB_reason (g := am_ga g A9) hg))) rfl rfl rc_1 (Nat.le_of_ble_eq_true rfl) (by show 0 + 0 + 0 + 0 + 0 + 0 ≤ 4923; omega) (by show 0 + 0 + 0 + 0 + 0 + 0 ≤ 29538; omega) ?_
        refine am_aload_n (j := 1) d_LH_areAlike_29 rfl rfl ?_
        refine ak9_V (as := []) (rest := [.int (f_CB_reason (f_CB_broken s).2)]) d_LH_areAlike_30 cw_LH_areAlike_30 rfl (am_2P (av1 := [.ref 0]) hg rfl (fun _ => rfl) (fun A9 => am_1I (ct_CB_reason (g := am_ga g A9) hg))) rfl rfl rc_2 (Nat.le_of_ble_eq_true rfl) (by show 0 + 0 + 0 + 0 + 0 + 0 + 0 ≤ 4923; omega) (by show 0 + 0 + 0 + 0 + 0 + 0 + 0 ≤ 29538; omega) ?_
        refine aj_ne (F := am_oC2) (tgt := 73) d_LH_areAlike_33 (by decide) (fun c => ?_) (fun c => ?_)
        · have h := h.2 c
          exact w_LH_areAlike_73 hg  (by show 0 + 0 + 0 + 0 + 0 + 0 + 0 ≤ 0; omega) (by show 0 + 0 + 0 + 0 + 0 + 0 + 0 ≤ 0; omega) h
        · have h := h.1 c
          refine am_aload_n (j := 0) d_LH_areAlike_36 rfl rfl ?_
          refine ak9_V (as := []) (rest := []) d_LH_areAlike_37 cw_LH_areAlike_37 rfl (am_2O hg rfl (fun A9 => am_1I (ct_CB_whereTable (g := am_ga g A9) hg))) rfl rfl rc_1 (Nat.le_of_ble_eq_true rfl) (by show 0 + 0 + 0 + 0 + 0 + 0 + 0 + 0 ≤ 4923; omega) (by show 0 + 0 + 0 + 0 + 0 + 0 + 0 + 0 ≤ 29538; omega) ?_
          refine am_aload_n (j := 1) d_LH_areAlike_40 rfl rfl ?_
          refine ak9_V (as := []) (rest := [.int (f_CB_whereTable (f_CB_broken s).2)]) d_LH_areAlike_41 cw_LH_areAlike_41 rfl (am_2P (av1 := [.ref 0]) hg rfl (fun _ => rfl) (fun A9 => am_1I (ct_CB_whereTable (g := am_ga g A9) hg))) rfl rfl rc_2 (Nat.le_of_ble_eq_true rfl) (by show 0 + 0 + 0 + 0 + 0 + 0 + 0 + 0 + 0 ≤ 4923; omega) (by show 0 + 0 + 0 + 0 + 0 + 0 + 0 + 0 + 0 ≤ 29538; omega) ?_
          refine aj_ne (F := am_oC2) (tgt := 73) d_LH_areAlike_44 (by decide) (fun c => ?_) (fun c => ?_)
          · have h := h.2 c
            exact w_LH_areAlike_73 hg  (by show 0 + 0 + 0 + 0 + 0 + 0 + 0 + 0 + 0 ≤ 0; omega) (by show 0 + 0 + 0 + 0 + 0 + 0 + 0 + 0 + 0 ≤ 0; omega) h
          · have h := h.1 c
            refine am_aload_n (j := 0) d_LH_areAlike_47 rfl rfl ?_
            refine ak9_V (as := []) (rest := []) d_LH_areAlike_48 cw_LH_areAlike_48 rfl (am_2O hg rfl (fun A9 => am_1I (ct_CB_whereRow (g := am_ga g A9) hg))) rfl rfl rc_1 (Nat.le_of_ble_eq_true rfl) (by show 0 + 0 + 0 + 0 + 0 + 0 + 0 + 0 + 0 + 0 ≤ 4923; omega) (by show 0 + 0 + 0 + 0 + 0 + 0 + 0 + 0 + 0 + 0 ≤ 29538; omega) ?_
            refine am_aload_n (j := 1) d_LH_areAlike_51 rfl rfl ?_
            refine ak9_V (as := []) (rest := [.int (f_CB_whereRow (f_CB_broken s).2)]) d_LH_areAlike_52 cw_LH_areAlike_52 rfl (am_2P (av1 := [.ref 0]) hg rfl (fun _ => rfl) (fun A9 => am_1I (ct_CB_whereRow (g := am_ga g A9) hg))) rfl rfl rc_2 (Nat.le_of_ble_eq_true rfl) (by show 0 + 0 + 0 + 0 + 0 + 0 + 0 + 0 + 0 + 0 + 0 ≤ 4923; omega) (by show 0 + 0 + 0 + 0 + 0 + 0 + 0 + 0 + 0 + 0 + 0 ≤ 29538; omega) ?_
            refine aj_ne (F := am_oC2) (tgt := 73) d_LH_areAlike_55 (by decide) (fun c => ?_) (fun c => ?_)
            · have h := h.2 c
              exact w_LH_areAlike_73 hg  (by show 0 + 0 + 0 + 0 + 0 + 0 + 0 + 0 + 0 + 0 + 0 ≤ 0; omega) (by show 0 + 0 + 0 + 0 + 0 + 0 + 0 + 0 + 0 + 0 + 0 ≤ 0; omega) h
            · have h := h.1 c
              refine am_aload_n (j := 0) d_LH_areAlike_58 rfl rfl ?_
              refine ak9_V (as := []) (rest := []) d_LH_areAlike_59 cw_LH_areAlike_59 rfl (am_2O hg rfl (fun A9 => am_1I (ct_CB_whereColumn (g := am_ga g A9) hg))) rfl rfl rc_1 (Nat.le_of_ble_eq_true rfl) (by show 0 + 0 + 0 + 0 + 0 + 0 + 0 + 0 + 0 + 0 + 0 + 0 ≤ 4923; omega) (by show 0 + 0 + 0 + 0 + 0 + 0 + 0 + 0 + 0 + 0 + 0 + 0 ≤ 29538; omega) ?_
              refine am_aload_n (j := 1) d_LH_areAlike_62 rfl rfl ?_
              refine ak9_V (as := []) (rest := [.int (f_CB_whereColumn (f_CB_broken s).2)]) d_LH_areAlike_63 cw_LH_areAlike_63 rfl (am_2P (av1 := [.ref 0]) hg rfl (fun _ => rfl) (fun A9 => am_1I (ct_CB_whereColumn (g := am_ga g A9) hg))) rfl rfl rc_2 (Nat.le_of_ble_eq_true rfl) (by show 0 + 0 + 0 + 0 + 0 + 0 + 0 + 0 + 0 + 0 + 0 + 0 + 0 ≤ 4923; omega) (by show 0 + 0 + 0 + 0 + 0 + 0 + 0 + 0 + 0 + 0 + 0 + 0 + 0 ≤ 29538; omega) ?_
              refine aj_ne (F := am_oC2) (tgt := 73) d_LH_areAlike_66 (by decide) (fun c => ?_) (fun c => ?_)
              · have h := h.2 c
                exact w_LH_areAlike_73 hg  (by show 0 + 0 + 0 + 0 + 0 + 0 + 0 + 0 + 0 + 0 + 0 + 0 + 0 ≤ 0; omega) (by show 0 + 0 + 0 + 0 + 0 + 0 + 0 + 0 + 0 + 0 + 0 + 0 + 0 ≤ 0; omega) h
              · have h := h.1 c
                refine am_iconst (v := (1 : Int32)) d_LH_areAlike_69 (by decide) ?_
                refine am_goto (tgt := 74) d_LH_areAlike_70 (by decide) ?_
                exact w_LH_areAlike_74 hg  (by show 0 + 0 + 0 + 0 + 0 + 0 + 0 + 0 + 0 + 0 + 0 + 0 + 0 ≤ 0; omega) (by show 0 + 0 + 0 + 0 + 0 + 0 + 0 + 0 + 0 + 0 + 0 + 0 + 0 ≤ 0; omega) h
theorem ct_LH_areAlike {l : Launch} {g : am_Gl} (hg : g.2.2.2.1 = true) {s : am_M} {t : am_M}  (h : p_LH_areAlike s t ) : AC l g m_LH_areAlike 414 (jn s t) [.ref 0, .ref 207] (am_oC2 (f_LH_areAlike s t )) := am_enter ok_LH_areAlike rfl (Nat.le_of_ble_eq_true rfl) rfl (fun ad0 => w_LH_areAlike hg h)
end

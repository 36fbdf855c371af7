noncomputable section
/-! the law's walk in the room that the statement names -/
def m_LAWr : am_Y := (x, code, 7, ret, none, 16, room_1.cells, room_1.slots, false)
theorem rm_c : 300000 ≤ room_1.cells := Nat.le_of_ble_eq_true rfl
theorem rm_s : 2000000 ≤ room_1.slots := Nat.le_of_ble_eq_true rfl
theorem lc_b9 : 2000 + lc 101 (0 : Int32) ≤ 290000 ∧ 48000 + 6 * lc 101 (0 : Int32) ≤ 6 * 290000 := by decide +kernel
theorem cw9_LAW_17 : am_cs m_LAWr m_LH_isBegun 209 1 := ⟨⟨ok_LH_isBegun, rfl, by decide +kernel, by decide, by decide⟩, aw_5_139, aw_5_140⟩
theorem cw9_LAW_24 : am_cs m_LAWr m_LH_isBegun 209 1 := ⟨⟨ok_LH_isBegun, rfl, by decide +kernel, by decide, by decide⟩, aw_5_139, aw_5_140⟩
theorem cw9_LAW_56 : am_cs m_LAWr m_LH_cell 213 2 := ⟨⟨ok_LH_cell, rfl, by decide +kernel, by decide, by decide⟩, aw_1_183, aw_1_184⟩
theorem cw9_LAW_74 : am_cs m_LAWr m_LH_act 216 2 := ⟨⟨ok_LH_act, rfl, by decide +kernel, by decide, by decide⟩, aw_1_190, aw_1_191⟩
theorem cw9_LAW_89 : am_cs m_LAWr m_LH_act 216 2 := ⟨⟨ok_LH_act, rfl, by decide +kernel, by decide, by decide⟩, aw_1_190, aw_1_191⟩
theorem cw9_LAW_107 : am_cs m_LAWr m_LH_areAlike 204 2 := ⟨⟨ok_LH_areAlike, rfl, by decide +kernel, by decide, by decide⟩, aw_5_71, aw_5_72⟩
theorem cw9_LAW_123 : am_cs m_LAWr m_LH_isOrderSo 219 1 := ⟨⟨ok_LH_isOrderSo, rfl, by decide +kernel, by decide, by decide⟩, aw_5_122, aw_5_123⟩
theorem cw9_LAW_157 : am_cs m_LAWr m_LH_low 156 2 := ⟨⟨ok_LH_low, rfl, by decide +kernel, by decide, by decide⟩, aw_1_186, aw_1_187⟩
theorem cw9_LAW_165 : am_cs m_LAWr m_LH_isAnswerSo 222 4 := ⟨⟨ok_LH_isAnswerSo, rfl, by decide +kernel, by decide, by decide⟩, aw_5_127, aw_5_128⟩
theorem cw9_LAW_205 : am_cs m_LAWr m_LH_low 156 2 := ⟨⟨ok_LH_low, rfl, by decide +kernel, by decide, by decide⟩, aw_1_186, aw_1_187⟩
theorem cw9_LAW_209 : am_cs m_LAWr m_LH_isChoiceSo 226 5 := ⟨⟨ok_LH_isChoiceSo, rfl, by decide +kernel, by decide, by decide⟩, aw_5_130, aw_5_131⟩
theorem cw9_LAW_243 : am_cs m_LAWr m_LH_low 156 2 := ⟨⟨ok_LH_low, rfl, by decide +kernel, by decide, by decide⟩, aw_1_186, aw_1_187⟩
theorem cw9_LAW_246 : am_cs m_LAWr m_LH_isActSo 230 3 := ⟨⟨ok_LH_isActSo, rfl, by decide +kernel, by decide, by decide⟩, aw_5_133, aw_5_134⟩
theorem cw9_LAW_280 : am_cs m_LAWr m_LH_low 156 2 := ⟨⟨ok_LH_low, rfl, by decide +kernel, by decide, by decide⟩, aw_1_186, aw_1_187⟩
theorem cw9_LAW_290 : am_cs m_LAWr m_LH_low 156 2 := ⟨⟨ok_LH_low, rfl, by decide +kernel, by decide, by decide⟩, aw_1_186, aw_1_187⟩
theorem cw9_LAW_298 : am_cs m_LAWr m_LH_isLostSo 234 5 := ⟨⟨ok_LH_isLostSo, rfl, by decide +kernel, by decide, by decide⟩, aw_5_136, aw_5_137⟩
theorem cw9_LAW_322 : am_cs m_LAWr m_LH_areAlike 204 2 := ⟨⟨ok_LH_areAlike, rfl, by decide +kernel, by decide, by decide⟩, aw_5_71, aw_5_72⟩
theorem cw9_LAW_329 : am_cs m_LAWr m_LH_isOrderSo 219 1 := ⟨⟨ok_LH_isOrderSo, rfl, by decide +kernel, by decide, by decide⟩, aw_5_122, aw_5_123⟩
set_option maxRecDepth 100000 in
theorem w9_LAW_310 {l : Launch} {g : am_Gl} (hg : g.2.2.2.1 = true) {ad0 : Nat → Nat} {K39 : am_M → am_M → Int32 → Int32 → Int32 × am_M × am_M} {KP39 : am_M → am_M → Int32 → Int32 → Prop} {β39 : Nat} {x3 : Int32} {x4 : Int32} {x5 : Int32} {x6 : Int32} (hβ39 : β39 ≤ 290000) (hK39 : ∀ (s : am_M) (t : am_M) (x3 : Int32) (y4 : Int32) (k z : Nat), y4 = x4 + (1 : Int32) → k ≤ β39 → z ≤ 6 * β39 → KP39 s t x3 y4 → AW l g m_LAWr 0 ad0 (am_oC2 (K39 s t x3 y4)) k z 414 (jn s t) 39 [(0, .retAddr g.2.2.2.2.1), (1, .ref 0), (2, .ref 207), (3, .int x3), (4, .int y4)] []) {s : am_M} {t : am_M}  {k z : Nat} (hk : k + (0) ≤ β39) (hz : z + (0) ≤ 6 * β39) (h : p_LAW_310 g.2.2.2.2.2.1 g.2.2.2.2.2.2 KP39 s t x3 x4 x5 x6) : AW l g m_LAWr 0 ad0 (am_oC2 (f_LAW_310 g.2.2.2.2.2.1 g.2.2.2.2.2.2 K39 s t x3 x4 x5 x6)) k z 414 (jn s t) 310 [(0, .retAddr g.2.2.2.2.1), (1, .ref 0), (2, .ref 207), (3, .int x3), (4, .int x4), (5, .int x5), (6, .int x6)] [] := by
  refine am_iinc (j := 4) (v := (x4 + (1 : Int32))) (lv2 := [(4, .int (x4 + (1 : Int32))), (0, .retAddr g.2.2.2.2.1), (1, .ref 0), (2, .ref 207), (3, .int x3), (5, .int x5), (6, .int x6)]) d_LAW_310 rfl rfl (by decide) rfl ?_
  refine am_goto (tgt := 39) d_LAW_313 (by decide) ?_
  refine am_sub [1, 2, 3, 4, 0] (lv2 := [(0, .retAddr g.2.2.2.2.1), (1, .ref 0), (2, .ref 207), (3, .int x3), (4, .int (x4 + (1 : Int32)))]) rfl ?_
  exact hK39 _ _ _ _ _ _ rfl (by show k ≤ β39; omega) (by show z ≤ 6 * β39; omega) h
set_option maxRecDepth 100000 in
theorem w9_LAW_309 {l : Launch} {g : am_Gl} (hg : g.2.2.2.1 = true) {ad0 : Nat → Nat} {K39 : am_M → am_M → Int32 → Int32 → Int32 × am_M × am_M} {KP39 : am_M → am_M → Int32 → Int32 → Prop} {β39 : Nat} {x3 : Int32} {x4 : Int32} {x5 : Int32} {x6 : Int32} {y0 : Int32} (hβ39 : β39 ≤ 290000) (hK39 : ∀ (s : am_M) (t : am_M) (x3 : Int32) (y4 : Int32) (k z : Nat), y4 = x4 + (1 : Int32) → k ≤ β39 → z ≤ 6 * β39 → KP39 s t x3 y4 → AW l g m_LAWr 0 ad0 (am_oC2 (K39 s t x3 y4)) k z 414 (jn s t) 39 [(0, .retAddr g.2.2.2.2.1), (1, .ref 0), (2, .ref 207), (3, .int x3), (4, .int y4)] []) {s : am_M} {t : am_M}  {k z : Nat} (hk : k + (0) ≤ β39) (hz : z + (0) ≤ 6 * β39) (h : p_LAW_309 g.2.2.2.2.2.1 g.2.2.2.2.2.2 KP39 s t x3 x4 x5 x6 y0) : AW l g m_LAWr 0 ad0 (am_oC2 (f_LAW_309 g.2.2.2.2.2.1 g.2.2.2.2.2.2 K39 s t x3 x4 x5 x6 y0)) k z 414 (jn s t) 309 [(0, .retAddr g.2.2.2.2.1), (1, .ref 0), (2, .ref 207), (3, .int x3), (4, .int x4), (5, .int x5), (6, .int x6)] [.int y0] := by
  refine am_istore_n (lv2 := [(3, .int y0), (0, .retAddr g.2.2.2.2.1), (1, .ref 0), (2, .ref 207), (4, .int x4), (5, .int x5), (6, .int x6)]) d_LAW_309 rfl (by decide) rfl ?_
  refine am_sub [1, 2, 3, 0, 4, 5, 6] (lv2 := [(0, .retAddr g.2.2.2.2.1), (1, .ref 0), (2, .ref 207), (3, .int y0), (4, .int x4), (5, .int x5), (6, .int x6)]) rfl ?_
  exact w9_LAW_310 hg hβ39 hK39 (by show k + (0) ≤ β39; omega) (by show z + (0) ≤ 6 * β39; omega) h
set_option maxRecDepth 100000 in
theorem w9_LAW_308 {l : Launch} {g : am_Gl} (hg : g.2.2.2.1 = true) {ad0 : Nat → Nat} {K39 : am_M → am_M → Int32 → Int32 → Int32 × am_M × am_M} {KP39 : am_M → am_M → Int32 → Int32 → Prop} {β39 : Nat} {x3 : Int32} {x4 : Int32} {x5 : Int32} {x6 : Int32} (hβ39 : β39 ≤ 290000) (hK39 : ∀ (s : am_M) (t : am_M) (x3 : Int32) (y4 : Int32) (k z : Nat), y4 = x4 + (1 : Int32) → k ≤ β39 → z ≤ 6 * β39 → KP39 s t x3 y4 → AW l g m_LAWr 0 ad0 (am_oC2 (K39 s t x3 y4)) k z 414 (jn s t) 39 [(0, .retAddr g.2.2.2.2.1), (1, .ref 0), (2, .ref 207), (3, .int x3), (4, .int y4)] []) {s : am_M} {t : am_M}  {k z : Nat} (hk : k + (0) ≤ β39) (hz : z + (0) ≤ 6 * β39) (h : p_LAW_308 g.2.2.2.2.2.1 g.2.2.2.2.2.2 KP39 s t x3 x4 x5 x6) : AW l g m_LAWr 0 ad0 (am_oC2 (f_LAW_308 g.2.2.2.2.2.1 g.2.2.2.2.2.2 K39 s t x3 x4 x5 x6)) k z 414 (jn s t) 308 [(0, .retAddr g.2.2.2.2.1), (1, .ref 0), (2, .ref 207), (3, .int x3), (4, .int x4), (5, .int x5), (6, .int x6)] [] := by
  refine am_iconst (v := (0 : Int32)) d_LAW_308 (by decide) ?_
  exact w9_LAW_309 hg hβ39 hK39 (by show k + (0) ≤ β39; omega) (by show z + (0) ≤ 6 * β39; omega) h
set_option maxRecDepth 100000 in
theorem w9_LAW_258 {l : Launch} {g : am_Gl} (hg : g.2.2.2.1 = true) {ad0 : Nat → Nat} {K39 : am_M → am_M → Int32 → Int32 → Int32 × am_M × am_M} {KP39 : am_M → am_M → Int32 → Int32 → Prop} {β39 : Nat} {x3 : Int32} {x4 : Int32} {x5 : Int32} {x6 : Int32} (hβ39 : β39 ≤ 290000) (hK39 : ∀ (s : am_M) (t : am_M) (x3 : Int32) (y4 : Int32) (k z : Nat), y4 = x4 + (1 : Int32) → k ≤ β39 → z ≤ 6 * β39 → KP39 s t x3 y4 → AW l g m_LAWr 0 ad0 (am_oC2 (K39 s t x3 y4)) k z 414 (jn s t) 39 [(0, .retAddr g.2.2.2.2.1), (1, .ref 0), (2, .ref 207), (3, .int x3), (4, .int y4)] []) {s : am_M} {t : am_M}  {k z : Nat} (hk : k + (0 + lq 13 10 160 x4) ≤ β39) (hz : z + (0 + 6 * lq 13 10 160 x4) ≤ 6 * β39) (h : p_LAW_258 g.2.2.2.2.2.1 g.2.2.2.2.2.2 KP39 s t x3 x4 x5 x6) : AW l g m_LAWr 0 ad0 (am_oC2 (f_LAW_258 g.2.2.2.2.2.1 g.2.2.2.2.2.2 K39 s t x3 x4 x5 x6)) k z 414 (jn s t) 258 [(0, .retAddr g.2.2.2.2.1), (1, .ref 0), (2, .ref 207), (3, .int x3), (4, .int x4), (5, .int x5), (6, .int x6)] [] := by
  refine am_iload (j := 4) d_LAW_258 rfl ?_
  refine am_bipush (v := (13 : Int32)) d_LAW_260 (by decide) ?_
  refine am_irem d_LAW_262 (by decide) ?_
  refine am_bipush (v := (10 : Int32)) d_LAW_263 (by decide) ?_
  refine aj_ne (F := am_oC2) (tgt := 310) d_LAW_265 (by decide) (fun c => ?_) (fun c => ?_)
  · have h := h.2 c
    exact w9_LAW_310 hg hβ39 hK39 (by show k + (0) ≤ β39; omega) (by show z + (0) ≤ 6 * β39; omega) h
  · have h := h.1 c
    have hq13 := lq_t (c := 160) c
    refine am_iload_n (j := 3) d_LAW_268 rfl rfl ?_
    refine ai_eq (F := am_oC2) (tgt := 308) d_LAW_269 (by decide) (fun c => ?_) (fun c => ?_)
    · have h := h.1 c
      exact w9_LAW_308 hg hβ39 hK39 (by show k + (0) ≤ β39; omega) (by show z + (0) ≤ 6 * β39; omega) h
    · have h := h.2 c
      refine am_aload_n (j := 1) d_LAW_272 rfl rfl ?_
      refine am_aload_n (j := 2) d_LAW_273 rfl rfl ?_
      refine am_iload (j := 5) d_LAW_274 rfl ?_
      refine am_bipush (v := (6 : Int32)) d_LAW_276 (by decide) ?_
      refine am_ishr d_LAW_278 ?_
      refine am_iconst (v := (3 : Int32)) d_LAW_279 (by decide) ?_
      obtain ⟨hc, h⟩ := h
      refine ak9_S (as := [.int (x5 >>> ((6 : Int32) &&& 31)), .int (3 : Int32)]) (rest := [.ref 207, .ref 0]) d_LAW_280 cw9_LAW_280 rfl (am_2O hg rfl (fun A9 => am_1I (ct_LH_low (g := am_ga g A9) hg hc))) rfl rfl (Nat.le_of_ble_eq_true rfl) (by have := rm_c; show k + 0 ≤ room_1.cells; omega) (by have := rm_s; show z + 0 ≤ room_1.slots; omega) ?_
      refine am_iload (j := 5) d_LAW_283 rfl ?_
      refine am_bipush (v := (9 : Int32)) d_LAW_285 (by decide) ?_
      refine am_ishr d_LAW_287 ?_
      refine am_bipush (v := (6 : Int32)) d_LAW_288 (by decide) ?_
      obtain ⟨hc, h⟩ := h
      refine ak9_S (as := [.int (x5 >>> ((9 : Int32) &&& 31)), .int (6 : Int32)]) (rest := [.int (f_LH_low s (x5 >>> ((6 : Int32) &&& 31)) (3 : Int32)), .ref 207, .ref 0]) d_LAW_290 cw9_LAW_290 rfl (am_2O hg rfl (fun A9 => am_1I (ct_LH_low (g := am_ga g A9) hg hc))) rfl rfl (Nat.le_of_ble_eq_true rfl) (by have := rm_c; show k + 0 + 0 ≤ room_1.cells; omega) (by have := rm_s; show z + 0 + 0 ≤ room_1.slots; omega) ?_
      refine am_iload (j := 5) d_LAW_293 rfl ?_
      refine am_bipush (v := (11 : Int32)) d_LAW_295 (by decide) ?_
      refine am_ishr d_LAW_297 ?_
      obtain ⟨hc, h⟩ := h
      refine ak9_S (as := [.ref 0, .ref 207, .int (f_LH_low s (x5 >>> ((6 : Int32) &&& 31)) (3 : Int32)), .int (f_LH_low s (x5 >>> ((9 : Int32) &&& 31)) (6 : Int32)), .int (x5 >>> ((11 : Int32) &&& 31))]) (rest := []) d_LAW_298 cw9_LAW_298 rfl (ct_LH_isLostSo hg hc) rfl rfl (Nat.le_of_ble_eq_true rfl) (by have := rm_c; show k + 0 + 0 + 160 ≤ room_1.cells; omega) (by have := rm_s; show z + 0 + 0 + 960 ≤ room_1.slots; omega) ?_
      refine ai_eq (F := am_oC2) (tgt := 308) d_LAW_301 (by decide) (fun c => ?_) (fun c => ?_)
      · have h := h.1 c
        exact w9_LAW_308 hg hβ39 hK39 (by show k + 0 + 0 + 160 + (0) ≤ β39; omega) (by show z + 0 + 0 + 960 + (0) ≤ 6 * β39; omega) h
      · have h := h.2 c
        refine am_iconst (v := (1 : Int32)) d_LAW_304 (by decide) ?_
        refine am_goto (tgt := 309) d_LAW_305 (by decide) ?_
        exact w9_LAW_309 hg hβ39 hK39 (by show k + 0 + 0 + 160 + (0) ≤ β39; omega) (by show z + 0 + 0 + 960 + (0) ≤ 6 * β39; omega) h
set_option maxRecDepth 100000 in
theorem w9_LAW_257 {l : Launch} {g : am_Gl} (hg : g.2.2.2.1 = true) {ad0 : Nat → Nat} {K39 : am_M → am_M → Int32 → Int32 → Int32 × am_M × am_M} {KP39 : am_M → am_M → Int32 → Int32 → Prop} {β39 : Nat} {x3 : Int32} {x4 : Int32} {x5 : Int32} {x6 : Int32} {y0 : Int32} (hβ39 : β39 ≤ 290000) (hK39 : ∀ (s : am_M) (t : am_M) (x3 : Int32) (y4 : Int32) (k z : Nat), y4 = x4 + (1 : Int32) → k ≤ β39 → z ≤ 6 * β39 → KP39 s t x3 y4 → AW l g m_LAWr 0 ad0 (am_oC2 (K39 s t x3 y4)) k z 414 (jn s t) 39 [(0, .retAddr g.2.2.2.2.1), (1, .ref 0), (2, .ref 207), (3, .int x3), (4, .int y4)] []) {s : am_M} {t : am_M}  {k z : Nat} (hk : k + (0 + lq 13 10 160 x4) ≤ β39) (hz : z + (0 + 6 * lq 13 10 160 x4) ≤ 6 * β39) (h : p_LAW_257 g.2.2.2.2.2.1 g.2.2.2.2.2.2 KP39 s t x3 x4 x5 x6 y0) : AW l g m_LAWr 0 ad0 (am_oC2 (f_LAW_257 g.2.2.2.2.2.1 g.2.2.2.2.2.2 K39 s t x3 x4 x5 x6 y0)) k z 414 (jn s t) 257 [(0, .retAddr g.2.2.2.2.1), (1, .ref 0), (2, .ref 207), (3, .int x3), (4, .int x4), (5, .int x5), (6, .int x6)] [.int y0] := by
  refine am_istore_n (lv2 := [(3, .int y0), (0, .retAddr g.2.2.2.2.1), (1, .ref 0), (2, .ref 207), (4, .int x4), (5, .int x5), (6, .int x6)]) d_LAW_257 rfl (by decide) rfl ?_
  refine am_sub [1, 2, 3, 0, 4, 5, 6] (lv2 := [(0, .retAddr g.2.2.2.2.1), (1, .ref 0), (2, .ref 207), (3, .int y0), (4, .int x4), (5, .int x5), (6, .int x6)]) rfl ?_
  exact w9_LAW_258 hg hβ39 hK39 (by show k + (0 + lq 13 10 160 x4) ≤ β39; omega) (by show z + (0 + 6 * lq 13 10 160 x4) ≤ 6 * β39; omega) h
set_option maxRecDepth 100000 in
theorem w9_LAW_256 {l : Launch} {g : am_Gl} (hg : g.2.2.2.1 = true) {ad0 : Nat → Nat} {K39 : am_M → am_M → Int32 → Int32 → Int32 × am_M × am_M} {KP39 : am_M → am_M → Int32 → Int32 → Prop} {β39 : Nat} {x3 : Int32} {x4 : Int32} {x5 : Int32} {x6 : Int32} (hβ39 : β39 ≤ 290000) (hK39 : ∀ (s : am_M) (t : am_M) (x3 : Int32) (y4 : Int32) (k z : Nat), y4 = x4 + (1 : Int32) → k ≤ β39 → z ≤ 6 * β39 → KP39 s t x3 y4 → AW l g m_LAWr 0 ad0 (am_oC2 (K39 s t x3 y4)) k z 414 (jn s t) 39 [(0, .retAddr g.2.2.2.2.1), (1, .ref 0), (2, .ref 207), (3, .int x3), (4, .int y4)] []) {s : am_M} {t : am_M}  {k z : Nat} (hk : k + (0 + lq 13 10 160 x4) ≤ β39) (hz : z + (0 + 6 * lq 13 10 160 x4) ≤ 6 * β39) (h : p_LAW_256 g.2.2.2.2.2.1 g.2.2.2.2.2.2 KP39 s t x3 x4 x5 x6) : AW l g m_LAWr 0 ad0 (am_oC2 (f_LAW_256 g.2.2.2.2.2.1 g.2.2.2.2.2.2 K39 s t x3 x4 x5 x6)) k z 414 (jn s t) 256 [(0, .retAddr g.2.2.2.2.1), (1, .ref 0), (2, .ref 207), (3, .int x3), (4, .int x4), (5, .int x5), (6, .int x6)] [] := by
  refine am_iconst (v := (0 : Int32)) d_LAW_256 (by decide) ?_
  exact w9_LAW_257 hg hβ39 hK39 (by show k + (0 + lq 13 10 160 x4) ≤ β39; omega) (by show z + (0 + 6 * lq 13 10 160 x4) ≤ 6 * β39; omega) h
set_option maxRecDepth 100000 in
theorem w9_LAW_221 {l : Launch} {g : am_Gl} (hg : g.2.2.2.1 = true) {ad0 : Nat → Nat} {K39 : am_M → am_M → Int32 → Int32 → Int32 × am_M × am_M} {KP39 : am_M → am_M → Int32 → Int32 → Prop} {β39 : Nat} {x3 : Int32} {x4 : Int32} {x5 : Int32} {x6 : Int32} (hβ39 : β39 ≤ 290000) (hK39 : ∀ (s : am_M) (t : am_M) (x3 : Int32) (y4 : Int32) (k z : Nat), y4 = x4 + (1 : Int32) → k ≤ β39 → z ≤ 6 * β39 → KP39 s t x3 y4 → AW l g m_LAWr 0 ad0 (am_oC2 (K39 s t x3 y4)) k z 414 (jn s t) 39 [(0, .retAddr g.2.2.2.2.1), (1, .ref 0), (2, .ref 207), (3, .int x3), (4, .int y4)] []) {s : am_M} {t : am_M}  {k z : Nat} (hk : k + (0 + lq 8 6 4936 x4 + lq 13 10 160 x4) ≤ β39) (hz : z + (0 + 6 * lq 8 6 4936 x4 + 6 * lq 13 10 160 x4) ≤ 6 * β39) (h : p_LAW_221 g.2.2.2.2.2.1 g.2.2.2.2.2.2 KP39 s t x3 x4 x5 x6) : AW l g m_LAWr 0 ad0 (am_oC2 (f_LAW_221 g.2.2.2.2.2.1 g.2.2.2.2.2.2 K39 s t x3 x4 x5 x6)) k z 414 (jn s t) 221 [(0, .retAddr g.2.2.2.2.1), (1, .ref 0), (2, .ref 207), (3, .int x3), (4, .int x4), (5, .int x5), (6, .int x6)] [] := by
  refine am_iload (j := 4) d_LAW_221 rfl ?_
  refine am_bipush (v := (8 : Int32)) d_LAW_223 (by decide) ?_
  refine am_irem d_LAW_225 (by decide) ?_
  refine am_bipush (v := (6 : Int32)) d_LAW_226 (by decide) ?_
  refine aj_ne (F := am_oC2) (tgt := 258) d_LAW_228 (by decide) (fun c => ?_) (fun c => ?_)
  · have h := h.2 c
    exact w9_LAW_258 hg hβ39 hK39 (by show k + (0 + lq 13 10 160 x4) ≤ β39; omega) (by show z + (0 + 6 * lq 13 10 160 x4) ≤ 6 * β39; omega) h
  · have h := h.1 c
    have hq8 := lq_t (c := 4936) c
    refine am_iload_n (j := 3) d_LAW_231 rfl rfl ?_
    refine ai_eq (F := am_oC2) (tgt := 256) d_LAW_232 (by decide) (fun c => ?_) (fun c => ?_)
    · have h := h.1 c
      exact w9_LAW_256 hg hβ39 hK39 (by show k + (0 + lq 13 10 160 x4) ≤ β39; omega) (by show z + (0 + 6 * lq 13 10 160 x4) ≤ 6 * β39; omega) h
    · have h := h.2 c
      refine am_aload_n (j := 1) d_LAW_235 rfl rfl ?_
      refine am_aload_n (j := 2) d_LAW_236 rfl rfl ?_
      refine am_iload (j := 5) d_LAW_237 rfl ?_
      refine am_bipush (v := (6 : Int32)) d_LAW_239 (by decide) ?_
      refine am_ishr d_LAW_241 ?_
      refine am_iconst (v := (3 : Int32)) d_LAW_242 (by decide) ?_
      obtain ⟨hc, h⟩ := h
      refine ak9_S (as := [.int (x5 >>> ((6 : Int32) &&& 31)), .int (3 : Int32)]) (rest := [.ref 207, .ref 0]) d_LAW_243 cw9_LAW_243 rfl (am_2O hg rfl (fun A9 => am_1I (ct_LH_low (g := am_ga g A9) hg hc))) rfl rfl (Nat.le_of_ble_eq_true rfl) (by have := rm_c; show k + 0 ≤ room_1.cells; omega) (by have := rm_s; show z + 0 ≤ room_1.slots; omega) ?_
      obtain ⟨hc, h⟩ := h
      refine ak9_S (as := [.ref 0, .ref 207, .int (f_LH_low s (x5 >>> ((6 : Int32) &&& 31)) (3 : Int32))]) (rest := []) d_LAW_246 cw9_LAW_246 rfl (ct_LH_isActSo hg hc) rfl rfl (Nat.le_of_ble_eq_true rfl) (by have := rm_c; show k + 0 + 4936 ≤ room_1.cells; omega) (by have := rm_s; show z + 0 + 29616 ≤ room_1.slots; omega) ?_
      refine ai_eq (F := am_oC2) (tgt := 256) d_LAW_249 (by decide) (fun c => ?_) (fun c => ?_)
      · have h := h.1 c
        exact w9_LAW_256 hg hβ39 hK39 (by show k + 0 + 4936 + (0 + lq 13 10 160 x4) ≤ β39; omega) (by show z + 0 + 29616 + (0 + 6 * lq 13 10 160 x4) ≤ 6 * β39; omega) h
      · have h := h.2 c
        refine am_iconst (v := (1 : Int32)) d_LAW_252 (by decide) ?_
        refine am_goto (tgt := 257) d_LAW_253 (by decide) ?_
        exact w9_LAW_257 hg hβ39 hK39 (by show k + 0 + 4936 + (0 + lq 13 10 160 x4) ≤ β39; omega) (by show z + 0 + 29616 + (0 + 6 * lq 13 10 160 x4) ≤ 6 * β39; omega) h
set_option maxRecDepth 100000 in
theorem w9_LAW_220 {l : Launch} {g : am_Gl} (hg : g.2.2.2.1 = true) {ad0 : Nat → Nat} {K39 : am_M → am_M → Int32 → Int32 → Int32 × am_M × am_M} {KP39 : am_M → am_M → Int32 → Int32 → Prop} {β39 : Nat} {x3 : Int32} {x4 : Int32} {x5 : Int32} {x6 : Int32} {y0 : Int32} (hβ39 : β39 ≤ 290000) (hK39 : ∀ (s : am_M) (t : am_M) (x3 : Int32) (y4 : Int32) (k z : Nat), y4 = x4 + (1 : Int32) → k ≤ β39 → z ≤ 6 * β39 → KP39 s t x3 y4 → AW l g m_LAWr 0 ad0 (am_oC2 (K39 s t x3 y4)) k z 414 (jn s t) 39 [(0, .retAddr g.2.2.2.2.1), (1, .ref 0), (2, .ref 207), (3, .int x3), (4, .int y4)] []) {s : am_M} {t : am_M}  {k z : Nat} (hk : k + (0 + lq 8 6 4936 x4 + lq 13 10 160 x4) ≤ β39) (hz : z + (0 + 6 * lq 8 6 4936 x4 + 6 * lq 13 10 160 x4) ≤ 6 * β39) (h : p_LAW_220 g.2.2.2.2.2.1 g.2.2.2.2.2.2 KP39 s t x3 x4 x5 x6 y0) : AW l g m_LAWr 0 ad0 (am_oC2 (f_LAW_220 g.2.2.2.2.2.1 g.2.2.2.2.2.2 K39 s t x3 x4 x5 x6 y0)) k z 414 (jn s t) 220 [(0, .retAddr g.2.2.2.2.1), (1, .ref 0), (2, .ref 207), (3, .int x3), (4, .int x4), (5, .int x5), (6, .int x6)] [.int y0] := by
  refine am_istore_n (lv2 := [(3, .int y0), (0, .retAddr g.2.2.2.2.1), (1, .ref 0), (2, .ref 207), (4, .int x4), (5, .int x5), (6, .int x6)]) d_LAW_220 rfl (by decide) rfl ?_
  refine am_sub [1, 2, 3, 0, 4, 5, 6] (lv2 := [(0, .retAddr g.2.2.2.2.1), (1, .ref 0), (2, .ref 207), (3, .int y0), (4, .int x4), (5, .int x5), (6, .int x6)]) rfl ?_
  exact w9_LAW_221 hg hβ39 hK39 (by show k + (0 + lq 8 6 4936 x4 + lq 13 10 160 x4) ≤ β39; omega) (by show z + (0 + 6 * lq 8 6 4936 x4 + 6 * lq 13 10 160 x4) ≤ 6 * β39; omega) h
set_option maxRecDepth 100000 in
theorem w9_LAW_219 {l : Launch} {g : am_Gl} (hg : g.2.2.2.1 = true) {ad0 : Nat → Nat} {K39 : am_M → am_M → Int32 → Int32 → Int32 × am_M × am_M} {KP39 : am_M → am_M → Int32 → Int32 → Prop} {β39 : Nat} {x3 : Int32} {x4 : Int32} {x5 : Int32} {x6 : Int32} (hβ39 : β39 ≤ 290000) (hK39 : ∀ (s : am_M) (t : am_M) (x3 : Int32) (y4 : Int32) (k z : Nat), y4 = x4 + (1 : Int32) → k ≤ β39 → z ≤ 6 * β39 → KP39 s t x3 y4 → AW l g m_LAWr 0 ad0 (am_oC2 (K39 s t x3 y4)) k z 414 (jn s t) 39 [(0, .retAddr g.2.2.2.2.1), (1, .ref 0), (2, .ref 207), (3, .int x3), (4, .int y4)] []) {s : am_M} {t : am_M}  {k z : Nat} (hk : k + (0 + lq 8 6 4936 x4 + lq 13 10 160 x4) ≤ β39) (hz : z + (0 + 6 * lq 8 6 4936 x4 + 6 * lq 13 10 160 x4) ≤ 6 * β39) (h : p_LAW_219 g.2.2.2.2.2.1 g.2.2.2.2.2.2 KP39 s t x3 x4 x5 x6) : AW l g m_LAWr 0 ad0 (am_oC2 (f_LAW_219 g.2.2.2.2.2.1 g.2.2.2.2.2.2 K39 s t x3 x4 x5 x6)) k z 414 (jn s t) 219 [(0, .retAddr g.2.2.2.2.1), (1, .ref 0), (2, .ref 207), (3, .int x3), (4, .int x4), (5, .int x5), (6, .int x6)] [] := by
  refine am_iconst (v := (0 : Int32)) d_LAW_219 (by decide) ?_
  exact w9_LAW_220 hg hβ39 hK39 (by show k + (0 + lq 8 6 4936 x4 + lq 13 10 160 x4) ≤ β39; omega) (by show z + (0 + 6 * lq 8 6 4936 x4 + 6 * lq 13 10 160 x4) ≤ 6 * β39; omega) h
set_option maxRecDepth 100000 in
theorem w9_LAW_177 {l : Launch} {g : am_Gl} (hg : g.2.2.2.1 = true) {ad0 : Nat → Nat} {K39 : am_M → am_M → Int32 → Int32 → Int32 × am_M × am_M} {KP39 : am_M → am_M → Int32 → Int32 → Prop} {β39 : Nat} {x3 : Int32} {x4 : Int32} {x5 : Int32} {x6 : Int32} (hβ39 : β39 ≤ 290000) (hK39 : ∀ (s : am_M) (t : am_M) (x3 : Int32) (y4 : Int32) (k z : Nat), y4 = x4 + (1 : Int32) → k ≤ β39 → z ≤ 6 * β39 → KP39 s t x3 y4 → AW l g m_LAWr 0 ad0 (am_oC2 (K39 s t x3 y4)) k z 414 (jn s t) 39 [(0, .retAddr g.2.2.2.2.1), (1, .ref 0), (2, .ref 207), (3, .int x3), (4, .int y4)] []) {s : am_M} {t : am_M}  {k z : Nat} (hk : k + (0 + lq 9 5 98 x4 + lq 8 6 4936 x4 + lq 13 10 160 x4) ≤ β39) (hz : z + (0 + 6 * lq 9 5 98 x4 + 6 * lq 8 6 4936 x4 + 6 * lq 13 10 160 x4) ≤ 6 * β39) (h : p_LAW_177 g.2.2.2.2.2.1 g.2.2.2.2.2.2 KP39 s t x3 x4 x5 x6) : AW l g m_LAWr 0 ad0 (am_oC2 (f_LAW_177 g.2.2.2.2.2.1 g.2.2.2.2.2.2 K39 s t x3 x4 x5 x6)) k z 414 (jn s t) 177 [(0, .retAddr g.2.2.2.2.1), (1, .ref 0), (2, .ref 207), (3, .int x3), (4, .int x4), (5, .int x5), (6, .int x6)] [] := by
  refine am_iload (j := 4) d_LAW_177 rfl ?_
  refine am_bipush (v := (9 : Int32)) d_LAW_179 (by decide) ?_
  refine am_irem d_LAW_181 (by decide) ?_
  refine am_iconst (v := (5 : Int32)) d_LAW_182 (by decide) ?_
  refine aj_ne (F := am_oC2) (tgt := 221) d_LAW_183 (by decide) (fun c => ?_) (fun c => ?_)
  · have h := h.2 c
    exact w9_LAW_221 hg hβ39 hK39 (by show k + (0 + lq 8 6 4936 x4 + lq 13 10 160 x4) ≤ β39; omega) (by show z + (0 + 6 * lq 8 6 4936 x4 + 6 * lq 13 10 160 x4) ≤ 6 * β39; omega) h
  · have h := h.1 c
    have hq9 := lq_t (c := 98) c
    refine am_iload_n (j := 3) d_LAW_186 rfl rfl ?_
    refine ai_eq (F := am_oC2) (tgt := 219) d_LAW_187 (by decide) (fun c => ?_) (fun c => ?_)
    · have h := h.1 c
      exact w9_LAW_219 hg hβ39 hK39 (by show k + (0 + lq 8 6 4936 x4 + lq 13 10 160 x4) ≤ β39; omega) (by show z + (0 + 6 * lq 8 6 4936 x4 + 6 * lq 13 10 160 x4) ≤ 6 * β39; omega) h
    · have h := h.2 c
      refine am_aload_n (j := 1) d_LAW_190 rfl rfl ?_
      refine am_aload_n (j := 2) d_LAW_191 rfl rfl ?_
      refine am_iload (j := 5) d_LAW_192 rfl ?_
      refine am_bipush (v := (6 : Int32)) d_LAW_194 (by decide) ?_
      refine am_ishr d_LAW_196 ?_
      refine am_iconst (v := (1 : Int32)) d_LAW_197 (by decide) ?_
      refine am_iand d_LAW_198 ?_
      refine am_iload (j := 5) d_LAW_199 rfl ?_
      refine am_bipush (v := (8 : Int32)) d_LAW_201 (by decide) ?_
      refine am_ishr d_LAW_203 ?_
      refine am_iconst (v := (5 : Int32)) d_LAW_204 (by decide) ?_
      obtain ⟨hc, h⟩ := h
      refine ak9_S (as := [.int (x5 >>> ((8 : Int32) &&& 31)), .int (5 : Int32)]) (rest := [.int ((x5 >>> ((6 : Int32) &&& 31)) &&& (1 : Int32)), .ref 207, .ref 0]) d_LAW_205 cw9_LAW_205 rfl (am_2O hg rfl (fun A9 => am_1I (ct_LH_low (g := am_ga g A9) hg hc))) rfl rfl (Nat.le_of_ble_eq_true rfl) (by have := rm_c; show k + 0 ≤ room_1.cells; omega) (by have := rm_s; show z + 0 ≤ room_1.slots; omega) ?_
      refine am_iconst (v := (1 : Int32)) d_LAW_208 (by decide) ?_
      obtain ⟨hc, h⟩ := h
      refine ak9_S (as := [.ref 0, .ref 207, .int ((x5 >>> ((6 : Int32) &&& 31)) &&& (1 : Int32)), .int (f_LH_low s (x5 >>> ((8 : Int32) &&& 31)) (5 : Int32)), .int (1 : Int32)]) (rest := []) d_LAW_209 cw9_LAW_209 rfl (ct_LH_isChoiceSo hg hc) rfl rfl (Nat.le_of_ble_eq_true rfl) (by have := rm_c; show k + 0 + 98 ≤ room_1.cells; omega) (by have := rm_s; show z + 0 + 588 ≤ room_1.slots; omega) ?_
      refine ai_eq (F := am_oC2) (tgt := 219) d_LAW_212 (by decide) (fun c => ?_) (fun c => ?_)
      · have h := h.1 c
        exact w9_LAW_219 hg hβ39 hK39 (by show k + 0 + 98 + (0 + lq 8 6 4936 x4 + lq 13 10 160 x4) ≤ β39; omega) (by show z + 0 + 588 + (0 + 6 * lq 8 6 4936 x4 + 6 * lq 13 10 160 x4) ≤ 6 * β39; omega) h
      · have h := h.2 c
        refine am_iconst (v := (1 : Int32)) d_LAW_215 (by decide) ?_
        refine am_goto (tgt := 220) d_LAW_216 (by decide) ?_
        exact w9_LAW_220 hg hβ39 hK39 (by show k + 0 + 98 + (0 + lq 8 6 4936 x4 + lq 13 10 160 x4) ≤ β39; omega) (by show z + 0 + 588 + (0 + 6 * lq 8 6 4936 x4 + 6 * lq 13 10 160 x4) ≤ 6 * β39; omega) h
set_option maxRecDepth 100000 in
theorem w9_LAW_176 {l : Launch} {g : am_Gl} (hg : g.2.2.2.1 = true) {ad0 : Nat → Nat} {K39 : am_M → am_M → Int32 → Int32 → Int32 × am_M × am_M} {KP39 : am_M → am_M → Int32 → Int32 → Prop} {β39 : Nat} {x3 : Int32} {x4 : Int32} {x5 : Int32} {x6 : Int32} {y0 : Int32} (hβ39 : β39 ≤ 290000) (hK39 : ∀ (s : am_M) (t : am_M) (x3 : Int32) (y4 : Int32) (k z : Nat), y4 = x4 + (1 : Int32) → k ≤ β39 → z ≤ 6 * β39 → KP39 s t x3 y4 → AW l g m_LAWr 0 ad0 (am_oC2 (K39 s t x3 y4)) k z 414 (jn s t) 39 [(0, .retAddr g.2.2.2.2.1), (1, .ref 0), (2, .ref 207), (3, .int x3), (4, .int y4)] []) {s : am_M} {t : am_M}  {k z : Nat} (hk : k + (0 + lq 9 5 98 x4 + lq 8 6 4936 x4 + lq 13 10 160 x4) ≤ β39) (hz : z + (0 + 6 * lq 9 5 98 x4 + 6 * lq 8 6 4936 x4 + 6 * lq 13 10 160 x4) ≤ 6 * β39) (h : p_LAW_176 g.2.2.2.2.2.1 g.2.2.2.2.2.2 KP39 s t x3 x4 x5 x6 y0) : AW l g m_LAWr 0 ad0 (am_oC2 (f_LAW_176 g.2.2.2.2.2.1 g.2.2.2.2.2.2 K39 s t x3 x4 x5 x6 y0)) k z 414 (jn s t) 176 [(0, .retAddr g.2.2.2.2.1), (1, .ref 0), (2, .ref 207), (3, .int x3), (4, .int x4), (5, .int x5), (6, .int x6)] [.int y0] := by
  refine am_istore_n (lv2 := [(3, .int y0), (0, .retAddr g.2.2.2.2.1), (1, .ref 0), (2, .ref 207), (4, .int x4), (5, .int x5), (6, .int x6)]) d_LAW_176 rfl (by decide) rfl ?_
  refine am_sub [1, 2, 3, 0, 4, 5, 6] (lv2 := [(0, .retAddr g.2.2.2.2.1), (1, .ref 0), (2, .ref 207), (3, .int y0), (4, .int x4), (5, .int x5), (6, .int x6)]) rfl ?_
  exact w9_LAW_177 hg hβ39 hK39 (by show k + (0 + lq 9 5 98 x4 + lq 8 6 4936 x4 + lq 13 10 160 x4) ≤ β39; omega) (by show z + (0 + 6 * lq 9 5 98 x4 + 6 * lq 8 6 4936 x4 + 6 * lq 13 10 160 x4) ≤ 6 * β39; omega) h
set_option maxRecDepth 100000 in
theorem w9_LAW_175 {l : Launch} {g : am_Gl} (hg : g.2.2.2.1 = true) {ad0 : Nat → Nat} {K39 : am_M → am_M → Int32 → Int32 → Int32 × am_M × am_M} {KP39 : am_M → am_M → Int32 → Int32 → Prop} {β39 : Nat} {x3 : Int32} {x4 : Int32} {x5 : Int32} {x6 : Int32} (hβ39 : β39 ≤ 290000) (hK39 : ∀ (s : am_M) (t : am_M) (x3 : Int32) (y4 : Int32) (k z : Nat), y4 = x4 + (1 : Int32) → k ≤ β39 → z ≤ 6 * β39 → KP39 s t x3 y4 → AW l g m_LAWr 0 ad0 (am_oC2 (K39 s t x3 y4)) k z 414 (jn s t) 39 [(0, .retAddr g.2.2.2.2.1), (1, .ref 0), (2, .ref 207), (3, .int x3), (4, .int y4)] []) {s : am_M} {t : am_M}  {k z : Nat} (hk : k + (0 + lq 9 5 98 x4 + lq 8 6 4936 x4 + lq 13 10 160 x4) ≤ β39) (hz : z + (0 + 6 * lq 9 5 98 x4 + 6 * lq 8 6 4936 x4 + 6 * lq 13 10 160 x4) ≤ 6 * β39) (h : p_LAW_175 g.2.2.2.2.2.1 g.2.2.2.2.2.2 KP39 s t x3 x4 x5 x6) : AW l g m_LAWr 0 ad0 (am_oC2 (f_LAW_175 g.2.2.2.2.2.1 g.2.2.2.2.2.2 K39 s t x3 x4 x5 x6)) k z 414 (jn s t) 175 [(0, .retAddr g.2.2.2.2.1), (1, .ref 0), (2, .ref 207), (3, .int x3), (4, .int x4), (5, .int x5), (6, .int x6)] [] := by
  refine am_iconst (v := (0 : Int32)) d_LAW_175 (by decide) ?_
  exact w9_LAW_176 hg hβ39 hK39 (by show k + (0 + lq 9 5 98 x4 + lq 8 6 4936 x4 + lq 13 10 160 x4) ≤ β39; omega) (by show z + (0 + 6 * lq 9 5 98 x4 + 6 * lq 8 6 4936 x4 + 6 * lq 13 10 160 x4) ≤ 6 * β39; omega) h
set_option maxRecDepth 100000 in
theorem w9_LAW_134 {l : Launch} {g : am_Gl} (hg : g.2.2.2.1 = true) {ad0 : Nat → Nat} {K39 : am_M → am_M → Int32 → Int32 → Int32 × am_M × am_M} {KP39 : am_M → am_M → Int32 → Int32 → Prop} {β39 : Nat} {x3 : Int32} {x4 : Int32} {x5 : Int32} {x6 : Int32} {y0 : Int32} (hβ39 : β39 ≤ 290000) (hK39 : ∀ (s : am_M) (t : am_M) (x3 : Int32) (y4 : Int32) (k z : Nat), y4 = x4 + (1 : Int32) → k ≤ β39 → z ≤ 6 * β39 → KP39 s t x3 y4 → AW l g m_LAWr 0 ad0 (am_oC2 (K39 s t x3 y4)) k z 414 (jn s t) 39 [(0, .retAddr g.2.2.2.2.1), (1, .ref 0), (2, .ref 207), (3, .int x3), (4, .int y4)] []) {s : am_M} {t : am_M}  {k z : Nat} (hk : k + (0 + lq 7 4 38 x4 + lq 9 5 98 x4 + lq 8 6 4936 x4 + lq 13 10 160 x4) ≤ β39) (hz : z + (0 + 6 * lq 7 4 38 x4 + 6 * lq 9 5 98 x4 + 6 * lq 8 6 4936 x4 + 6 * lq 13 10 160 x4) ≤ 6 * β39) (h : p_LAW_134 g.2.2.2.2.2.1 g.2.2.2.2.2.2 KP39 s t x3 x4 x5 x6 y0) : AW l g m_LAWr 0 ad0 (am_oC2 (f_LAW_134 g.2.2.2.2.2.1 g.2.2.2.2.2.2 K39 s t x3 x4 x5 x6 y0)) k z 414 (jn s t) 134 [(0, .retAddr g.2.2.2.2.1), (1, .ref 0), (2, .ref 207), (3, .int x3), (4, .int x4), (5, .int x5), (6, .int x6)] [.int y0] := by
  refine am_istore_n (lv2 := [(3, .int y0), (0, .retAddr g.2.2.2.2.1), (1, .ref 0), (2, .ref 207), (4, .int x4), (5, .int x5), (6, .int x6)]) d_LAW_134 rfl (by decide) rfl ?_
  refine am_iload (j := 4) d_LAW_135 rfl ?_
  refine am_bipush (v := (7 : Int32)) d_LAW_137 (by decide) ?_
  refine am_irem d_LAW_139 (by decide) ?_
  refine am_iconst (v := (4 : Int32)) d_LAW_140 (by decide) ?_
  refine aj_ne (F := am_oC2) (tgt := 177) d_LAW_141 (by decide) (fun c => ?_) (fun c => ?_)
  · have h := h.2 c
    refine am_sub [1, 2, 3, 0, 4, 5, 6] (lv2 := [(0, .retAddr g.2.2.2.2.1), (1, .ref 0), (2, .ref 207), (3, .int y0), (4, .int x4), (5, .int x5), (6, .int x6)]) rfl ?_
    exact w9_LAW_177 hg hβ39 hK39 (by show k + (0 + lq 9 5 98 x4 + lq 8 6 4936 x4 + lq 13 10 160 x4) ≤ β39; omega) (by show z + (0 + 6 * lq 9 5 98 x4 + 6 * lq 8 6 4936 x4 + 6 * lq 13 10 160 x4) ≤ 6 * β39; omega) h
  · have h := h.1 c
    have hq7 := lq_t (c := 38) c
    refine am_iload_n (j := 0) d_LAW_144 rfl rfl ?_
    refine ai_eq (F := am_oC2) (tgt := 175) d_LAW_145 (by decide) (fun c => ?_) (fun c => ?_)
    · have h := h.1 c
      refine am_sub [1, 2, 3, 0, 4, 5, 6] (lv2 := [(0, .retAddr g.2.2.2.2.1), (1, .ref 0), (2, .ref 207), (3, .int y0), (4, .int x4), (5, .int x5), (6, .int x6)]) rfl ?_
      exact w9_LAW_175 hg hβ39 hK39 (by show k + (0 + lq 9 5 98 x4 + lq 8 6 4936 x4 + lq 13 10 160 x4) ≤ β39; omega) (by show z + (0 + 6 * lq 9 5 98 x4 + 6 * lq 8 6 4936 x4 + 6 * lq 13 10 160 x4) ≤ 6 * β39; omega) h
    · have h := h.2 c
      refine am_aload_n (j := 2) d_LAW_148 rfl rfl ?_
      refine am_aload_n (j := 3) d_LAW_149 rfl rfl ?_
      refine am_iload (j := 5) d_LAW_150 rfl ?_
      refine am_bipush (v := (6 : Int32)) d_LAW_152 (by decide) ?_
      refine am_ishr d_LAW_154 ?_
      refine am_bipush (v := (6 : Int32)) d_LAW_155 (by decide) ?_
      obtain ⟨hc, h⟩ := h
      refine ak9_S (as := [.int (x5 >>> ((6 : Int32) &&& 31)), .int (6 : Int32)]) (rest := [.ref 207, .ref 0]) d_LAW_157 cw9_LAW_157 rfl (am_2O hg rfl (fun A9 => am_1I (ct_LH_low (g := am_ga g A9) hg hc))) rfl rfl (Nat.le_of_ble_eq_true rfl) (by have := rm_c; show k + 0 ≤ room_1.cells; omega) (by have := rm_s; show z + 0 ≤ room_1.slots; omega) ?_
      refine am_iload (j := 5) d_LAW_160 rfl ?_
      refine am_bipush (v := (9 : Int32)) d_LAW_162 (by decide) ?_
      refine am_ishr d_LAW_164 ?_
      obtain ⟨hc, h⟩ := h
      refine ak9_S (as := [.ref 0, .ref 207, .int (f_LH_low s (x5 >>> ((6 : Int32) &&& 31)) (6 : Int32)), .int (x5 >>> ((9 : Int32) &&& 31))]) (rest := []) d_LAW_165 cw9_LAW_165 rfl (ct_LH_isAnswerSo hg hc) rfl rfl (Nat.le_of_ble_eq_true rfl) (by have := rm_c; show k + 0 + 38 ≤ room_1.cells; omega) (by have := rm_s; show z + 0 + 228 ≤ room_1.slots; omega) ?_
      refine ai_eq (F := am_oC2) (tgt := 175) d_LAW_168 (by decide) (fun c => ?_) (fun c => ?_)
      · have h := h.1 c
        refine am_sub [1, 2, 3, 0, 4, 5, 6] (lv2 := [(0, .retAddr g.2.2.2.2.1), (1, .ref 0), (2, .ref 207), (3, .int y0), (4, .int x4), (5, .int x5), (6, .int x6)]) rfl ?_
        exact w9_LAW_175 hg hβ39 hK39 (by show k + 0 + 38 + (0 + lq 9 5 98 x4 + lq 8 6 4936 x4 + lq 13 10 160 x4) ≤ β39; omega) (by show z + 0 + 228 + (0 + 6 * lq 9 5 98 x4 + 6 * lq 8 6 4936 x4 + 6 * lq 13 10 160 x4) ≤ 6 * β39; omega) h
      · have h := h.2 c
        refine am_iconst (v := (1 : Int32)) d_LAW_171 (by decide) ?_
        refine am_goto (tgt := 176) d_LAW_172 (by decide) ?_
        refine am_sub [1, 2, 3, 0, 4, 5, 6] (lv2 := [(0, .retAddr g.2.2.2.2.1), (1, .ref 0), (2, .ref 207), (3, .int y0), (4, .int x4), (5, .int x5), (6, .int x6)]) rfl ?_
        exact w9_LAW_176 hg hβ39 hK39 (by show k + 0 + 38 + (0 + lq 9 5 98 x4 + lq 8 6 4936 x4 + lq 13 10 160 x4) ≤ β39; omega) (by show z + 0 + 228 + (0 + 6 * lq 9 5 98 x4 + 6 * lq 8 6 4936 x4 + 6 * lq 13 10 160 x4) ≤ 6 * β39; omega) h
set_option maxRecDepth 100000 in
theorem w9_LAW_129 {l : Launch} {g : am_Gl} (hg : g.2.2.2.1 = true) {ad0 : Nat → Nat} {K39 : am_M → am_M → Int32 → Int32 → Int32 × am_M × am_M} {KP39 : am_M → am_M → Int32 → Int32 → Prop} {β39 : Nat} {x3 : Int32} {x4 : Int32} {x5 : Int32} {x6 : Int32} (hβ39 : β39 ≤ 290000) (hK39 : ∀ (s : am_M) (t : am_M) (x3 : Int32) (y4 : Int32) (k z : Nat), y4 = x4 + (1 : Int32) → k ≤ β39 → z ≤ 6 * β39 → KP39 s t x3 y4 → AW l g m_LAWr 0 ad0 (am_oC2 (K39 s t x3 y4)) k z 414 (jn s t) 39 [(0, .retAddr g.2.2.2.2.1), (1, .ref 0), (2, .ref 207), (3, .int x3), (4, .int y4)] []) {s : am_M} {t : am_M}  {k z : Nat} (hk : k + (0 + lq 7 4 38 x4 + lq 9 5 98 x4 + lq 8 6 4936 x4 + lq 13 10 160 x4) ≤ β39) (hz : z + (0 + 6 * lq 7 4 38 x4 + 6 * lq 9 5 98 x4 + 6 * lq 8 6 4936 x4 + 6 * lq 13 10 160 x4) ≤ 6 * β39) (h : p_LAW_129 g.2.2.2.2.2.1 g.2.2.2.2.2.2 KP39 s t x3 x4 x5 x6) : AW l g m_LAWr 0 ad0 (am_oC2 (f_LAW_129 g.2.2.2.2.2.1 g.2.2.2.2.2.2 K39 s t x3 x4 x5 x6)) k z 414 (jn s t) 129 [(0, .retAddr g.2.2.2.2.1), (1, .ref 0), (2, .ref 207), (3, .int x3), (4, .int x4), (5, .int x5), (6, .int x6)] [] := by
  refine am_iconst (v := (1 : Int32)) d_LAW_129 (by decide) ?_
  refine am_goto (tgt := 134) d_LAW_130 (by decide) ?_
  exact w9_LAW_134 hg hβ39 hK39 (by show k + (0 + lq 7 4 38 x4 + lq 9 5 98 x4 + lq 8 6 4936 x4 + lq 13 10 160 x4) ≤ β39; omega) (by show z + (0 + 6 * lq 7 4 38 x4 + 6 * lq 9 5 98 x4 + 6 * lq 8 6 4936 x4 + 6 * lq 13 10 160 x4) ≤ 6 * β39; omega) h
set_option maxRecDepth 100000 in
theorem w9_LAW_133 {l : Launch} {g : am_Gl} (hg : g.2.2.2.1 = true) {ad0 : Nat → Nat} {K39 : am_M → am_M → Int32 → Int32 → Int32 × am_M × am_M} {KP39 : am_M → am_M → Int32 → Int32 → Prop} {β39 : Nat} {x3 : Int32} {x4 : Int32} {x5 : Int32} {x6 : Int32} (hβ39 : β39 ≤ 290000) (hK39 : ∀ (s : am_M) (t : am_M) (x3 : Int32) (y4 : Int32) (k z : Nat), y4 = x4 + (1 : Int32) → k ≤ β39 → z ≤ 6 * β39 → KP39 s t x3 y4 → AW l g m_LAWr 0 ad0 (am_oC2 (K39 s t x3 y4)) k z 414 (jn s t) 39 [(0, .retAddr g.2.2.2.2.1), (1, .ref 0), (2, .ref 207), (3, .int x3), (4, .int y4)] []) {s : am_M} {t : am_M}  {k z : Nat} (hk : k + (0 + lq 7 4 38 x4 + lq 9 5 98 x4 + lq 8 6 4936 x4 + lq 13 10 160 x4) ≤ β39) (hz : z + (0 + 6 * lq 7 4 38 x4 + 6 * lq 9 5 98 x4 + 6 * lq 8 6 4936 x4 + 6 * lq 13 10 160 x4) ≤ 6 * β39) (h : p_LAW_133 g.2.2.2.2.2.1 g.2.2.2.2.2.2 KP39 s t x3 x4 x5 x6) : AW l g m_LAWr 0 ad0 (am_oC2 (f_LAW_133 g.2.2.2.2.2.1 g.2.2.2.2.2.2 K39 s t x3 x4 x5 x6)) k z 414 (jn s t) 133 [(0, .retAddr g.2.2.2.2.1), (1, .ref 0), (2, .ref 207), (3, .int x3), (4, .int x4), (5, .int x5), (6, .int x6)] [] := by
  refine am_iconst (v := (0 : Int32)) d_LAW_133 (by decide) ?_
  exact w9_LAW_134 hg hβ39 hK39 (by show k + (0 + lq 7 4 38 x4 + lq 9 5 98 x4 + lq 8 6 4936 x4 + lq 13 10 160 x4) ≤ β39; omega) (by show z + (0 + 6 * lq 7 4 38 x4 + 6 * lq 9 5 98 x4 + 6 * lq 8 6 4936 x4 + 6 * lq 13 10 160 x4) ≤ 6 * β39; omega) h
set_option maxRecDepth 100000 in
theorem w9_LAW_113 {l : Launch} {g : am_Gl} (hg : g.2.2.2.1 = true) {ad0 : Nat → Nat} {K39 : am_M → am_M → Int32 → Int32 → Int32 × am_M × am_M} {KP39 : am_M → am_M → Int32 → Int32 → Prop} {β39 : Nat} {x3 : Int32} {x4 : Int32} {x5 : Int32} {x6 : Int32} (hβ39 : β39 ≤ 290000) (hK39 : ∀ (s : am_M) (t : am_M) (x3 : Int32) (y4 : Int32) (k z : Nat), y4 = x4 + (1 : Int32) → k ≤ β39 → z ≤ 6 * β39 → KP39 s t x3 y4 → AW l g m_LAWr 0 ad0 (am_oC2 (K39 s t x3 y4)) k z 414 (jn s t) 39 [(0, .retAddr g.2.2.2.2.1), (1, .ref 0), (2, .ref 207), (3, .int x3), (4, .int y4)] []) {s : am_M} {t : am_M}  {k z : Nat} (hk : k + (0 + lq 6 1 3724 x4 + lq 7 4 38 x4 + lq 9 5 98 x4 + lq 8 6 4936 x4 + lq 13 10 160 x4) ≤ β39) (hz : z + (0 + 6 * lq 6 1 3724 x4 + 6 * lq 7 4 38 x4 + 6 * lq 9 5 98 x4 + 6 * lq 8 6 4936 x4 + 6 * lq 13 10 160 x4) ≤ 6 * β39) (h : p_LAW_113 g.2.2.2.2.2.1 g.2.2.2.2.2.2 KP39 s t x3 x4 x5 x6) : AW l g m_LAWr 0 ad0 (am_oC2 (f_LAW_113 g.2.2.2.2.2.1 g.2.2.2.2.2.2 K39 s t x3 x4 x5 x6)) k z 414 (jn s t) 113 [(0, .retAddr g.2.2.2.2.1), (1, .ref 0), (2, .ref 207), (3, .int x3), (4, .int x4), (5, .int x5), (6, .int x6)] [] := by
  refine am_iload (j := 4) d_LAW_113 rfl ?_
  refine am_bipush (v := (6 : Int32)) d_LAW_115 (by decide) ?_
  refine am_irem d_LAW_117 (by decide) ?_
  refine am_iconst (v := (1 : Int32)) d_LAW_118 (by decide) ?_
  refine aj_ne (F := am_oC2) (tgt := 129) d_LAW_119 (by decide) (fun c => ?_) (fun c => ?_)
  · have h := h.2 c
    exact w9_LAW_129 hg hβ39 hK39 (by show k + (0 + lq 7 4 38 x4 + lq 9 5 98 x4 + lq 8 6 4936 x4 + lq 13 10 160 x4) ≤ β39; omega) (by show z + (0 + 6 * lq 7 4 38 x4 + 6 * lq 9 5 98 x4 + 6 * lq 8 6 4936 x4 + 6 * lq 13 10 160 x4) ≤ 6 * β39; omega) h
  · have h := h.1 c
    have hq6 := lq_t (c := 3724) c
    refine am_aload_n (j := 1) d_LAW_122 rfl rfl ?_
    obtain ⟨hc, h⟩ := h
    refine ak9_S (as := [.ref 0]) (rest := []) d_LAW_123 cw9_LAW_123 rfl (am_2O hg rfl (fun A9 => am_1C (ct_LH_isOrderSo (g := am_ga g A9) hg hc))) rfl rfl (Nat.le_of_ble_eq_true rfl) (by have := rm_c; show k + 3724 ≤ room_1.cells; omega) (by have := rm_s; show z + 22344 ≤ room_1.slots; omega) ?_
    refine ai_eq (F := am_oC2) (tgt := 133) d_LAW_126 (by decide) (fun c => ?_) (fun c => ?_)
    · have h := h.1 c
      exact w9_LAW_133 hg hβ39 hK39 (by show k + 3724 + (0 + lq 7 4 38 x4 + lq 9 5 98 x4 + lq 8 6 4936 x4 + lq 13 10 160 x4) ≤ β39; omega) (by show z + 22344 + (0 + 6 * lq 7 4 38 x4 + 6 * lq 9 5 98 x4 + 6 * lq 8 6 4936 x4 + 6 * lq 13 10 160 x4) ≤ 6 * β39; omega) h
    · have h := h.2 c
      exact w9_LAW_129 hg hβ39 hK39 (by show k + 3724 + (0 + lq 7 4 38 x4 + lq 9 5 98 x4 + lq 8 6 4936 x4 + lq 13 10 160 x4) ≤ β39; omega) (by show z + 22344 + (0 + 6 * lq 7 4 38 x4 + 6 * lq 9 5 98 x4 + 6 * lq 8 6 4936 x4 + 6 * lq 13 10 160 x4) ≤ 6 * β39; omega) h
set_option maxRecDepth 100000 in
theorem w9_LAW_97 {l : Launch} {g : am_Gl} (hg : g.2.2.2.1 = true) {ad0 : Nat → Nat} {K39 : am_M → am_M → Int32 → Int32 → Int32 × am_M × am_M} {KP39 : am_M → am_M → Int32 → Int32 → Prop} {β39 : Nat} {x3 : Int32} {x4 : Int32} {x5 : Int32} {x6 : Int32} (hβ39 : β39 ≤ 290000) (hK39 : ∀ (s : am_M) (t : am_M) (x3 : Int32) (y4 : Int32) (k z : Nat), y4 = x4 + (1 : Int32) → k ≤ β39 → z ≤ 6 * β39 → KP39 s t x3 y4 → AW l g m_LAWr 0 ad0 (am_oC2 (K39 s t x3 y4)) k z 414 (jn s t) 39 [(0, .retAddr g.2.2.2.2.1), (1, .ref 0), (2, .ref 207), (3, .int x3), (4, .int y4)] []) {s : am_M} {t : am_M}  {k z : Nat} (hk : k + (0 + lq 5 3 4923 x4 + lq 6 1 3724 x4 + lq 7 4 38 x4 + lq 9 5 98 x4 + lq 8 6 4936 x4 + lq 13 10 160 x4) ≤ β39) (hz : z + (0 + 6 * lq 5 3 4923 x4 + 6 * lq 6 1 3724 x4 + 6 * lq 7 4 38 x4 + 6 * lq 9 5 98 x4 + 6 * lq 8 6 4936 x4 + 6 * lq 13 10 160 x4) ≤ 6 * β39) (h : p_LAW_97 g.2.2.2.2.2.1 g.2.2.2.2.2.2 KP39 s t x3 x4 x5 x6) : AW l g m_LAWr 0 ad0 (am_oC2 (f_LAW_97 g.2.2.2.2.2.1 g.2.2.2.2.2.2 K39 s t x3 x4 x5 x6)) k z 414 (jn s t) 97 [(0, .retAddr g.2.2.2.2.1), (1, .ref 0), (2, .ref 207), (3, .int x3), (4, .int x4), (5, .int x5), (6, .int x6)] [] := by
  refine am_iload (j := 4) d_LAW_97 rfl ?_
  refine am_iconst (v := (5 : Int32)) d_LAW_99 (by decide) ?_
  refine am_irem d_LAW_100 (by decide) ?_
  refine am_iconst (v := (3 : Int32)) d_LAW_101 (by decide) ?_
  refine aj_ne (F := am_oC2) (tgt := 113) d_LAW_102 (by decide) (fun c => ?_) (fun c => ?_)
  · have h := h.2 c
    exact w9_LAW_113 hg hβ39 hK39 (by show k + (0 + lq 6 1 3724 x4 + lq 7 4 38 x4 + lq 9 5 98 x4 + lq 8 6 4936 x4 + lq 13 10 160 x4) ≤ β39; omega) (by show z + (0 + 6 * lq 6 1 3724 x4 + 6 * lq 7 4 38 x4 + 6 * lq 9 5 98 x4 + 6 * lq 8 6 4936 x4 + 6 * lq 13 10 160 x4) ≤ 6 * β39; omega) h
  · have h := h.1 c
    have hq5 := lq_t (c := 4923) c
    refine am_aload_n (j := 1) d_LAW_105 rfl rfl ?_
    refine am_aload_n (j := 2) d_LAW_106 rfl rfl ?_
    obtain ⟨hc, h⟩ := h
    refine ak9_S (as := [.ref 0, .ref 207]) (rest := []) d_LAW_107 cw9_LAW_107 rfl (ct_LH_areAlike hg hc) rfl rfl (Nat.le_of_ble_eq_true rfl) (by have := rm_c; show k + 4923 ≤ room_1.cells; omega) (by have := rm_s; show z + 29538 ≤ room_1.slots; omega) ?_
    refine ai_eq (F := am_oC2) (tgt := 133) d_LAW_110 (by decide) (fun c => ?_) (fun c => ?_)
    · have h := h.1 c
      exact w9_LAW_133 hg hβ39 hK39 (by show k + 4923 + (0 + lq 7 4 38 x4 + lq 9 5 98 x4 + lq 8 6 4936 x4 + lq 13 10 160 x4) ≤ β39; omega) (by show z + 29538 + (0 + 6 * lq 7 4 38 x4 + 6 * lq 9 5 98 x4 + 6 * lq 8 6 4936 x4 + 6 * lq 13 10 160 x4) ≤ 6 * β39; omega) h
    · have h := h.2 c
      exact w9_LAW_113 hg hβ39 hK39 (by show k + 4923 + (0 + lq 6 1 3724 x4 + lq 7 4 38 x4 + lq 9 5 98 x4 + lq 8 6 4936 x4 + lq 13 10 160 x4) ≤ β39; omega) (by show z + 29538 + (0 + 6 * lq 6 1 3724 x4 + 6 * lq 7 4 38 x4 + 6 * lq 9 5 98 x4 + 6 * lq 8 6 4936 x4 + 6 * lq 13 10 160 x4) ≤ 6 * β39; omega) h
set_option maxRecDepth 100000 in
theorem w9_LAW_316 {l : Launch} {g : am_Gl} (hg : g.2.2.2.1 = true) {ad0 : Nat → Nat}  {x3 : Int32} {x4 : Int32} {s : am_M} {t : am_M}  {k z : Nat} (hk : k ≤ 290000) (hz : z ≤ 1740000) (h : p_LAW_316 g.2.2.2.2.2.1 g.2.2.2.2.2.2  s t x3 x4) : AW l g m_LAWr 0 ad0 (am_oC2 (f_LAW_316 g.2.2.2.2.2.1 g.2.2.2.2.2.2  s t x3 x4)) k z 414 (jn s t) 316 [(0, .retAddr g.2.2.2.2.1), (1, .ref 0), (2, .ref 207), (3, .int x3), (4, .int x4)] [] := by
  refine am_iload_n (j := 3) d_LAW_316 rfl rfl ?_
  refine ai_eq (F := am_oC2) (tgt := 339) d_LAW_317 (by decide) (fun c => ?_) (fun c => ?_)
  · have h := h.1 c
    refine am_iconst (v := (0 : Int32)) d_LAW_339 (by decide) ?_
    exact am_iret d_LAW_340 rfl (am_bool (Or.inl rfl)).1 (by have := rm_c; show k ≤ room_1.cells; omega) (by have := rm_s; show z ≤ room_1.slots; omega) am_oC2_ok
  · have h := h.2 c
    refine am_aload_n (j := 1) d_LAW_320 rfl rfl ?_
    refine am_aload_n (j := 2) d_LAW_321 rfl rfl ?_
    obtain ⟨hc, h⟩ := h
    refine ak9_S (as := [.ref 0, .ref 207]) (rest := []) d_LAW_322 cw9_LAW_322 rfl (ct_LH_areAlike hg hc) rfl rfl (Nat.le_of_ble_eq_true rfl) (by have := rm_c; show k + 4923 ≤ room_1.cells; omega) (by have := rm_s; show z + 29538 ≤ room_1.slots; omega) ?_
    refine ai_eq (F := am_oC2) (tgt := 339) d_LAW_325 (by decide) (fun c => ?_) (fun c => ?_)
    · have h := h.1 c
      refine am_iconst (v := (0 : Int32)) d_LAW_339 (by decide) ?_
      exact am_iret d_LAW_340 rfl (am_bool (Or.inl rfl)).1 (by have := rm_c; show k + 4923 ≤ room_1.cells; omega) (by have := rm_s; show z + 29538 ≤ room_1.slots; omega) am_oC2_ok
    · have h := h.2 c
      refine am_aload_n (j := 1) d_LAW_328 rfl rfl ?_
      obtain ⟨hc, h⟩ := h
      refine ak9_S (as := [.ref 0]) (rest := []) d_LAW_329 cw9_LAW_329 rfl (am_2O hg rfl (fun A9 => am_1C (ct_LH_isOrderSo (g := am_ga g A9) hg hc))) rfl rfl (Nat.le_of_ble_eq_true rfl) (by have := rm_c; show k + 4923 + 3724 ≤ room_1.cells; omega) (by have := rm_s; show z + 29538 + 22344 ≤ room_1.slots; omega) ?_
      refine ai_eq (F := am_oC2) (tgt := 339) d_LAW_332 (by decide) (fun c => ?_) (fun c => ?_)
      · have h := h.1 c
        refine am_iconst (v := (0 : Int32)) d_LAW_339 (by decide) ?_
        exact am_iret d_LAW_340 rfl (am_bool (Or.inl rfl)).1 (by have := rm_c; show k + 4923 + 3724 ≤ room_1.cells; omega) (by have := rm_s; show z + 29538 + 22344 ≤ room_1.slots; omega) am_oC2_ok
      · have h := h.2 c
        refine am_iconst (v := (1 : Int32)) d_LAW_335 (by decide) ?_
        refine am_goto (tgt := 340) d_LAW_336 (by decide) ?_
        exact am_iret d_LAW_340 rfl (am_bool (Or.inr rfl)).1 (by have := rm_c; show k + 4923 + 3724 ≤ room_1.cells; omega) (by have := rm_s; show z + 29538 + 22344 ≤ room_1.slots; omega) am_oC2_ok
set_option maxRecDepth 100000 in
theorem w9_LAW_39 {l : Launch} {g : am_Gl} (hg : g.2.2.2.1 = true) {ad0 : Nat → Nat}  : ∀ (n : Nat) (s : am_M) (t : am_M) (x3 : Int32) (x4 : Int32) (k z : Nat), k + lc n x4 ≤ 290000 → z + 6 * lc n x4 ≤ 6 * 290000 → p_LAW_39 g.2.2.2.2.2.1 g.2.2.2.2.2.2  n s t x3 x4 → AW l g m_LAWr 0 ad0 (am_oC2 (f_LAW_39 g.2.2.2.2.2.1 g.2.2.2.2.2.2  n s t x3 x4)) k z 414 (jn s t) 39 [(0, .retAddr g.2.2.2.2.1), (1, .ref 0), (2, .ref 207), (3, .int x3), (4, .int x4)] [] := by
  intro n
  induction n with
  | zero => intro s t x3 x4 k z _ _ h; exact h.elim
  | succ n ih =>
    intro s t x3 x4 k z hk hz h
    have hl : lc (n + 1) x4 = lc1 x4 + lc n (x4 + (1 : Int32)) := rfl
    have hl1 : lc1 x4 = 32 + lq 5 3 4923 x4 + lq 6 1 3724 x4 + lq 7 4 38 x4 + lq 9 5 98 x4 + lq 8 6 4936 x4 + lq 13 10 160 x4 := rfl
    obtain ⟨β39, hb39⟩ : ∃ b, b + lc n (x4 + (1 : Int32)) = 290000 := ⟨290000 - lc n (x4 + (1 : Int32)), by omega⟩
    have hβ39 : β39 ≤ 290000 := by omega
    have hK39 : ∀ (s : am_M) (t : am_M) (x3 : Int32) (y4 : Int32) (k z : Nat), y4 = x4 + (1 : Int32) → k ≤ β39 → z ≤ 6 * β39 → (p_LAW_39 g.2.2.2.2.2.1 g.2.2.2.2.2.2  n) s t x3 y4 → AW l g m_LAWr 0 ad0 (am_oC2 ((f_LAW_39 g.2.2.2.2.2.1 g.2.2.2.2.2.2  n) s t x3 y4)) k z 414 (jn s t) 39 [(0, .retAddr g.2.2.2.2.1), (1, .ref 0), (2, .ref 207), (3, .int x3), (4, .int y4)] [] := fun s t x3 y4 k z e h1 h2 h3 => ih s t x3 y4 k z (by rw [e]; omega) (by rw [e]; omega) h3
    refine am_iload (j := 4) d_LAW_39 rfl ?_
    refine am_bipush (v := (100 : Int32)) d_LAW_41 (by decide) ?_
    refine aj_ge (F := am_oC2) (tgt := 316) d_LAW_43 (by decide) (fun c => ?_) (fun c => ?_)
    · have h := h.1 c
      exact w9_LAW_316 hg  (by show k ≤ 290000; omega) (by show z ≤ 1740000; omega) h
    · have h := h.2 c
      refine am_iload_n (j := 3) d_LAW_46 rfl rfl ?_
      refine ai_eq (F := am_oC2) (tgt := 316) d_LAW_47 (by decide) (fun c => ?_) (fun c => ?_)
      · have h := h.1 c
        exact w9_LAW_316 hg  (by show k ≤ 290000; omega) (by show z ≤ 1740000; omega) h
      · have h := h.2 c
        refine am_aloadS_n (j := 0) d_LAW_50 rfl rfl ?_
        refine am_iload (j := 4) d_LAW_51 rfl ?_
        refine am_bipush (v := (61 : Int32)) d_LAW_53 (by decide) ?_
        refine am_irem d_LAW_55 (by decide) ?_
        obtain ⟨hc, h⟩ := h
        refine ak9_S (as := [.retAddr g.2.2.2.2.1, .int (x4 - x4 / (61 : Int32) * (61 : Int32))]) (rest := []) d_LAW_56 cw9_LAW_56 rfl (am_2O hg rfl (fun A9 => am_1I ((show AC l (am_ga g A9) m_LH_cell 207 s [.retAddr g.2.2.2.2.1, .int (x4 - x4 / (61 : Int32) * (61 : Int32))] (am_oI s (f_LH_cel g.2.2.2.2.2.1 g.2.2.2.2.2.2 s (x4 - x4 / (61 : Int32) * (61 : Int32)))) from ct_LH_cel (g := am_ga g A9) hg hc)))) rfl rfl (Nat.le_of_ble_eq_true rfl) (by have := rm_c; show k + 0 ≤ room_1.cells; omega) (by have := rm_s; show z + 0 ≤ room_1.slots; omega) ?_
        refine am_sipush (v := (1429 : Int32)) d_LAW_59 (by decide) ?_
        refine am_iload (j := 4) d_LAW_62 rfl ?_
        refine am_bipush (v := (61 : Int32)) d_LAW_64 (by decide) ?_
        refine am_idiv d_LAW_66 (by decide) ?_
        refine am_imul d_LAW_67 ?_
        refine am_iadd d_LAW_68 ?_
        refine am_istore (lv2 := [(5, .int ((f_LH_cel g.2.2.2.2.2.1 g.2.2.2.2.2.2 s (x4 - x4 / (61 : Int32) * (61 : Int32))) + ((1429 : Int32) * (x4 / (61 : Int32))))), (0, .retAddr g.2.2.2.2.1), (1, .ref 0), (2, .ref 207), (3, .int x3), (4, .int x4)]) d_LAW_69 (by decide) rfl ?_
        refine am_aload_n (j := 2) d_LAW_71 rfl rfl ?_
        refine am_iload (j := 0) d_LAW_72 rfl ?_
        obtain ⟨hc, h⟩ := h
        refine ak9_S (as := [.ref 0, .int ((f_LH_cel g.2.2.2.2.2.1 g.2.2.2.2.2.2 s (x4 - x4 / (61 : Int32) * (61 : Int32))) + ((1429 : Int32) * (x4 / (61 : Int32))))]) (rest := []) d_LAW_74 cw9_LAW_74 rfl (am_2O hg rfl (fun A9 => am_1C (ct_LH_act (g := am_ga g A9) hg hc))) rfl rfl (Nat.le_of_ble_eq_true rfl) (by have := rm_c; show k + 0 + 16 ≤ room_1.cells; omega) (by have := rm_s; show z + 0 + 96 ≤ room_1.slots; omega) ?_
        refine am_istore (lv2 := [(6, .int (f_LH_act s ((f_LH_cel g.2.2.2.2.2.1 g.2.2.2.2.2.2 s (x4 - x4 / (61 : Int32) * (61 : Int32))) + ((1429 : Int32) * (x4 / (61 : Int32))))).1), (5, .int ((f_LH_cel g.2.2.2.2.2.1 g.2.2.2.2.2.2 s (x4 - x4 / (61 : Int32) * (61 : Int32))) + ((1429 : Int32) * (x4 / (61 : Int32))))), (0, .retAddr g.2.2.2.2.1), (1, .ref 0), (2, .ref 207), (3, .int x3), (4, .int x4)]) d_LAW_77 (by decide) rfl ?_
        refine am_iload (j := 0) d_LAW_79 rfl ?_
        refine am_ldc (v := (-9999999 : Int32)) d_LAW_81 aw_3_220 ?_
        refine aj_eq (F := am_oC2) (tgt := 97) d_LAW_83 (by decide) (fun c => ?_) (fun c => ?_)
        · have h := h.1 c
          refine am_sub [2, 3, 4, 5, 6, 1, 0] (lv2 := [(0, .retAddr g.2.2.2.2.1), (1, .ref 0), (2, .ref 207), (3, .int x3), (4, .int x4), (5, .int ((f_LH_cel g.2.2.2.2.2.1 g.2.2.2.2.2.2 s (x4 - x4 / (61 : Int32) * (61 : Int32))) + ((1429 : Int32) * (x4 / (61 : Int32))))), (6, .int (f_LH_act s ((f_LH_cel g.2.2.2.2.2.1 g.2.2.2.2.2.2 s (x4 - x4 / (61 : Int32) * (61 : Int32))) + ((1429 : Int32) * (x4 / (61 : Int32))))).1)]) rfl ?_
          exact w9_LAW_97 hg hβ39 hK39 (by show k + 0 + 16 + (0 + lq 5 3 4923 x4 + lq 6 1 3724 x4 + lq 7 4 38 x4 + lq 9 5 98 x4 + lq 8 6 4936 x4 + lq 13 10 160 x4) ≤ β39; omega) (by show z + 0 + 96 + (0 + 6 * lq 5 3 4923 x4 + 6 * lq 6 1 3724 x4 + 6 * lq 7 4 38 x4 + 6 * lq 9 5 98 x4 + 6 * lq 8 6 4936 x4 + 6 * lq 13 10 160 x4) ≤ 6 * β39; omega) h
        · have h := h.2 c
          refine am_aload_n (j := 4) d_LAW_86 rfl rfl ?_
          refine am_iload (j := 1) d_LAW_87 rfl ?_
          obtain ⟨hc, h⟩ := h
          refine ak9_S (as := [.ref 207, .int ((f_LH_cel g.2.2.2.2.2.1 g.2.2.2.2.2.2 s (x4 - x4 / (61 : Int32) * (61 : Int32))) + ((1429 : Int32) * (x4 / (61 : Int32))))]) (rest := []) d_LAW_89 cw9_LAW_89 rfl (am_2P (av1 := [.ref 0, .int ((f_LH_cel g.2.2.2.2.2.1 g.2.2.2.2.2.2 s (x4 - x4 / (61 : Int32) * (61 : Int32))) + ((1429 : Int32) * (x4 / (61 : Int32))))]) hg rfl (fun _ => rfl) (fun A9 => am_1C (ct_LH_act (g := am_ga g A9) hg hc))) rfl rfl (Nat.le_of_ble_eq_true rfl) (by have := rm_c; show k + 0 + 16 + 16 ≤ room_1.cells; omega) (by have := rm_s; show z + 0 + 96 + 96 ≤ room_1.slots; omega) ?_
          refine am_iload (j := 0) d_LAW_92 rfl ?_
          refine aj_ne (F := am_oC2) (tgt := 133) d_LAW_94 (by decide) (fun c => ?_) (fun c => ?_)
          · have h := h.2 c
            refine am_sub [2, 3, 4, 5, 6, 1, 0] (lv2 := [(0, .retAddr g.2.2.2.2.1), (1, .ref 0), (2, .ref 207), (3, .int x3), (4, .int x4), (5, .int ((f_LH_cel g.2.2.2.2.2.1 g.2.2.2.2.2.2 s (x4 - x4 / (61 : Int32) * (61 : Int32))) + ((1429 : Int32) * (x4 / (61 : Int32))))), (6, .int (f_LH_act s ((f_LH_cel g.2.2.2.2.2.1 g.2.2.2.2.2.2 s (x4 - x4 / (61 : Int32) * (61 : Int32))) + ((1429 : Int32) * (x4 / (61 : Int32))))).1)]) rfl ?_
            exact w9_LAW_133 hg hβ39 hK39 (by show k + 0 + 16 + 16 + (0 + lq 7 4 38 x4 + lq 9 5 98 x4 + lq 8 6 4936 x4 + lq 13 10 160 x4) ≤ β39; omega) (by show z + 0 + 96 + 96 + (0 + 6 * lq 7 4 38 x4 + 6 * lq 9 5 98 x4 + 6 * lq 8 6 4936 x4 + 6 * lq 13 10 160 x4) ≤ 6 * β39; omega) h
          · have h := h.1 c
            refine am_sub [2, 3, 4, 5, 6, 1, 0] (lv2 := [(0, .retAddr g.2.2.2.2.1), (1, .ref 0), (2, .ref 207), (3, .int x3), (4, .int x4), (5, .int ((f_LH_cel g.2.2.2.2.2.1 g.2.2.2.2.2.2 s (x4 - x4 / (61 : Int32) * (61 : Int32))) + ((1429 : Int32) * (x4 / (61 : Int32))))), (6, .int (f_LH_act s ((f_LH_cel g.2.2.2.2.2.1 g.2.2.2.2.2.2 s (x4 - x4 / (61 : Int32) * (61 : Int32))) + ((1429 : Int32) * (x4 / (61 : Int32))))).1)]) rfl ?_
            exact w9_LAW_97 hg hβ39 hK39 (by show k + 0 + 16 + 16 + (0 + lq 5 3 4923 x4 + lq 6 1 3724 x4 + lq 7 4 38 x4 + lq 9 5 98 x4 + lq 8 6 4936 x4 + lq 13 10 160 x4) ≤ β39; omega) (by show z + 0 + 96 + 96 + (0 + 6 * lq 5 3 4923 x4 + 6 * lq 6 1 3724 x4 + 6 * lq 7 4 38 x4 + 6 * lq 9 5 98 x4 + 6 * lq 8 6 4936 x4 + 6 * lq 13 10 160 x4) ≤ 6 * β39; omega) h
set_option maxRecDepth 100000 in
theorem w9_LAW_35 {l : Launch} {g : am_Gl} (hg : g.2.2.2.1 = true) {ad0 : Nat → Nat}  {y0 : Int32} {s : am_M} {t : am_M}  {k z : Nat} (hk : k ≤ 2000) (hz : z ≤ 48000) (h : p_LAW_35 g.2.2.2.2.2.1 g.2.2.2.2.2.2  s t y0) : AW l g m_LAWr 0 ad0 (am_oC2 (f_LAW_35 g.2.2.2.2.2.1 g.2.2.2.2.2.2  s t y0)) k z 414 (jn s t) 35 [(0, .retAddr g.2.2.2.2.1), (1, .ref 0), (2, .ref 207)] [.int y0] := by
  refine am_istore_n (lv2 := [(3, .int y0), (0, .retAddr g.2.2.2.2.1), (1, .ref 0), (2, .ref 207)]) d_LAW_35 rfl (by decide) rfl ?_
  refine am_iconst (v := (0 : Int32)) d_LAW_36 (by decide) ?_
  refine am_istore (lv2 := [(4, .int (0 : Int32)), (3, .int y0), (0, .retAddr g.2.2.2.2.1), (1, .ref 0), (2, .ref 207)]) d_LAW_37 (by decide) rfl ?_
  refine am_sub [2, 3, 4, 1, 0] (lv2 := [(0, .retAddr g.2.2.2.2.1), (1, .ref 0), (2, .ref 207), (3, .int y0), (4, .int (0 : Int32))]) rfl ?_
  exact w9_LAW_39 hg  101 _ _ _ _ _ _ (by have := lc_b9; show k + lc 101 (0 : Int32) ≤ 290000; omega) (by have := lc_b9; show z + 6 * lc 101 (0 : Int32) ≤ 6 * 290000; omega) h
set_option maxRecDepth 100000 in
theorem w9_LAW_34 {l : Launch} {g : am_Gl} (hg : g.2.2.2.1 = true) {ad0 : Nat → Nat}   {s : am_M} {t : am_M}  {k z : Nat} (hk : k ≤ 1500) (hz : z ≤ 36000) (h : p_LAW_34 g.2.2.2.2.2.1 g.2.2.2.2.2.2  s t ) : AW l g m_LAWr 0 ad0 (am_oC2 (f_LAW_34 g.2.2.2.2.2.1 g.2.2.2.2.2.2  s t )) k z 414 (jn s t) 34 [(0, .retAddr g.2.2.2.2.1), (1, .ref 0), (2, .ref 207)] [] := by
  refine am_iconst (v := (0 : Int32)) d_LAW_34 (by decide) ?_
  exact w9_LAW_35 hg  (by show k ≤ 2000; omega) (by show z ≤ 48000; omega) h
set_option maxRecDepth 100000 in
theorem w9_LAW {l : Launch} {g : am_Gl} (hg : g.2.2.2.1 = true) {ad0 : Nat → Nat} {s : am_M} {t : am_M} {k z : Nat} (hk : k ≤ 1000) (hz : z ≤ 30000) (h : p_LAW g.2.2.2.2.2.1 g.2.2.2.2.2.2 s t) : AW l g m_LAWr 0 ad0 (am_oC2 (f_LAW g.2.2.2.2.2.1 g.2.2.2.2.2.2 s t)) k z 414 (jn s t) 16 [(0, .retAddr g.2.2.2.2.1), (1, .ref 0), (2, .ref 207)] [] := by
  refine am_aload_n (j := 1) d_LAW_16 rfl rfl ?_
  obtain ⟨hc, h⟩ := h
  refine ak9_S (as := [.ref 0]) (rest := []) d_LAW_17 cw9_LAW_17 rfl (am_2O hg rfl (fun A9 => am_1C (ct_LH_isBegun (g := am_ga g A9) hg hc))) rfl rfl (Nat.le_of_ble_eq_true rfl) (by have := rm_c; show k + 63 ≤ room_1.cells; omega) (by have := rm_s; show z + 378 ≤ room_1.slots; omega) ?_
  refine ai_eq (F := am_oC2) (tgt := 34) d_LAW_20 (by decide) (fun c => ?_) (fun c => ?_)
  · have h := h.1 c
    exact w9_LAW_34 hg  (by show k + 63 ≤ 1500; omega) (by show z + 378 ≤ 36000; omega) h
  · have h := h.2 c
    refine am_aload_n (j := 2) d_LAW_23 rfl rfl ?_
    obtain ⟨hc, h⟩ := h
    refine ak9_S (as := [.ref 207]) (rest := []) d_LAW_24 cw9_LAW_24 rfl (am_2P (av1 := [.ref 0]) hg rfl (fun _ => rfl) (fun A9 => am_1C (ct_LH_isBegun (g := am_ga g A9) hg hc))) rfl rfl (Nat.le_of_ble_eq_true rfl) (by have := rm_c; show k + 63 + 63 ≤ room_1.cells; omega) (by have := rm_s; show z + 378 + 378 ≤ room_1.slots; omega) ?_
    refine ai_eq (F := am_oC2) (tgt := 34) d_LAW_27 (by decide) (fun c => ?_) (fun c => ?_)
    · have h := h.1 c
      exact w9_LAW_34 hg  (by show k + 63 + 63 ≤ 1500; omega) (by show z + 378 + 378 ≤ 36000; omega) h
    · have h := h.2 c
      refine am_iconst (v := (1 : Int32)) d_LAW_30 (by decide) ?_
      refine am_goto (tgt := 35) d_LAW_31 (by decide) ?_
      exact w9_LAW_35 hg  (by show k + 63 + 63 ≤ 2000; omega) (by show z + 378 + 378 ≤ 48000; omega) h
end

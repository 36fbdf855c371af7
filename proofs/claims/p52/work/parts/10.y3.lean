noncomputable section
theorem cw_LH_isOrderSo_9 : am_sh9 m_LH_isOrderSo m_LH_does 159 5 := ⟨ok_LH_does, ⟨_, rfl⟩, by decide +kernel, by decide, by decide, aw_1_193, aw_1_194⟩
theorem cw_LH_isOrderSo_87 : am_sh9 m_LH_isOrderSo m_LH_does 159 5 := ⟨ok_LH_does, ⟨_, rfl⟩, by decide +kernel, by decide, by decide, aw_1_193, aw_1_194⟩
theorem cw_LH_isOrderSo_118 : am_sh9 m_LH_isOrderSo m_LH_rows 193 2 := ⟨ok_LH_rows, ⟨_, rfl⟩, by decide +kernel, by decide, by decide, aw_5_99, aw_5_100⟩
theorem cw_LH_isOrderSo_148 : am_sh9 m_LH_isOrderSo m_LH_sets10 163 8 := ⟨ok_LH_sets10, ⟨_, rfl⟩, by decide +kernel, by decide, by decide, aw_3_221, aw_3_222⟩
theorem cw_LH_isOrderSo_168 : am_cv m_LH_isOrderSo m_CB_isThere 196 2 := ⟨⟨ok_CB_isThere, rfl, by decide +kernel, by decide, by decide⟩, aw_5_107, aw_5_108, aw_5_109⟩
def f_LH_isOrderSo_70 (K16 : am_M → Int32 → Int32 → Int32 → Int32 → Int32 × am_M) (s : am_M) (x1 : Int32) (x2 : Int32) (x3 : Int32) (x4 : Int32) (x5 : Int32) (y0 : Int32) : Int32 × am_M := (K16 (f_LH_does s (4 : Int32) (x2 + (1 : Int32)) (0 : Int32) (0 : Int32)).2 (x1 ||| ((1 : Int32) <<< (x5 &&& 31))) (x2 + (1 : Int32)) (f_LH_does s (4 : Int32) (x2 + (1 : Int32)) (0 : Int32) (0 : Int32)).1 y0)
def p_LH_isOrderSo_70 (KP16 : am_M → Int32 → Int32 → Int32 → Int32 → Prop) (s : am_M) (x1 : Int32) (x2 : Int32) (x3 : Int32) (x4 : Int32) (x5 : Int32) (y0 : Int32) : Prop := p_LH_does s (4 : Int32) (x2 + (1 : Int32)) (0 : Int32) (0 : Int32) ∧ ((KP16 (f_LH_does s (4 : Int32) (x2 + (1 : Int32)) (0 : Int32) (0 : Int32)).2 (x1 ||| ((1 : Int32) <<< (x5 &&& 31))) (x2 + (1 : Int32)) (f_LH_does s (4 : Int32) (x2 + (1 : Int32)) (0 : Int32) (0 : Int32)).1 y0))
set_option maxRecDepth 100000 in
theorem w_LH_isOrderSo_70 {l : Launch} {g : am_Gl} (hg : g.2.2.2.1 = true) {ad0 : Nat → Nat} {K16 : am_M → Int32 → Int32 → Int32 → Int32 → Int32 × am_M} {KP16 : am_M → Int32 → Int32 → Int32 → Int32 → Prop} {β16 : Nat} (hβ16 : β16 ≤ 104) (hK16 : ∀ (s : am_M) (x1 : Int32) (x2 : Int32) (x3 : Int32) (x4 : Int32) (k z : Nat), k ≤ β16 → z ≤ 6 * β16 → KP16 s x1 x2 x3 x4 → AW l g m_LH_isOrderSo 207 ad0 (am_oC (K16 s x1 x2 x3 x4)) k z 207 s 16 [(0, .ref 0), (1, .int x1), (2, .int x2), (3, .int x3), (4, .int x4)] []) {s : am_M} {x1 : Int32} {x2 : Int32} {x3 : Int32} {x4 : Int32} {x5 : Int32} {y0 : Int32} {k z : Nat} (hk : k + 4 ≤ β16) (hz : z + 24 ≤ 6 * β16) (h : p_LH_isOrderSo_70 KP16 s x1 x2 x3 x4 x5 y0) : AW l g m_LH_isOrderSo 207 ad0 (am_oC (f_LH_isOrderSo_70 K16 s x1 x2 x3 x4 x5 y0)) k z 207 s 70 [(0, .ref 0), (1, .int x1), (2, .int x2), (3, .int x3), (4, .int x4), (5, .int x5)] [.int y0] := by
  refine am_istore (lv2 := [(4, .int y0), (0, .ref 0), (1, .int x1), (2, .int x2), (3, .int x3), (5, .int x5)]) d_LH_isOrderSo_70 (by decide) rfl ?_
  refine am_iload_n (j := 2) d_LH_isOrderSo_72 rfl rfl ?_
  refine am_iconst (v := (1 : Int32)) d_LH_isOrderSo_73 (by decide) ?_
  refine am_iload (j := 5) d_LH_isOrderSo_74 rfl ?_
  refine am_ishl d_LH_isOrderSo_76 ?_
  refine am_ior d_LH_isOrderSo_77 ?_
  refine am_istore_n (lv2 := [(1, .int (x1 ||| ((1 : Int32) <<< (x5 &&& 31)))), (4, .int y0), (0, .ref 0), (2, .int x2), (3, .int x3), (5, .int x5)]) d_LH_isOrderSo_78 rfl (by decide) rfl ?_
  refine am_iinc (j := 3) (v := (x2 + (1 : Int32))) (lv2 := [(2, .int (x2 + (1 : Int32))), (1, .int (x1 ||| ((1 : Int32) <<< (x5 &&& 31)))), (4, .int y0), (0, .ref 0), (3, .int x3), (5, .int x5)]) d_LH_isOrderSo_79 rfl rfl (by decide) rfl ?_
  refine am_aload_n (j := 3) d_LH_isOrderSo_82 rfl rfl ?_
  refine am_iconst (v := (4 : Int32)) d_LH_isOrderSo_83 (by decide) ?_
  refine am_iload_n (j := 0) d_LH_isOrderSo_84 rfl rfl ?_
  refine am_iconst (v := (0 : Int32)) d_LH_isOrderSo_85 (by decide) ?_
  refine am_iconst (v := (0 : Int32)) d_LH_isOrderSo_86 (by decide) ?_
  obtain ⟨hc, h⟩ := h
  refine ak9_SX (as := [.ref 0, .int (4 : Int32), .int (x2 + (1 : Int32)), .int (0 : Int32), .int (0 : Int32)]) (rest := []) d_LH_isOrderSo_87 cw_LH_isOrderSo_87 rfl (am_1C (ct_LH_does hg hc)) rfl rfl (Nat.le_of_ble_eq_true rfl) (by show k + 4 ≤ 3724; omega) (by show z + 24 ≤ 22344; omega) ?_
  refine am_istore_n (lv2 := [(3, .int (f_LH_does s (4 : Int32) (x2 + (1 : Int32)) (0 : Int32) (0 : Int32)).1), (2, .int (x2 + (1 : Int32))), (1, .int (x1 ||| ((1 : Int32) <<< (x5 &&& 31)))), (4, .int y0), (0, .ref 0), (5, .int x5)]) d_LH_isOrderSo_90 rfl (by decide) rfl ?_
  refine am_goto (tgt := 16) d_LH_isOrderSo_91 (by decide) ?_
  refine am_sub [4, 2, 1, 0, 3] (lv2 := [(0, .ref 0), (1, .int (x1 ||| ((1 : Int32) <<< (x5 &&& 31)))), (2, .int (x2 + (1 : Int32))), (3, .int (f_LH_does s (4 : Int32) (x2 + (1 : Int32)) (0 : Int32) (0 : Int32)).1), (4, .int y0)]) rfl ?_
  exact hK16 _ _ _ _ _ _ _ (by show k + 4 ≤ β16; omega) (by show z + 24 ≤ 6 * β16; omega) h
def f_LH_isOrderSo_69 (K16 : am_M → Int32 → Int32 → Int32 → Int32 → Int32 × am_M) (s : am_M) (x1 : Int32) (x2 : Int32) (x3 : Int32) (x4 : Int32) (x5 : Int32) : Int32 × am_M := (f_LH_isOrderSo_70 K16 s x1 x2 x3 x4 x5 (0 : Int32))
def p_LH_isOrderSo_69 (KP16 : am_M → Int32 → Int32 → Int32 → Int32 → Prop) (s : am_M) (x1 : Int32) (x2 : Int32) (x3 : Int32) (x4 : Int32) (x5 : Int32) : Prop := (p_LH_isOrderSo_70 KP16 s x1 x2 x3 x4 x5 (0 : Int32))
set_option maxRecDepth 100000 in
theorem w_LH_isOrderSo_69 {l : Launch} {g : am_Gl} (hg : g.2.2.2.1 = true) {ad0 : Nat → Nat} {K16 : am_M → Int32 → Int32 → Int32 → Int32 → Int32 × am_M} {KP16 : am_M → Int32 → Int32 → Int32 → Int32 → Prop} {β16 : Nat} (hβ16 : β16 ≤ 104) (hK16 : ∀ (s : am_M) (x1 : Int32) (x2 : Int32) (x3 : Int32) (x4 : Int32) (k z : Nat), k ≤ β16 → z ≤ 6 * β16 → KP16 s x1 x2 x3 x4 → AW l g m_LH_isOrderSo 207 ad0 (am_oC (K16 s x1 x2 x3 x4)) k z 207 s 16 [(0, .ref 0), (1, .int x1), (2, .int x2), (3, .int x3), (4, .int x4)] []) {s : am_M} {x1 : Int32} {x2 : Int32} {x3 : Int32} {x4 : Int32} {x5 : Int32} {k z : Nat} (hk : k + 4 ≤ β16) (hz : z + 24 ≤ 6 * β16) (h : p_LH_isOrderSo_69 KP16 s x1 x2 x3 x4 x5) : AW l g m_LH_isOrderSo 207 ad0 (am_oC (f_LH_isOrderSo_69 K16 s x1 x2 x3 x4 x5)) k z 207 s 69 [(0, .ref 0), (1, .int x1), (2, .int x2), (3, .int x3), (4, .int x4), (5, .int x5)] [] := by
  refine am_iconst (v := (0 : Int32)) d_LH_isOrderSo_69 (by decide) ?_
  exact w_LH_isOrderSo_70 hg hβ16 hK16 (by show k + 4 ≤ β16; omega) (by show z + 24 ≤ 6 * β16; omega) h
def f_LH_isOrderSo_200 (K97 : am_M → Int32 → Int32 → Int32 → Int32 → Int32 → Int32 × am_M) (K111 : am_M → Int32 → Int32 → Int32 → Int32 → Int32 → Int32 → Int32 × am_M) (s : am_M) (x1 : Int32) (x2 : Int32) (x3 : Int32) (x4 : Int32) (x5 : Int32) (x6 : Int32) (x7 : Int32) (y0 : Int32) : Int32 × am_M := (K111 s x1 x2 x3 y0 x5 (x6 + (1 : Int32)))
def p_LH_isOrderSo_200 (KP97 : am_M → Int32 → Int32 → Int32 → Int32 → Int32 → Prop) (KP111 : am_M → Int32 → Int32 → Int32 → Int32 → Int32 → Int32 → Prop) (s : am_M) (x1 : Int32) (x2 : Int32) (x3 : Int32) (x4 : Int32) (x5 : Int32) (x6 : Int32) (x7 : Int32) (y0 : Int32) : Prop := (KP111 s x1 x2 x3 y0 x5 (x6 + (1 : Int32)))
set_option maxRecDepth 100000 in
theorem w_LH_isOrderSo_200 {l : Launch} {g : am_Gl} (hg : g.2.2.2.1 = true) {ad0 : Nat → Nat} {K97 : am_M → Int32 → Int32 → Int32 → Int32 → Int32 → Int32 × am_M} {KP97 : am_M → Int32 → Int32 → Int32 → Int32 → Int32 → Prop} {β97 : Nat} {K111 : am_M → Int32 → Int32 → Int32 → Int32 → Int32 → Int32 → Int32 × am_M} {KP111 : am_M → Int32 → Int32 → Int32 → Int32 → Int32 → Int32 → Prop} {β111 : Nat} (hβ97 : β97 ≤ 3724) (hK97 : ∀ (s : am_M) (x1 : Int32) (x2 : Int32) (x3 : Int32) (x4 : Int32) (x5 : Int32) (k z : Nat), k ≤ β97 → z ≤ 6 * β97 → KP97 s x1 x2 x3 x4 x5 → AW l g m_LH_isOrderSo 207 ad0 (am_oC (K97 s x1 x2 x3 x4 x5)) k z 207 s 97 [(0, .ref 0), (1, .int x1), (2, .int x2), (3, .int x3), (4, .int x4), (5, .int x5)] []) (hβ111 : β111 + 0 ≤ β97) (hK111 : ∀ (s : am_M) (x1 : Int32) (x2 : Int32) (x3 : Int32) (x4 : Int32) (x5 : Int32) (x6 : Int32) (k z : Nat), k ≤ β111 → z ≤ 6 * β111 → KP111 s x1 x2 x3 x4 x5 x6 → AW l g m_LH_isOrderSo 207 ad0 (am_oC (K111 s x1 x2 x3 x4 x5 x6)) k z 207 s 111 [(0, .ref 0), (1, .int x1), (2, .int x2), (3, .int x3), (4, .int x4), (5, .int x5), (6, .int x6)] []) {s : am_M} {x1 : Int32} {x2 : Int32} {x3 : Int32} {x4 : Int32} {x5 : Int32} {x6 : Int32} {x7 : Int32} {y0 : Int32} {k z : Nat} (hk : k + 0 ≤ β111) (hz : z + 0 ≤ 6 * β111) (h : p_LH_isOrderSo_200 KP97 KP111 s x1 x2 x3 x4 x5 x6 x7 y0) : AW l g m_LH_isOrderSo 207 ad0 (am_oC (f_LH_isOrderSo_200 K97 K111 s x1 x2 x3 x4 x5 x6 x7 y0)) k z 207 s 200 [(0, .ref 0), (1, .int x1), (2, .int x2), (3, .int x3), (4, .int x4), (5, .int x5), (6, .int x6), (7, .int x7)] [.int y0] := by
  refine am_istore (lv2 := [(4, .int y0), (0, .ref 0), (1, .int x1), (2, .int x2), (3, .int x3), (5, .int x5), (6, .int x6), (7, .int x7)]) d_LH_isOrderSo_200 (by decide) rfl ?_
  refine am_iinc (j := 6) (v := (x6 + (1 : Int32))) (lv2 := [(6, .int (x6 + (1 : Int32))), (4, .int y0), (0, .ref 0), (1, .int x1), (2, .int x2), (3, .int x3), (5, .int x5), (7, .int x7)]) d_LH_isOrderSo_202 rfl rfl (by decide) rfl ?_
  refine am_goto (tgt := 111) d_LH_isOrderSo_205 (by decide) ?_
  refine am_sub [2, 3, 4, 5, 1, 6, 0] (lv2 := [(0, .ref 0), (1, .int x1), (2, .int x2), (3, .int x3), (4, .int y0), (5, .int x5), (6, .int (x6 + (1 : Int32)))]) rfl ?_
  exact hK111 _ _ _ _ _ _ _ _ _ (by show k ≤ β111; omega) (by show z ≤ 6 * β111; omega) h
def f_LH_isOrderSo_195 (K97 : am_M → Int32 → Int32 → Int32 → Int32 → Int32 → Int32 × am_M) (K111 : am_M → Int32 → Int32 → Int32 → Int32 → Int32 → Int32 → Int32 × am_M) (s : am_M) (x1 : Int32) (x2 : Int32) (x3 : Int32) (x4 : Int32) (x5 : Int32) (x6 : Int32) (x7 : Int32) : Int32 × am_M := (f_LH_isOrderSo_200 K97 K111 s x1 x2 x3 x4 x5 x6 x7 (1 : Int32))
def p_LH_isOrderSo_195 (KP97 : am_M → Int32 → Int32 → Int32 → Int32 → Int32 → Prop) (KP111 : am_M → Int32 → Int32 → Int32 → Int32 → Int32 → Int32 → Prop) (s : am_M) (x1 : Int32) (x2 : Int32) (x3 : Int32) (x4 : Int32) (x5 : Int32) (x6 : Int32) (x7 : Int32) : Prop := (p_LH_isOrderSo_200 KP97 KP111 s x1 x2 x3 x4 x5 x6 x7 (1 : Int32))
set_option maxRecDepth 100000 in
theorem w_LH_isOrderSo_195 {l : Launch} {g : am_Gl} (hg : g.2.2.2.1 = true) {ad0 : Nat → Nat} {K97 : am_M → Int32 → Int32 → Int32 → Int32 → Int32 → Int32 × am_M} {KP97 : am_M → Int32 → Int32 → Int32 → Int32 → Int32 → Prop} {β97 : Nat} {K111 : am_M → Int32 → Int32 → Int32 → Int32 → Int32 → Int32 → Int32 × am_M} {KP111 : am_M → Int32 → Int32 → Int32 → Int32 → Int32 → Int32 → Prop} {β111 : Nat} (hβ97 : β97 ≤ 3724) (hK97 : ∀ (s : am_M) (x1 : Int32) (x2 : Int32) (x3 : Int32) (x4 : Int32) (x5 : Int32) (k z : Nat), k ≤ β97 → z ≤ 6 * β97 → KP97 s x1 x2 x3 x4 x5 → AW l g m_LH_isOrderSo 207 ad0 (am_oC (K97 s x1 x2 x3 x4 x5)) k z 207 s 97 [(0, .ref 0), (1, .int x1), (2, .int x2), (3, .int x3), (4, .int x4), (5, .int x5)] []) (hβ111 : β111 + 0 ≤ β97) (hK111 : ∀ (s : am_M) (x1 : Int32) (x2 : Int32) (x3 : Int32) (x4 : Int32) (x5 : Int32) (x6 : Int32) (k z : Nat), k ≤ β111 → z ≤ 6 * β111 → KP111 s x1 x2 x3 x4 x5 x6 → AW l g m_LH_isOrderSo 207 ad0 (am_oC (K111 s x1 x2 x3 x4 x5 x6)) k z 207 s 111 [(0, .ref 0), (1, .int x1), (2, .int x2), (3, .int x3), (4, .int x4), (5, .int x5), (6, .int x6)] []) {s : am_M} {x1 : Int32} {x2 : Int32} {x3 : Int32} {x4 : Int32} {x5 : Int32} {x6 : Int32} {x7 : Int32} {k z : Nat} (hk : k + 0 ≤ β111) (hz : z + 0 ≤ 6 * β111) (h : p_LH_isOrderSo_195 KP97 KP111 s x1 x2 x3 x4 x5 x6 x7) : AW l g m_LH_isOrderSo 207 ad0 (am_oC (f_LH_isOrderSo_195 K97 K111 s x1 x2 x3 x4 x5 x6 x7)) k z 207 s 195 [(0, .ref 0), (1, .int x1), (2, .int x2), (3, .int x3), (4, .int x4), (5, .int x5), (6, .int x6), (7, .int x7)] [] := by
  refine am_iconst (v := (1 : Int32)) d_LH_isOrderSo_195 (by decide) ?_
  refine am_goto (tgt := 200) d_LH_isOrderSo_196 (by decide) ?_
  exact w_LH_isOrderSo_200 hg hβ97 hK97 hβ111 hK111 (by show k + 0 ≤ β111; omega) (by show z + 0 ≤ 6 * β111; omega) h
def f_LH_isOrderSo_199 (K97 : am_M → Int32 → Int32 → Int32 → Int32 → Int32 → Int32 × am_M) (K111 : am_M → Int32 → Int32 → Int32 → Int32 → Int32 → Int32 → Int32 × am_M) (s : am_M) (x1 : Int32) (x2 : Int32) (x3 : Int32) (x4 : Int32) (x5 : Int32) (x6 : Int32) (x7 : Int32) : Int32 × am_M := (f_LH_isOrderSo_200 K97 K111 s x1 x2 x3 x4 x5 x6 x7 (0 : Int32))
def p_LH_isOrderSo_199 (KP97 : am_M → Int32 → Int32 → Int32 → Int32 → Int32 → Prop) (KP111 : am_M → Int32 → Int32 → Int32 → Int32 → Int32 → Int32 → Prop) (s : am_M) (x1 : Int32) (x2 : Int32) (x3 : Int32) (x4 : Int32) (x5 : Int32) (x6 : Int32) (x7 : Int32) : Prop := (p_LH_isOrderSo_200 KP97 KP111 s x1 x2 x3 x4 x5 x6 x7 (0 : Int32))
set_option maxRecDepth 100000 in
theorem w_LH_isOrderSo_199 {l : Launch} {g : am_Gl} (hg : g.2.2.2.1 = true) {ad0 : Nat → Nat} {K97 : am_M → Int32 → Int32 → Int32 → Int32 → Int32 → Int32 × am_M} {KP97 : am_M → Int32 → Int32 → Int32 → Int32 → Int32 → Prop} {β97 : Nat} {K111 : am_M → Int32 → Int32 → Int32 → Int32 → Int32 → Int32 → Int32 × am_M} {KP111 : am_M → Int32 → Int32 → Int32 → Int32 → Int32 → Int32 → Prop} {β111 : Nat} (hβ97 : β97 ≤ 3724) (hK97 : ∀ (s : am_M) (x1 : Int32) (x2 : Int32) (x3 : Int32) (x4 : Int32) (x5 : Int32) (k z : Nat), k ≤ β97 → z ≤ 6 * β97 → KP97 s x1 x2 x3 x4 x5 → AW l g m_LH_isOrderSo 207 ad0 (am_oC (K97 s x1 x2 x3 x4 x5)) k z 207 s 97 [(0, .ref 0), (1, .int x1), (2, .int x2), (3, .int x3), (4, .int x4), (5, .int x5)] []) (hβ111 : β111 + 0 ≤ β97) (hK111 : ∀ (s : am_M) (x1 : Int32) (x2 : Int32) (x3 : Int32) (x4 : Int32) (x5 : Int32) (x6 : Int32) (k z : Nat), k ≤ β111 → z ≤ 6 * β111 → KP111 s x1 x2 x3 x4 x5 x6 → AW l g m_LH_isOrderSo 207 ad0 (am_oC (K111 s x1 x2 x3 x4 x5 x6)) k z 207 s 111 [(0, .ref 0), (1, .int x1), (2, .int x2), (3, .int x3), (4, .int x4), (5, .int x5), (6, .int x6)] []) {s : am_M} {x1 : Int32} {x2 : Int32} {x3 : Int32} {x4 : Int32} {x5 : Int32} {x6 : Int32} {x7 : Int32} {k z : Nat} (hk : k + 0 ≤ β111) (hz : z + 0 ≤ 6 * β111) (h : p_LH_isOrderSo_199 KP97 KP111 s x1 x2 x3 x4 x5 x6 x7) : AW l g m_LH_isOrderSo 207 ad0 (am_oC (f_LH_isOrderSo_199 K97 K111 s x1 x2 x3 x4 x5 x6 x7)) k z 207 s 199 [(0, .ref 0), (1, .int x1), (2, .int x2), (3, .int x3), (4, .int x4), (5, .int x5), (6, .int x6), (7, .int x7)] [] := by
  refine am_iconst (v := (0 : Int32)) d_LH_isOrderSo_199 (by decide) ?_
  exact w_LH_isOrderSo_200 hg hβ97 hK97 hβ111 hK111 (by show k + 0 ≤ β111; omega) (by show z + 0 ≤ 6 * β111; omega) h
def f_LH_isOrderSo_208 (K97 : am_M → Int32 → Int32 → Int32 → Int32 → Int32 → Int32 × am_M) (s : am_M) (x1 : Int32) (x2 : Int32) (x3 : Int32) (x4 : Int32) (x5 : Int32) (x6 : Int32) : Int32 × am_M := (K97 s x1 x2 x3 x4 (x5 + (1 : Int32)))
def p_LH_isOrderSo_208 (KP97 : am_M → Int32 → Int32 → Int32 → Int32 → Int32 → Prop) (s : am_M) (x1 : Int32) (x2 : Int32) (x3 : Int32) (x4 : Int32) (x5 : Int32) (x6 : Int32) : Prop := (KP97 s x1 x2 x3 x4 (x5 + (1 : Int32)))
set_option maxRecDepth 100000 in
theorem w_LH_isOrderSo_208 {l : Launch} {g : am_Gl} (hg : g.2.2.2.1 = true) {ad0 : Nat → Nat} {K97 : am_M → Int32 → Int32 → Int32 → Int32 → Int32 → Int32 × am_M} {KP97 : am_M → Int32 → Int32 → Int32 → Int32 → Int32 → Prop} {β97 : Nat} (hβ97 : β97 ≤ 3724) (hK97 : ∀ (s : am_M) (x1 : Int32) (x2 : Int32) (x3 : Int32) (x4 : Int32) (x5 : Int32) (k z : Nat), k ≤ β97 → z ≤ 6 * β97 → KP97 s x1 x2 x3 x4 x5 → AW l g m_LH_isOrderSo 207 ad0 (am_oC (K97 s x1 x2 x3 x4 x5)) k z 207 s 97 [(0, .ref 0), (1, .int x1), (2, .int x2), (3, .int x3), (4, .int x4), (5, .int x5)] []) {s : am_M} {x1 : Int32} {x2 : Int32} {x3 : Int32} {x4 : Int32} {x5 : Int32} {x6 : Int32} {k z : Nat} (hk : k + 0 ≤ β97) (hz : z + 0 ≤ 6 * β97) (h : p_LH_isOrderSo_208 KP97 s x1 x2 x3 x4 x5 x6) : AW l g m_LH_isOrderSo 207 ad0 (am_oC (f_LH_isOrderSo_208 K97 s x1 x2 x3 x4 x5 x6)) k z 207 s 208 [(0, .ref 0), (1, .int x1), (2, .int x2), (3, .int x3), (4, .int x4), (5, .int x5), (6, .int x6)] [] := by
  refine am_iinc (j := 5) (v := (x5 + (1 : Int32))) (lv2 := [(5, .int (x5 + (1 : Int32))), (0, .ref 0), (1, .int x1), (2, .int x2), (3, .int x3), (4, .int x4), (6, .int x6)]) d_LH_isOrderSo_208 rfl rfl (by decide) rfl ?_
  refine am_goto (tgt := 97) d_LH_isOrderSo_211 (by decide) ?_
  refine am_sub [1, 2, 3, 4, 5, 0] (lv2 := [(0, .ref 0), (1, .int x1), (2, .int x2), (3, .int x3), (4, .int x4), (5, .int (x5 + (1 : Int32)))]) rfl ?_
  exact hK97 _ _ _ _ _ _ _ _ (by show k ≤ β97; omega) (by show z ≤ 6 * β97; omega) h
def f_LH_isOrderSo_111 (K97 : am_M → Int32 → Int32 → Int32 → Int32 → Int32 → Int32 × am_M) : Nat → am_M → Int32 → Int32 → Int32 → Int32 → Int32 → Int32 → Int32 × am_M
  | 0, s, x1, x2, x3, x4, x5, x6 => (0, s)
  | n + 1, s, x1, x2, x3, x4, x5, x6 => (if ((6 : Int32) * (f_LH_rows s x5).1) ≤ x6 then (f_LH_isOrderSo_208 K97 (f_LH_rows s x5).2 x1 x2 x3 x4 x5 x6) else (if x4 = 0 then (f_LH_isOrderSo_208 K97 (f_LH_rows s x5).2 x1 x2 x3 x4 x5 x6) else (if (f_LH_sets10 (f_LH_rows s x5).2 x5 (x6 / (6 : Int32)) (x6 - x6 / (6 : Int32) * (6 : Int32)) (0 : Int32) (0 : Int32) (0 : Int32)).1 = (-9999999 : Int32) then (f_LH_isOrderSo_195 K97 (f_LH_isOrderSo_111 K97 n) (f_LH_sets10 (f_LH_rows s x5).2 x5 (x6 / (6 : Int32)) (x6 - x6 / (6 : Int32) * (6 : Int32)) (0 : Int32) (0 : Int32) (0 : Int32)).2 x1 x2 x3 x4 x5 x6 (f_LH_sets10 (f_LH_rows s x5).2 x5 (x6 / (6 : Int32)) (x6 - x6 / (6 : Int32) * (6 : Int32)) (0 : Int32) (0 : Int32) (0 : Int32)).1) else (if (f_CB_isThere (f_LH_sets10 (f_LH_rows s x5).2 x5 (x6 / (6 : Int32)) (x6 - x6 / (6 : Int32) * (6 : Int32)) (0 : Int32) (0 : Int32) (0 : Int32)).2 x5 (x6 / (6 : Int32))).2.1 = 0 then (f_LH_isOrderSo_199 K97 (f_LH_isOrderSo_111 K97 n) (f_CB_isThere (f_LH_sets10 (f_LH_rows s x5).2 x5 (x6 / (6 : Int32)) (x6 - x6 / (6 : Int32) * (6 : Int32)) (0 : Int32) (0 : Int32) (0 : Int32)).2 x5 (x6 / (6 : Int32))).2.2 x1 x2 x3 x4 x5 x6 (f_LH_sets10 (f_LH_rows s x5).2 x5 (x6 / (6 : Int32)) (x6 - x6 / (6 : Int32) * (6 : Int32)) (0 : Int32) (0 : Int32) (0 : Int32)).1) else (if (f_LH_sets10 (f_LH_rows s x5).2 x5 (x6 / (6 : Int32)) (x6 - x6 / (6 : Int32) * (6 : Int32)) (0 : Int32) (0 : Int32) (0 : Int32)).1 = (-1000000 : Int32) then (f_LH_isOrderSo_195 K97 (f_LH_isOrderSo_111 K97 n) (f_CB_isThere (f_LH_sets10 (f_LH_rows s x5).2 x5 (x6 / (6 : Int32)) (x6 - x6 / (6 : Int32) * (6 : Int32)) (0 : Int32) (0 : Int32) (0 : Int32)).2 x5 (x6 / (6 : Int32))).2.2 x1 x2 x3 x4 x5 x6 (f_LH_sets10 (f_LH_rows s x5).2 x5 (x6 / (6 : Int32)) (x6 - x6 / (6 : Int32) * (6 : Int32)) (0 : Int32) (0 : Int32) (0 : Int32)).1) else (if (f_LH_sets10 (f_LH_rows s x5).2 x5 (x6 / (6 : Int32)) (x6 - x6 / (6 : Int32) * (6 : Int32)) (0 : Int32) (0 : Int32) (0 : Int32)).1 < (-999999 : Int32) then (f_LH_isOrderSo_199 K97 (f_LH_isOrderSo_111 K97 n) (f_CB_isThere (f_LH_sets10 (f_LH_rows s x5).2 x5 (x6 / (6 : Int32)) (x6 - x6 / (6 : Int32) * (6 : Int32)) (0 : Int32) (0 : Int32) (0 : Int32)).2 x5 (x6 / (6 : Int32))).2.2 x1 x2 x3 x4 x5 x6 (f_LH_sets10 (f_LH_rows s x5).2 x5 (x6 / (6 : Int32)) (x6 - x6 / (6 : Int32) * (6 : Int32)) (0 : Int32) (0 : Int32) (0 : Int32)).1) else (if (999999 : Int32) < (f_LH_sets10 (f_LH_rows s x5).2 x5 (x6 / (6 : Int32)) (x6 - x6 / (6 : Int32) * (6 : Int32)) (0 : Int32) (0 : Int32) (0 : Int32)).1 then (f_LH_isOrderSo_199 K97 (f_LH_isOrderSo_111 K97 n) (f_CB_isThere (f_LH_sets10 (f_LH_rows s x5).2 x5 (x6 / (6 : Int32)) (x6 - x6 / (6 : Int32) * (6 : Int32)) (0 : Int32) (0 : Int32) (0 : Int32)).2 x5 (x6 / (6 : Int32))).2.2 x1 x2 x3 x4 x5 x6 (f_LH_sets10 (f_LH_rows s x5).2 x5 (x6 / (6 : Int32)) (x6 - x6 / (6 : Int32) * (6 : Int32)) (0 : Int32) (0 : Int32) (0 : Int32)).1) else (f_LH_isOrderSo_195 K97 (f_LH_isOrderSo_111 K97 n) (f_CB_isThere (f_LH_sets10 (f_LH_rows s x5).2 x5 (x6 / (6 : Int32)) (x6 - x6 / (6 : Int32) * (6 : Int32)) (0 : Int32) (0 : Int32) (0 : Int32)).2 x5 (x6 / (6 : Int32))).2.2 x1 x2 x3 x4 x5 x6 (f_LH_sets10 (f_LH_rows s x5).2 x5 (x6 / (6 : Int32)) (x6 - x6 / (6 : Int32) * (6 : Int32)) (0 : Int32) (0 : Int32) (0 : Int32)).1))))))))
def p_LH_isOrderSo_111 (KP97 : am_M → Int32 → Int32 → Int32 → Int32 → Int32 → Prop) : Nat → am_M → Int32 → Int32 → Int32 → Int32 → Int32 → Int32 → Prop
  | 0, s, x1, x2, x3, x4, x5, x6 => False
  | n + 1, s, x1, x2, x3, x4, x5, x6 => p_LH_rows s x5 ∧ (((((6 : Int32) * (f_LH_rows s x5).1) ≤ x6) → (p_LH_isOrderSo_208 KP97 (f_LH_rows s x5).2 x1 x2 x3 x4 x5 x6)) ∧ (¬ (((6 : Int32) * (f_LH_rows s x5).1) ≤ x6) → ((x4 = 0) → (p_LH_isOrderSo_208 KP97 (f_LH_rows s x5).2 x1 x2 x3 x4 x5 x6)) ∧ (¬ (x4 = 0) → p_LH_sets10 (f_LH_rows s x5).2 x5 (x6 / (6 : Int32)) (x6 - x6 / (6 : Int32) * (6 : Int32)) (0 : Int32) (0 : Int32) (0 : Int32) ∧ ((((f_LH_sets10 (f_LH_rows s x5).2 x5 (x6 / (6 : Int32)) (x6 - x6 / (6 : Int32) * (6 : Int32)) (0 : Int32) (0 : Int32) (0 : Int32)).1 = (-9999999 : Int32)) → (p_LH_isOrderSo_195 KP97 (p_LH_isOrderSo_111 KP97 n) (f_LH_sets10 (f_LH_rows s x5).2 x5 (x6 / (6 : Int32)) (x6 - x6 / (6 : Int32) * (6 : Int32)) (0 : Int32) (0 : Int32) (0 : Int32)).2 x1 x2 x3 x4 x5 x6 (f_LH_sets10 (f_LH_rows s x5).2 x5 (x6 / (6 : Int32)) (x6 - x6 / (6 : Int32) * (6 : Int32)) (0 : Int32) (0 : Int32) (0 : Int32)).1)) ∧ (¬ ((f_LH_sets10 (f_LH_rows s x5).2 x5 (x6 / (6 : Int32)) (x6 - x6 / (6 : Int32) * (6 : Int32)) (0 : Int32) (0 : Int32) (0 : Int32)).1 = (-9999999 : Int32)) → p_CB_isThere (f_LH_sets10 (f_LH_rows s x5).2 x5 (x6 / (6 : Int32)) (x6 - x6 / (6 : Int32) * (6 : Int32)) (0 : Int32) (0 : Int32) (0 : Int32)).2 x5 (x6 / (6 : Int32)) ∧ ((f_CB_isThere (f_LH_sets10 (f_LH_rows s x5).2 x5 (x6 / (6 : Int32)) (x6 - x6 / (6 : Int32) * (6 : Int32)) (0 : Int32) (0 : Int32) (0 : Int32)).2 x5 (x6 / (6 : Int32))).1 = 0 ∧ ((((f_CB_isThere (f_LH_sets10 (f_LH_rows s x5).2 x5 (x6 / (6 : Int32)) (x6 - x6 / (6 : Int32) * (6 : Int32)) (0 : Int32) (0 : Int32) (0 : Int32)).2 x5 (x6 / (6 : Int32))).2.1 = 0) → (p_LH_isOrderSo_199 KP97 (p_LH_isOrderSo_111 KP97 n) (f_CB_isThere (f_LH_sets10 (f_LH_rows s x5).2 x5 (x6 / (6 : Int32)) (x6 - x6 / (6 : Int32) * (6 : Int32)) (0 : Int32) (0 : Int32) (0 : Int32)).2 x5 (x6 / (6 : Int32))).2.2 x1 x2 x3 x4 x5 x6 (f_LH_sets10 (f_LH_rows s x5).2 x5 (x6 / (6 : Int32)) (x6 - x6 / (6 : Int32) * (6 : Int32)) (0 : Int32) (0 : Int32) (0 : Int32)).1)) ∧ (¬ ((f_CB_isThere (f_LH_sets10 (f_LH_rows s x5).2 x5 (x6 / (6 : Int32)) (x6 - x6 / (6 : Int32) * (6 : Int32)) (0 : Int32) (0 : Int32) (0 : Int32)).2 x5 (x6 / (6 : Int32))).2.1 = 0) → (((f_LH_sets10 (f_LH_rows s x5).2 x5 (x6 / (6 : Int32)) (x6 - x6 / (6 : Int32) * (6 : Int32)) (0 : Int32) (0 : Int32) (0 : Int32)).1 = (-1000000 : Int32)) → (p_LH_isOrderSo_195 KP97 (p_LH_isOrderSo_111 KP97 n) (f_CB_isThere (f_LH_sets10 (f_LH_rows s x5).2 x5 (x6 / (6 : Int32)) (x6 - x6 / (6 : Int32) * (6 : Int32)) (0 : Int32) (0 : Int32) (0 : Int32)).2 x5 (x6 / (6 : Int32))).2.2 x1 x2 x3 x4 x5 x6 (f_LH_sets10 (f_LH_rows s x5).2 x5 (x6 / (6 : Int32)) (x6 - x6 / (6 : Int32) * (6 : Int32)) (0 : Int32) (0 : Int32) (0 : Int32)).1)) ∧ (¬ ((f_LH_sets10 (f_LH_rows s x5).2 x5 (x6 / (6 : Int32)) (x6 - x6 / (6 : Int32) * (6 : Int32)) (0 : Int32) (0 : Int32) (0 : Int32)).1 = (-1000000 : Int32)) → (((f_LH_sets10 (f_LH_rows s x5).2 x5 (x6 / (6 : Int32)) (x6 - x6 / (6 : Int32) * (6 : Int32)) (0 : Int32) (0 : Int32) (0 : Int32)).1 < (-999999 : Int32)) → (p_LH_isOrderSo_199 KP97 (p_LH_isOrderSo_111 KP97 n) (f_CB_isThere (f_LH_sets10 (f_LH_rows s x5).2 x5 (x6 / (6 : Int32)) (x6 - x6 / (6 : Int32) * (6 : Int32)) (0 : Int32) (0 : Int32) (0 : Int32)).2 x5 (x6 / (6 : Int32))).2.2 x1 x2 x3 x4 x5 x6 (f_LH_sets10 (f_LH_rows s x5).2 x5 (x6 / (6 : Int32)) (x6 - x6 / (6 : Int32) * (6 : Int32)) (0 : Int32) (0 : Int32) (0 : Int32)).1)) ∧ (¬ ((f_LH_sets10 (f_LH_rows s x5).2 x5 (x6 / (6 : Int32)) (x6 - x6 / (6 : Int32) * (6 : Int32)) (0 : Int32) (0 : Int32) (0 : Int32)).1 < (-999999 : Int32)) → (((999999 : Int32) < (f_LH_sets10 (f_LH_rows s x5).2 x5 (x6 / (6 : Int32)) (x6 - x6 / (6 : Int32) * (6 : Int32)) (0 : Int32) (0 : Int32) (0 : Int32)).1) → (p_LH_isOrderSo_199 KP97 (p_LH_isOrderSo_111 KP97 n) (f_CB_isThere (f_LH_sets10 (f_LH_rows s x5).2 x5 (x6 / (6 : Int32)) (x6 - x6 / (6 : Int32) * (6 : Int32)) (0 : Int32) (0 : Int32) (0 : Int32)).2 x5 (x6 / (6 : Int32))).2.2 x1 x2 x3 x4 x5 x6 (f_LH_sets10 (f_LH_rows s x5).2 x5 (x6 / (6 : Int32)) (x6 - x6 / (6 : Int32) * (6 : Int32)) (0 : Int32) (0 : Int32) (0 : Int32)).1)) ∧ (¬ ((999999 : Int32) < (f_LH_sets10 (f_LH_rows s x5).2 x5 (x6 / (6 : Int32)) (x6 - x6 / (6 : Int32) * (6 : Int32)) (0 : Int32) (0 : Int32) (0 : Int32)).1) → (p_LH_isOrderSo_195 KP97 (p_LH_isOrderSo_111 KP97 n) (f_CB_isThere (f_LH_sets10 (f_LH_rows s x5).2 x5 (x6 / (6 : Int32)) (x6 - x6 / (6 : Int32) * (6 : Int32)) (0 : Int32) (0 : Int32) (0 : Int32)).2 x5 (x6 / (6 : Int32))).2.2 x1 x2 x3 x4 x5 x6 (f_LH_sets10 (f_LH_rows s x5).2 x5 (x6 / (6 : Int32)) (x6 - x6 / (6 : Int32) * (6 : Int32)) (0 : Int32) (0 : Int32) (0 : Int32)).1))))))))))))
set_option maxRecDepth 100000 in
theorem w_LH_isOrderSo_111 {l : Launch} {g : am_Gl} (hg : g.2.2.2.1 = true) {ad0 : Nat → Nat} {K97 : am_M → Int32 → Int32 → Int32 → Int32 → Int32 → Int32 × am_M} {KP97 : am_M → Int32 → Int32 → Int32 → Int32 → Int32 → Prop} {β97 : Nat} (hβ97 : β97 ≤ 3724) (hK97 : ∀ (s : am_M) (x1 : Int32) (x2 : Int32) (x3 : Int32) (x4 : Int32) (x5 : Int32) (k z : Nat), k ≤ β97 → z ≤ 6 * β97 → KP97 s x1 x2 x3 x4 x5 → AW l g m_LH_isOrderSo 207 ad0 (am_oC (K97 s x1 x2 x3 x4 x5)) k z 207 s 97 [(0, .ref 0), (1, .int x1), (2, .int x2), (3, .int x3), (4, .int x4), (5, .int x5)] []) : ∀ (n : Nat) (s : am_M) (x1 : Int32) (x2 : Int32) (x3 : Int32) (x4 : Int32) (x5 : Int32) (x6 : Int32) (k z : Nat), k + 4 * n + 0 ≤ β97 → z + 24 * n + 0 ≤ 6 * β97 → p_LH_isOrderSo_111 KP97 n s x1 x2 x3 x4 x5 x6 → AW l g m_LH_isOrderSo 207 ad0 (am_oC (f_LH_isOrderSo_111 K97 n s x1 x2 x3 x4 x5 x6)) k z 207 s 111 [(0, .ref 0), (1, .int x1), (2, .int x2), (3, .int x3), (4, .int x4), (5, .int x5), (6, .int x6)] [] := by
  intro n
  induction n with
  | zero => intro s x1 x2 x3 x4 x5 x6 k z _ _ h; exact h.elim
  | succ n ih =>
    intro s x1 x2 x3 x4 x5 x6 k z hk hz h
    obtain ⟨β111, hb111⟩ : ∃ b, b + 4 * n + 0 = β97 := ⟨β97 - (4 * n + 0), by omega⟩
    have hβ111 : β111 + 0 ≤ β97 := by omega
    have hK111 : ∀ (s : am_M) (x1 : Int32) (x2 : Int32) (x3 : Int32) (x4 : Int32) (x5 : Int32) (x6 : Int32) (k z : Nat), k ≤ β111 → z ≤ 6 * β111 → (p_LH_isOrderSo_111 KP97 n) s x1 x2 x3 x4 x5 x6 → AW l g m_LH_isOrderSo 207 ad0 (am_oC ((f_LH_isOrderSo_111 K97 n) s x1 x2 x3 x4 x5 x6)) k z 207 s 111 [(0, .ref 0), (1, .int x1), (2, .int x2), (3, .int x3), (4, .int x4), (5, .int x5), (6, .int x6)] [] := fun s x1 x2 x3 x4 x5 x6 k z h1 h2 h3 => ih s x1 x2 x3 x4 x5 x6 k z (by omega) (by omega) h3
    refine am_iload (j := 6) d_LH_isOrderSo_111 rfl ?_
    refine am_bipush (v := (6 : Int32)) d_LH_isOrderSo_113 (by decide) ?_
    refine am_aload_n (j := 0) d_LH_isOrderSo_115 rfl rfl ?_
    refine am_iload (j := 5) d_LH_isOrderSo_116 rfl ?_
    obtain ⟨hc, h⟩ := h
    refine ak9_SX (as := [.ref 0, .int x5]) (rest := [.int (6 : Int32), .int x6]) d_LH_isOrderSo_118 cw_LH_isOrderSo_118 rfl (am_1C (ct_LH_rows hg hc)) rfl rfl (Nat.le_of_ble_eq_true rfl) (by show k + 1 ≤ 3724; omega) (by show z + 6 ≤ 22344; omega) ?_
    refine am_imul d_LH_isOrderSo_121 ?_
    refine aj_ge (F := am_oC) (tgt := 208) d_LH_isOrderSo_122 (by decide) (fun c => ?_) (fun c => ?_)
    · have h := h.1 c
      exact w_LH_isOrderSo_208 hg hβ97 hK97 (by show k + 1 + 0 ≤ β97; omega) (by show z + 6 + 0 ≤ 6 * β97; omega) h
    · have h := h.2 c
      refine am_iload (j := 4) d_LH_isOrderSo_125 rfl ?_
      refine ai_eq (F := am_oC) (tgt := 208) d_LH_isOrderSo_127 (by decide) (fun c => ?_) (fun c => ?_)
      · have h := h.1 c
        exact w_LH_isOrderSo_208 hg hβ97 hK97 (by show k + 1 + 0 ≤ β97; omega) (by show z + 6 + 0 ≤ 6 * β97; omega) h
      · have h := h.2 c
        refine am_aload_n (j := 0) d_LH_isOrderSo_130 rfl rfl ?_
        refine am_bipush (v := (10 : Int32)) d_LH_isOrderSo_131 (by decide) ?_
        refine am_iload (j := 5) d_LH_isOrderSo_133 rfl ?_
        refine am_iload (j := 6) d_LH_isOrderSo_135 rfl ?_
        refine am_bipush (v := (6 : Int32)) d_LH_isOrderSo_137 (by decide) ?_
        refine am_idiv d_LH_isOrderSo_139 (by decide) ?_
        refine am_iload (j := 6) d_LH_isOrderSo_140 rfl ?_
        refine am_bipush (v := (6 : Int32)) d_LH_isOrderSo_142 (by decide) ?_
        refine am_irem d_LH_isOrderSo_144 (by decide) ?_
        refine am_iconst (v := (0 : Int32)) d_LH_isOrderSo_145 (by decide) ?_
        refine am_iconst (v := (0 : Int32)) d_LH_isOrderSo_146 (by decide) ?_
        refine am_iconst (v := (0 : Int32)) d_LH_isOrderSo_147 (by decide) ?_
        obtain ⟨hc, h⟩ := h
        refine ak9_SX (as := [.ref 0, .int (10 : Int32), .int x5, .int (x6 / (6 : Int32)), .int (x6 - x6 / (6 : Int32) * (6 : Int32)), .int (0 : Int32), .int (0 : Int32), .int (0 : Int32)]) (rest := []) d_LH_isOrderSo_148 cw_LH_isOrderSo_148 rfl (am_1C (ct_LH_sets10 hg hc)) rfl rfl (Nat.le_of_ble_eq_true rfl) (by show k + 1 + 2 ≤ 3724; omega) (by show z + 6 + 12 ≤ 22344; omega) ?_
        refine am_istore (lv2 := [(7, .int (f_LH_sets10 (f_LH_rows s x5).2 x5 (x6 / (6 : Int32)) (x6 - x6 / (6 : Int32) * (6 : Int32)) (0 : Int32) (0 : Int32) (0 : Int32)).1), (0, .ref 0), (1, .int x1), (2, .int x2), (3, .int x3), (4, .int x4), (5, .int x5), (6, .int x6)]) d_LH_isOrderSo_151 (by decide) rfl ?_
        refine am_iload (j := 0) d_LH_isOrderSo_153 rfl ?_
        refine am_ldc (v := (-9999999 : Int32)) d_LH_isOrderSo_155 aw_3_220 ?_
        refine aj_eq (F := am_oC) (tgt := 195) d_LH_isOrderSo_157 (by decide) (fun c => ?_) (fun c => ?_)
        · have h := h.1 c
          refine am_sub [1, 2, 3, 4, 5, 6, 7, 0] (lv2 := [(0, .ref 0), (1, .int x1), (2, .int x2), (3, .int x3), (4, .int x4), (5, .int x5), (6, .int x6), (7, .int (f_LH_sets10 (f_LH_rows s x5).2 x5 (x6 / (6 : Int32)) (x6 - x6 / (6 : Int32) * (6 : Int32)) (0 : Int32) (0 : Int32) (0 : Int32)).1)]) rfl ?_
          exact w_LH_isOrderSo_195 hg hβ97 hK97 hβ111 hK111 (by show k + 1 + 2 + 0 ≤ β111; omega) (by show z + 6 + 12 + 0 ≤ 6 * β111; omega) h
        · have h := h.2 c
          refine am_aload_n (j := 1) d_LH_isOrderSo_160 rfl rfl ?_
          refine am_iload (j := 6) d_LH_isOrderSo_161 rfl ?_
          refine am_iload (j := 7) d_LH_isOrderSo_163 rfl ?_
          refine am_bipush (v := (6 : Int32)) d_LH_isOrderSo_165 (by decide) ?_
          refine am_idiv d_LH_isOrderSo_167 (by decide) ?_
          obtain ⟨hc, h⟩ := h
          obtain ⟨h0, h⟩ := h
          refine ak9_VX (as := [.int x5, .int (x6 / (6 : Int32))]) (rest := []) d_LH_isOrderSo_168 cw_LH_isOrderSo_168 rfl (am_1E h0 (ct_CB_isThere hg hc)) rfl rfl rc_0 (Nat.le_of_ble_eq_true rfl) (by show k + 1 + 2 + 1 ≤ 3724; omega) (by show z + 6 + 12 + 6 ≤ 22344; omega) ?_
          refine ai_eq (F := am_oC) (tgt := 199) d_LH_isOrderSo_171 (by decide) (fun c => ?_) (fun c => ?_)
          · have h := h.1 c
            refine am_sub [1, 2, 3, 4, 5, 6, 7, 0] (lv2 := [(0, .ref 0), (1, .int x1), (2, .int x2), (3, .int x3), (4, .int x4), (5, .int x5), (6, .int x6), (7, .int (f_LH_sets10 (f_LH_rows s x5).2 x5 (x6 / (6 : Int32)) (x6 - x6 / (6 : Int32) * (6 : Int32)) (0 : Int32) (0 : Int32) (0 : Int32)).1)]) rfl ?_
            exact w_LH_isOrderSo_199 hg hβ97 hK97 hβ111 hK111 (by show k + 1 + 2 + 1 + 0 ≤ β111; omega) (by show z + 6 + 12 + 6 + 0 ≤ 6 * β111; omega) h
          · have h := h.2 c
            refine am_iload (j := 0) d_LH_isOrderSo_174 rfl ?_
            refine am_ldc (v := (-1000000 : Int32)) d_LH_isOrderSo_176 aw_4_168 ?_
            refine aj_eq (F := am_oC) (tgt := 195) d_LH_isOrderSo_178 (by decide) (fun c => ?_) (fun c => ?_)
            · have h := h.1 c
              refine am_sub [1, 2, 3, 4, 5, 6, 7, 0] (lv2 := [(0, .ref 0), (1, .int x1), (2, .int x2), (3, .int x3), (4, .int x4), (5, .int x5), (6, .int x6), (7, .int (f_LH_sets10 (f_LH_rows s x5).2 x5 (x6 / (6 : Int32)) (x6 - x6 / (6 : Int32) * (6 : Int32)) (0 : Int32) (0 : Int32) (0 : Int32)).1)]) rfl ?_
              exact w_LH_isOrderSo_195 hg hβ97 hK97 hβ111 hK111 (by show k + 1 + 2 + 1 + 0 ≤ β111; omega) (by show z + 6 + 12 + 6 + 0 ≤ 6 * β111; omega) h
            · have h := h.2 c
              refine am_iload (j := 0) d_LH_isOrderSo_181 rfl ?_
              refine am_ldc (v := (-999999 : Int32)) d_LH_isOrderSo_183 aw_5_125 ?_
              refine aj_lt (F := am_oC) (tgt := 199) d_LH_isOrderSo_185 (by decide) (fun c => ?_) (fun c => ?_)
              · have h := h.1 c
                refine am_sub [1, 2, 3, 4, 5, 6, 7, 0] (lv2 := [(0, .ref 0), (1, .int x1), (2, .int x2), (3, .int x3), (4, .int x4), (5, .int x5), (6, .int x6), (7, .int (f_LH_sets10 (f_LH_rows s x5).2 x5 (x6 / (6 : Int32)) (x6 - x6 / (6 : Int32) * (6 : Int32)) (0 : Int32) (0 : Int32) (0 : Int32)).1)]) rfl ?_
                exact w_LH_isOrderSo_199 hg hβ97 hK97 hβ111 hK111 (by show k + 1 + 2 + 1 + 0 ≤ β111; omega) (by show z + 6 + 12 + 6 + 0 ≤ 6 * β111; omega) h
              · have h := h.2 c
                refine am_iload (j := 0) d_LH_isOrderSo_188 rfl ?_
                refine am_ldc (v := (999999 : Int32)) d_LH_isOrderSo_190 aw_5_126 ?_
                refine aj_gt (F := am_oC) (tgt := 199) d_LH_isOrderSo_192 (by decide) (fun c => ?_) (fun c => ?_)
                · have h := h.1 c
                  refine am_sub [1, 2, 3, 4, 5, 6, 7, 0] (lv2 := [(0, .ref 0), (1, .int x1), (2, .int x2), (3, .int x3), (4, .int x4), (5, .int x5), (6, .int x6), (7, .int (f_LH_sets10 (f_LH_rows s x5).2 x5 (x6 / (6 : Int32)) (x6 - x6 / (6 : Int32) * (6 : Int32)) (0 : Int32) (0 : Int32) (0 : Int32)).1)]) rfl ?_
                  exact w_LH_isOrderSo_199 hg hβ97 hK97 hβ111 hK111 (by show k + 1 + 2 + 1 + 0 ≤ β111; omega) (by show z + 6 + 12 + 6 + 0 ≤ 6 * β111; omega) h
                · have h := h.2 c
                  refine am_sub [1, 2, 3, 4, 5, 6, 7, 0] (lv2 := [(0, .ref 0), (1, .int x1), (2, .int x2), (3, .int x3), (4, .int x4), (5, .int x5), (6, .int x6), (7, .int (f_LH_sets10 (f_LH_rows s x5).2 x5 (x6 / (6 : Int32)) (x6 - x6 / (6 : Int32) * (6 : Int32)) (0 : Int32) (0 : Int32) (0 : Int32)).1)]) rfl ?_
                  exact w_LH_isOrderSo_195 hg hβ97 hK97 hβ111 hK111 (by show k + 1 + 2 + 1 + 0 ≤ β111; omega) (by show z + 6 + 12 + 6 + 0 ≤ 6 * β111; omega) h
def f_LH_isOrderSo_97  : Nat → am_M → Int32 → Int32 → Int32 → Int32 → Int32 → Int32 × am_M
  | 0, s, x1, x2, x3, x4, x5 => (0, s)
  | n + 1, s, x1, x2, x3, x4, x5 => (if (4 : Int32) ≤ x5 then (if x4 = 0 then ((0 : Int32), s) else (if (24 : Int32) < x2 then ((0 : Int32), s) else ((1 : Int32), s))) else (if x4 = 0 then (if x4 = 0 then ((0 : Int32), s) else (if (24 : Int32) < x2 then ((0 : Int32), s) else ((1 : Int32), s))) else (f_LH_isOrderSo_111 (f_LH_isOrderSo_97  n) 181 s x1 x2 x3 x4 x5 (0 : Int32))))
def p_LH_isOrderSo_97  : Nat → am_M → Int32 → Int32 → Int32 → Int32 → Int32 → Prop
  | 0, s, x1, x2, x3, x4, x5 => False
  | n + 1, s, x1, x2, x3, x4, x5 => (((4 : Int32) ≤ x5) → ((x4 = 0) → True) ∧ (¬ (x4 = 0) → (((24 : Int32) < x2) → True) ∧ (¬ ((24 : Int32) < x2) → True))) ∧ (¬ ((4 : Int32) ≤ x5) → ((x4 = 0) → ((x4 = 0) → True) ∧ (¬ (x4 = 0) → (((24 : Int32) < x2) → True) ∧ (¬ ((24 : Int32) < x2) → True))) ∧ (¬ (x4 = 0) → (p_LH_isOrderSo_111 (p_LH_isOrderSo_97  n) 181 s x1 x2 x3 x4 x5 (0 : Int32))))
set_option maxRecDepth 100000 in
theorem w_LH_isOrderSo_97 {l : Launch} {g : am_Gl} (hg : g.2.2.2.1 = true) {ad0 : Nat → Nat}  : ∀ (n : Nat) (s : am_M) (x1 : Int32) (x2 : Int32) (x3 : Int32) (x4 : Int32) (x5 : Int32) (k z : Nat), k + 724 * n ≤ 3724 → z + 4344 * n ≤ 6 * 3724 → p_LH_isOrderSo_97  n s x1 x2 x3 x4 x5 → AW l g m_LH_isOrderSo 207 ad0 (am_oC (f_LH_isOrderSo_97  n s x1 x2 x3 x4 x5)) k z 207 s 97 [(0, .ref 0), (1, .int x1), (2, .int x2), (3, .int x3), (4, .int x4), (5, .int x5)] [] := by
  intro n
  induction n with
  | zero => intro s x1 x2 x3 x4 x5 k z _ _ h; exact h.elim
  | succ n ih =>
    intro s x1 x2 x3 x4 x5 k z hk hz h
    obtain ⟨β97, hb97⟩ : ∃ b, b + 724 * n + 0 = 3724 := ⟨3724 - (724 * n + 0), by omega⟩
    have hβ97 : β97 ≤ 3724 := by omega
    have hK97 : ∀ (s : am_M) (x1 : Int32) (x2 : Int32) (x3 : Int32) (x4 : Int32) (x5 : Int32) (k z : Nat), k ≤ β97 → z ≤ 6 * β97 → (p_LH_isOrderSo_97  n) s x1 x2 x3 x4 x5 → AW l g m_LH_isOrderSo 207 ad0 (am_oC ((f_LH_isOrderSo_97  n) s x1 x2 x3 x4 x5)) k z 207 s 97 [(0, .ref 0), (1, .int x1), (2, .int x2), (3, .int x3), (4, .int x4), (5, .int x5)] [] := fun s x1 x2 x3 x4 x5 k z h1 h2 h3 => ih s x1 x2 x3 x4 x5 k z (by omega) (by omega) h3
    refine am_iload (j := 5) d_LH_isOrderSo_97 rfl ?_
    refine am_iconst (v := (4 : Int32)) d_LH_isOrderSo_99 (by decide) ?_
    refine aj_ge (F := am_oC) (tgt := 214) d_LH_isOrderSo_100 (by decide) (fun c => ?_) (fun c => ?_)
    · have h := h.1 c
      refine am_iload (j := 4) d_LH_isOrderSo_214 rfl ?_
      refine ai_eq (F := am_oC) (tgt := 229) d_LH_isOrderSo_216 (by decide) (fun c => ?_) (fun c => ?_)
      · have h := h.1 c
        refine am_iconst (v := (0 : Int32)) d_LH_isOrderSo_229 (by decide) ?_
        exact am_iret d_LH_isOrderSo_230 rfl (am_bool (Or.inl rfl)).1 (by show k ≤ 3724; omega) (by show z ≤ 22344; omega) am_oC_ok
      · have h := h.2 c
        refine am_iload_n (j := 2) d_LH_isOrderSo_219 rfl rfl ?_
        refine am_bipush (v := (24 : Int32)) d_LH_isOrderSo_220 (by decide) ?_
        refine aj_gt (F := am_oC) (tgt := 229) d_LH_isOrderSo_222 (by decide) (fun c => ?_) (fun c => ?_)
        · have h := h.1 c
          refine am_iconst (v := (0 : Int32)) d_LH_isOrderSo_229 (by decide) ?_
          exact am_iret d_LH_isOrderSo_230 rfl (am_bool (Or.inl rfl)).1 (by show k ≤ 3724; omega) (by show z ≤ 22344; omega) am_oC_ok
        · have h := h.2 c
          refine am_iconst (v := (1 : Int32)) d_LH_isOrderSo_225 (by decide) ?_
          refine am_goto (tgt := 230) d_LH_isOrderSo_226 (by decide) ?_
          exact am_iret d_LH_isOrderSo_230 rfl (am_bool (Or.inr rfl)).1 (by show k ≤ 3724; omega) (by show z ≤ 22344; omega) am_oC_ok
    · have h := h.2 c
      refine am_iload (j := 4) d_LH_isOrderSo_103 rfl ?_
      refine ai_eq (F := am_oC) (tgt := 214) d_LH_isOrderSo_105 (by decide) (fun c => ?_) (fun c => ?_)
      · have h := h.1 c
        refine am_iload (j := 4) d_LH_isOrderSo_214 rfl ?_
        refine ai_eq (F := am_oC) (tgt := 229) d_LH_isOrderSo_216 (by decide) (fun c => ?_) (fun c => ?_)
        · have h := h.1 c
          refine am_iconst (v := (0 : Int32)) d_LH_isOrderSo_229 (by decide) ?_
          exact am_iret d_LH_isOrderSo_230 rfl (am_bool (Or.inl rfl)).1 (by show k ≤ 3724; omega) (by show z ≤ 22344; omega) am_oC_ok
        · have h := h.2 c
          refine am_iload_n (j := 2) d_LH_isOrderSo_219 rfl rfl ?_
          refine am_bipush (v := (24 : Int32)) d_LH_isOrderSo_220 (by decide) ?_
          refine aj_gt (F := am_oC) (tgt := 229) d_LH_isOrderSo_222 (by decide) (fun c => ?_) (fun c => ?_)
          · have h := h.1 c
            refine am_iconst (v := (0 : Int32)) d_LH_isOrderSo_229 (by decide) ?_
            exact am_iret d_LH_isOrderSo_230 rfl (am_bool (Or.inl rfl)).1 (by show k ≤ 3724; omega) (by show z ≤ 22344; omega) am_oC_ok
          · have h := h.2 c
            refine am_iconst (v := (1 : Int32)) d_LH_isOrderSo_225 (by decide) ?_
            refine am_goto (tgt := 230) d_LH_isOrderSo_226 (by decide) ?_
            exact am_iret d_LH_isOrderSo_230 rfl (am_bool (Or.inr rfl)).1 (by show k ≤ 3724; omega) (by show z ≤ 22344; omega) am_oC_ok
      · have h := h.2 c
        refine am_iconst (v := (0 : Int32)) d_LH_isOrderSo_108 (by decide) ?_
        refine am_istore (lv2 := [(6, .int (0 : Int32)), (0, .ref 0), (1, .int x1), (2, .int x2), (3, .int x3), (4, .int x4), (5, .int x5)]) d_LH_isOrderSo_109 (by decide) rfl ?_
        refine am_sub [1, 2, 3, 4, 5, 6, 0] (lv2 := [(0, .ref 0), (1, .int x1), (2, .int x2), (3, .int x3), (4, .int x4), (5, .int x5), (6, .int (0 : Int32))]) rfl ?_
        exact w_LH_isOrderSo_111 hg hβ97 hK97 181 _ _ _ _ _ _ _ _ _ (by omega) (by omega) h
def f_LH_isOrderSo_94  (s : am_M) (x1 : Int32) (x2 : Int32) (x3 : Int32) (x4 : Int32) : Int32 × am_M := (f_LH_isOrderSo_97 5 s x1 x2 x3 x4 (0 : Int32))
def p_LH_isOrderSo_94  (s : am_M) (x1 : Int32) (x2 : Int32) (x3 : Int32) (x4 : Int32) : Prop := (p_LH_isOrderSo_97 5 s x1 x2 x3 x4 (0 : Int32))
set_option maxRecDepth 100000 in
theorem w_LH_isOrderSo_94 {l : Launch} {g : am_Gl} (hg : g.2.2.2.1 = true) {ad0 : Nat → Nat}  {s : am_M} {x1 : Int32} {x2 : Int32} {x3 : Int32} {x4 : Int32} {k z : Nat} (hk : k ≤ 104) (hz : z ≤ 624) (h : p_LH_isOrderSo_94  s x1 x2 x3 x4) : AW l g m_LH_isOrderSo 207 ad0 (am_oC (f_LH_isOrderSo_94  s x1 x2 x3 x4)) k z 207 s 94 [(0, .ref 0), (1, .int x1), (2, .int x2), (3, .int x3), (4, .int x4)] [] := by
  refine am_iconst (v := (0 : Int32)) d_LH_isOrderSo_94 (by decide) ?_
  refine am_istore (lv2 := [(5, .int (0 : Int32)), (0, .ref 0), (1, .int x1), (2, .int x2), (3, .int x3), (4, .int x4)]) d_LH_isOrderSo_95 (by decide) rfl ?_
  refine am_sub [1, 2, 3, 4, 5, 0] (lv2 := [(0, .ref 0), (1, .int x1), (2, .int x2), (3, .int x3), (4, .int x4), (5, .int (0 : Int32))]) rfl ?_
  exact w_LH_isOrderSo_97 hg  5 _ _ _ _ _ _ _ _ (by omega) (by omega) h
def f_LH_isOrderSo_16  : Nat → am_M → Int32 → Int32 → Int32 → Int32 → Int32 × am_M
  | 0, s, x1, x2, x3, x4 => (0, s)
  | n + 1, s, x1, x2, x3, x4 => (if x3 < 0 then (f_LH_isOrderSo_94 s x1 x2 x3 x4) else (if x4 = 0 then (f_LH_isOrderSo_94 s x1 x2 x3 x4) else (if (6 : Int32) ≤ (x3 - x3 / (10 : Int32) * (10 : Int32)) then (f_LH_isOrderSo_69 (f_LH_isOrderSo_16  n) s x1 x2 x3 x4 (((6 : Int32) * (x3 / (10 : Int32))) + (x3 - x3 / (10 : Int32) * (10 : Int32)))) else (if (4 : Int32) ≤ (x3 / (10 : Int32)) then (f_LH_isOrderSo_69 (f_LH_isOrderSo_16  n) s x1 x2 x3 x4 (((6 : Int32) * (x3 / (10 : Int32))) + (x3 - x3 / (10 : Int32) * (10 : Int32)))) else (if ((x1 >>> ((((6 : Int32) * (x3 / (10 : Int32))) + (x3 - x3 / (10 : Int32) * (10 : Int32))) &&& 31)) &&& (1 : Int32)) = 0 then (f_LH_isOrderSo_70 (f_LH_isOrderSo_16  n) s x1 x2 x3 x4 (((6 : Int32) * (x3 / (10 : Int32))) + (x3 - x3 / (10 : Int32) * (10 : Int32))) (1 : Int32)) else (f_LH_isOrderSo_69 (f_LH_isOrderSo_16  n) s x1 x2 x3 x4 (((6 : Int32) * (x3 / (10 : Int32))) + (x3 - x3 / (10 : Int32) * (10 : Int32)))))))))
def p_LH_isOrderSo_16  : Nat → am_M → Int32 → Int32 → Int32 → Int32 → Prop
  | 0, s, x1, x2, x3, x4 => False
  | n + 1, s, x1, x2, x3, x4 => ((x3 < 0) → (p_LH_isOrderSo_94 s x1 x2 x3 x4)) ∧ (¬ (x3 < 0) → ((x4 = 0) → (p_LH_isOrderSo_94 s x1 x2 x3 x4)) ∧ (¬ (x4 = 0) → (((6 : Int32) ≤ (x3 - x3 / (10 : Int32) * (10 : Int32))) → (p_LH_isOrderSo_69 (p_LH_isOrderSo_16  n) s x1 x2 x3 x4 (((6 : Int32) * (x3 / (10 : Int32))) + (x3 - x3 / (10 : Int32) * (10 : Int32))))) ∧ (¬ ((6 : Int32) ≤ (x3 - x3 / (10 : Int32) * (10 : Int32))) → (((4 : Int32) ≤ (x3 / (10 : Int32))) → (p_LH_isOrderSo_69 (p_LH_isOrderSo_16  n) s x1 x2 x3 x4 (((6 : Int32) * (x3 / (10 : Int32))) + (x3 - x3 / (10 : Int32) * (10 : Int32))))) ∧ (¬ ((4 : Int32) ≤ (x3 / (10 : Int32))) → ((((x1 >>> ((((6 : Int32) * (x3 / (10 : Int32))) + (x3 - x3 / (10 : Int32) * (10 : Int32))) &&& 31)) &&& (1 : Int32)) = 0) → (p_LH_isOrderSo_70 (p_LH_isOrderSo_16  n) s x1 x2 x3 x4 (((6 : Int32) * (x3 / (10 : Int32))) + (x3 - x3 / (10 : Int32) * (10 : Int32))) (1 : Int32))) ∧ (¬ (((x1 >>> ((((6 : Int32) * (x3 / (10 : Int32))) + (x3 - x3 / (10 : Int32) * (10 : Int32))) &&& 31)) &&& (1 : Int32)) = 0) → (p_LH_isOrderSo_69 (p_LH_isOrderSo_16  n) s x1 x2 x3 x4 (((6 : Int32) * (x3 / (10 : Int32))) + (x3 - x3 / (10 : Int32) * (10 : Int32)))))))))
set_option maxRecDepth 100000 in
theorem w_LH_isOrderSo_16 {l : Launch} {g : am_Gl} (hg : g.2.2.2.1 = true) {ad0 : Nat → Nat}  : ∀ (n : Nat) (s : am_M) (x1 : Int32) (x2 : Int32) (x3 : Int32) (x4 : Int32) (k z : Nat), k + 4 * n ≤ 104 → z + 24 * n ≤ 6 * 104 → p_LH_isOrderSo_16  n s x1 x2 x3 x4 → AW l g m_LH_isOrderSo 207 ad0 (am_oC (f_LH_isOrderSo_16  n s x1 x2 x3 x4)) k z 207 s 16 [(0, .ref 0), (1, .int x1), (2, .int x2), (3, .int x3), (4, .int x4)] [] := by
  intro n
  induction n with
  | zero => intro s x1 x2 x3 x4 k z _ _ h; exact h.elim
  | succ n ih =>
    intro s x1 x2 x3 x4 k z hk hz h
    obtain ⟨β16, hb16⟩ : ∃ b, b + 4 * n + 0 = 104 := ⟨104 - (4 * n + 0), by omega⟩
    have hβ16 : β16 ≤ 104 := by omega
    have hK16 : ∀ (s : am_M) (x1 : Int32) (x2 : Int32) (x3 : Int32) (x4 : Int32) (k z : Nat), k ≤ β16 → z ≤ 6 * β16 → (p_LH_isOrderSo_16  n) s x1 x2 x3 x4 → AW l g m_LH_isOrderSo 207 ad0 (am_oC ((f_LH_isOrderSo_16  n) s x1 x2 x3 x4)) k z 207 s 16 [(0, .ref 0), (1, .int x1), (2, .int x2), (3, .int x3), (4, .int x4)] [] := fun s x1 x2 x3 x4 k z h1 h2 h3 => ih s x1 x2 x3 x4 k z (by omega) (by omega) h3
    refine am_iload_n (j := 3) d_LH_isOrderSo_16 rfl rfl ?_
    refine ai_lt (F := am_oC) (tgt := 94) d_LH_isOrderSo_17 (by decide) (fun c => ?_) (fun c => ?_)
    · have h := h.1 c
      exact w_LH_isOrderSo_94 hg  (by show k ≤ 104; omega) (by show z ≤ 624; omega) h
    · have h := h.2 c
      refine am_iload (j := 4) d_LH_isOrderSo_20 rfl ?_
      refine ai_eq (F := am_oC) (tgt := 94) d_LH_isOrderSo_22 (by decide) (fun c => ?_) (fun c => ?_)
      · have h := h.1 c
        exact w_LH_isOrderSo_94 hg  (by show k ≤ 104; omega) (by show z ≤ 624; omega) h
      · have h := h.2 c
        refine am_bipush (v := (6 : Int32)) d_LH_isOrderSo_25 (by decide) ?_
        refine am_iload_n (j := 3) d_LH_isOrderSo_27 rfl rfl ?_
        refine am_bipush (v := (10 : Int32)) d_LH_isOrderSo_28 (by decide) ?_
        refine am_idiv d_LH_isOrderSo_30 (by decide) ?_
        refine am_imul d_LH_isOrderSo_31 ?_
        refine am_iload_n (j := 3) d_LH_isOrderSo_32 rfl rfl ?_
        refine am_bipush (v := (10 : Int32)) d_LH_isOrderSo_33 (by decide) ?_
        refine am_irem d_LH_isOrderSo_35 (by decide) ?_
        refine am_iadd d_LH_isOrderSo_36 ?_
        refine am_istore (lv2 := [(5, .int (((6 : Int32) * (x3 / (10 : Int32))) + (x3 - x3 / (10 : Int32) * (10 : Int32)))), (0, .ref 0), (1, .int x1), (2, .int x2), (3, .int x3), (4, .int x4)]) d_LH_isOrderSo_37 (by decide) rfl ?_
        refine am_iload_n (j := 4) d_LH_isOrderSo_39 rfl rfl ?_
        refine am_bipush (v := (10 : Int32)) d_LH_isOrderSo_40 (by decide) ?_
        refine am_irem d_LH_isOrderSo_42 (by decide) ?_
        refine am_bipush (v := (6 : Int32)) d_LH_isOrderSo_43 (by decide) ?_
        refine aj_ge (F := am_oC) (tgt := 69) d_LH_isOrderSo_45 (by decide) (fun c => ?_) (fun c => ?_)
        · have h := h.1 c
          refine am_sub [1, 2, 3, 4, 5, 0] (lv2 := [(0, .ref 0), (1, .int x1), (2, .int x2), (3, .int x3), (4, .int x4), (5, .int (((6 : Int32) * (x3 / (10 : Int32))) + (x3 - x3 / (10 : Int32) * (10 : Int32))))]) rfl ?_
          exact w_LH_isOrderSo_69 hg hβ16 hK16 (by show k + 4 ≤ β16; omega) (by show z + 24 ≤ 6 * β16; omega) h
        · have h := h.2 c
          refine am_iload_n (j := 4) d_LH_isOrderSo_48 rfl rfl ?_
          refine am_bipush (v := (10 : Int32)) d_LH_isOrderSo_49 (by decide) ?_
          refine am_idiv d_LH_isOrderSo_51 (by decide) ?_
          refine am_iconst (v := (4 : Int32)) d_LH_isOrderSo_52 (by decide) ?_
          refine aj_ge (F := am_oC) (tgt := 69) d_LH_isOrderSo_53 (by decide) (fun c => ?_) (fun c => ?_)
          · have h := h.1 c
            refine am_sub [1, 2, 3, 4, 5, 0] (lv2 := [(0, .ref 0), (1, .int x1), (2, .int x2), (3, .int x3), (4, .int x4), (5, .int (((6 : Int32) * (x3 / (10 : Int32))) + (x3 - x3 / (10 : Int32) * (10 : Int32))))]) rfl ?_
            exact w_LH_isOrderSo_69 hg hβ16 hK16 (by show k + 4 ≤ β16; omega) (by show z + 24 ≤ 6 * β16; omega) h
          · have h := h.2 c
            refine am_iload_n (j := 2) d_LH_isOrderSo_56 rfl rfl ?_
            refine am_iload (j := 0) d_LH_isOrderSo_57 rfl ?_
            refine am_ishr d_LH_isOrderSo_59 ?_
            refine am_iconst (v := (1 : Int32)) d_LH_isOrderSo_60 (by decide) ?_
            refine am_iand d_LH_isOrderSo_61 ?_
            refine ai_ne (F := am_oC) (tgt := 69) d_LH_isOrderSo_62 (by decide) (fun c => ?_) (fun c => ?_)
            · have h := h.2 c
              refine am_sub [1, 2, 3, 4, 5, 0] (lv2 := [(0, .ref 0), (1, .int x1), (2, .int x2), (3, .int x3), (4, .int x4), (5, .int (((6 : Int32) * (x3 / (10 : Int32))) + (x3 - x3 / (10 : Int32) * (10 : Int32))))]) rfl ?_
              exact w_LH_isOrderSo_69 hg hβ16 hK16 (by show k + 4 ≤ β16; omega) (by show z + 24 ≤ 6 * β16; omega) h
            · have h := h.1 c
              refine am_iconst (v := (1 : Int32)) d_LH_isOrderSo_65 (by decide) ?_
              refine am_goto (tgt := 70) d_LH_isOrderSo_66 (by decide) ?_
              refine am_sub [1, 2, 3, 4, 5, 0] (lv2 := [(0, .ref 0), (1, .int x1), (2, .int x2), (3, .int x3), (4, .int x4), (5, .int (((6 : Int32) * (x3 / (10 : Int32))) + (x3 - x3 / (10 : Int32) * (10 : Int32))))]) rfl ?_
              exact w_LH_isOrderSo_70 hg hβ16 hK16 (by show k + 4 ≤ β16; omega) (by show z + 24 ≤ 6 * β16; omega) h
def f_LH_isOrderSo (s : am_M)  : Int32 × am_M := (f_LH_isOrderSo_16 25 (f_LH_does s (4 : Int32) (0 : Int32) (0 : Int32) (0 : Int32)).2 (0 : Int32) (0 : Int32) (f_LH_does s (4 : Int32) (0 : Int32) (0 : Int32) (0 : Int32)).1 (1 : Int32))
def p_LH_isOrderSo (s : am_M)  : Prop := p_LH_does s (4 : Int32) (0 : Int32) (0 : Int32) (0 : Int32) ∧ ((p_LH_isOrderSo_16 25 (f_LH_does s (4 : Int32) (0 : Int32) (0 : Int32) (0 : Int32)).2 (0 : Int32) (0 : Int32) (f_LH_does s (4 : Int32) (0 : Int32) (0 : Int32) (0 : Int32)).1 (1 : Int32)))
set_option maxRecDepth 100000 in
theorem w_LH_isOrderSo {l : Launch} {g : am_Gl} (hg : g.2.2.2.1 = true) {ad0 : Nat → Nat} {s : am_M}  (h : p_LH_isOrderSo s ) : AW l g m_LH_isOrderSo 207 ad0 (am_oC (f_LH_isOrderSo s )) 0 0 207 s 0 [(0, .ref 0)] [] := by
  refine am_iconst (v := (0 : Int32)) d_LH_isOrderSo_0 (by decide) ?_
  refine am_istore_n (lv2 := [(1, .int (0 : Int32)), (0, .ref 0)]) d_LH_isOrderSo_1 rfl (by decide) rfl ?_
  refine am_iconst (v := (0 : Int32)) d_LH_isOrderSo_2 (by decide) ?_
  refine am_istore_n (lv2 := [(2, .int (0 : Int32)), (1, .int (0 : Int32)), (0, .ref 0)]) d_LH_isOrderSo_3 rfl (by decide) rfl ?_
  refine am_aload_n (j := 2) d_LH_isOrderSo_4 rfl rfl ?_
  refine am_iconst (v := (4 : Int32)) d_LH_isOrderSo_5 (by decide) ?_
  refine am_iconst (v := (0 : Int32)) d_LH_isOrderSo_6 (by decide) ?_
  refine am_iconst (v := (0 : Int32)) d_LH_isOrderSo_7 (by decide) ?_
  refine am_iconst (v := (0 : Int32)) d_LH_isOrderSo_8 (by decide) ?_
  obtain ⟨hc, h⟩ := h
  refine ak9_SX (as := [.ref 0, .int (4 : Int32), .int (0 : Int32), .int (0 : Int32), .int (0 : Int32)]) (rest := []) d_LH_isOrderSo_9 cw_LH_isOrderSo_9 rfl (am_1C (ct_LH_does hg hc)) rfl rfl (Nat.le_of_ble_eq_true rfl) (by show 0 + 4 ≤ 3724; omega) (by show 0 + 24 ≤ 22344; omega) ?_
  refine am_istore_n (lv2 := [(3, .int (f_LH_does s (4 : Int32) (0 : Int32) (0 : Int32) (0 : Int32)).1), (2, .int (0 : Int32)), (1, .int (0 : Int32)), (0, .ref 0)]) d_LH_isOrderSo_12 rfl (by decide) rfl ?_
  refine am_iconst (v := (1 : Int32)) d_LH_isOrderSo_13 (by decide) ?_
  refine am_istore (lv2 := [(4, .int (1 : Int32)), (3, .int (f_LH_does s (4 : Int32) (0 : Int32) (0 : Int32) (0 : Int32)).1), (2, .int (0 : Int32)), (1, .int (0 : Int32)), (0, .ref 0)]) d_LH_isOrderSo_14 (by decide) rfl ?_
  refine am_sub [4, 3, 2, 1, 0] (lv2 := [(0, .ref 0), (1, .int (0 : Int32)), (2, .int (0 : Int32)), (3, .int (f_LH_does s (4 : Int32) (0 : Int32) (0 : Int32) (0 : Int32)).1), (4, .int (1 : Int32))]) rfl ?_
  exact w_LH_isOrderSo_16 hg  25 _ _ _ _ _ _ _ (by show 0 + 4 + 4 * 25 ≤ 104; omega) (by show 0 + 24 + 24 * 25 ≤ 6 * 104; omega) h
theorem ct_LH_isOrderSo {l : Launch} {g : am_Gl} (hg : g.2.2.2.1 = true) {s : am_M}  (h : p_LH_isOrderSo s ) : AC l g m_LH_isOrderSo 207 s [.ref 0] (am_oC (f_LH_isOrderSo s )) := am_enter ok_LH_isOrderSo rfl (Nat.le_of_ble_eq_true rfl) rfl (fun ad0 => w_LH_isOrderSo hg h)
theorem cw_LH_isBegun_1 : am_cv m_LH_isBegun m_CB_addTable 8 0 := ⟨⟨ok_CB_addTable, rfl, by decide +kernel, by decide, by decide⟩, aw_1_199, aw_1_200, aw_1_201⟩
theorem cw_LH_isBegun_8 : am_cv m_LH_isBegun m_CB_addTable 8 0 := ⟨⟨ok_CB_addTable, rfl, by decide +kernel, by decide, by decide⟩, aw_1_199, aw_1_200, aw_1_201⟩
theorem cw_LH_isBegun_16 : am_cv m_LH_isBegun m_CB_addTable 8 0 := ⟨⟨ok_CB_addTable, rfl, by decide +kernel, by decide, by decide⟩, aw_1_199, aw_1_200, aw_1_201⟩
theorem cw_LH_isBegun_29 : am_cv m_LH_isBegun m_CB_addNumber 14 3 := ⟨⟨ok_CB_addNumber, rfl, by decide +kernel, by decide, by decide⟩, aw_2_30, aw_2_31, aw_2_32⟩
theorem cw_LH_isBegun_39 : am_cv m_LH_isBegun m_CB_addLink 18 3 := ⟨⟨ok_CB_addLink, rfl, by decide +kernel, by decide, by decide⟩, aw_2_97, aw_2_98, aw_2_99⟩
theorem cw_LH_isBegun_52 : am_cv m_LH_isBegun m_CB_addNumber 14 3 := ⟨⟨ok_CB_addNumber, rfl, by decide +kernel, by decide, by decide⟩, aw_2_30, aw_2_31, aw_2_32⟩
theorem cw_LH_isBegun_62 : am_cv m_LH_isBegun m_CB_addLink 18 3 := ⟨⟨ok_CB_addLink, rfl, by decide +kernel, by decide, by decide⟩, aw_2_97, aw_2_98, aw_2_99⟩
theorem cw_LH_isBegun_75 : am_cv m_LH_isBegun m_CB_addReckoned 66 5 := ⟨⟨ok_CB_addReckoned, rfl, by decide +kernel, by decide, by decide⟩, aw_3_224, aw_3_225, aw_3_226⟩
theorem cw_LH_isBegun_87 : am_cv m_LH_isBegun m_CB_addNumber 14 3 := ⟨⟨ok_CB_addNumber, rfl, by decide +kernel, by decide, by decide⟩, aw_2_30, aw_2_31, aw_2_32⟩
theorem cw_LH_isBegun_96 : am_cv m_LH_isBegun m_CB_ask 110 2 := ⟨⟨ok_CB_ask, rfl, by decide +kernel, by decide, by decide⟩, aw_4_172, aw_4_173, aw_4_174⟩
theorem cw_LH_isBegun_105 : am_cv m_LH_isBegun m_CB_ask 110 2 := ⟨⟨ok_CB_ask, rfl, by decide +kernel, by decide, by decide⟩, aw_4_172, aw_4_173, aw_4_174⟩
theorem cw_LH_isBegun_117 : am_cv m_LH_isBegun m_CB_askGroups 116 3 := ⟨⟨ok_CB_askGroups, rfl, by decide +kernel, by decide, by decide⟩, aw_5_4, aw_5_5, aw_5_6⟩
theorem cw_LH_isBegun_125 : am_cv m_LH_isBegun m_CB_addAct 21 0 := ⟨⟨ok_CB_addAct, rfl, by decide +kernel, by decide, by decide⟩, aw_2_109, aw_2_110, aw_2_111⟩
theorem cw_LH_isBegun_136 : am_cv m_LH_isBegun m_CB_stepPut 131 4 := ⟨⟨ok_CB_stepPut, rfl, by decide +kernel, by decide, by decide⟩, aw_5_34, aw_5_35, aw_5_36⟩
def f_LH_isBegun (s : am_M)  : Int32 × am_M := (if (h_CB_addTable s).2.1 = 0 then (if (h_CB_addTable (h_CB_addTable s).2.2).2.1 = (1 : Int32) then (if (h_CB_addTable (h_CB_addTable (h_CB_addTable s).2.2).2.2).2.1 = (2 : Int32) then (if (h_CB_addNumber (h_CB_addTable (h_CB_addTable (h_CB_addTable s).2.2).2.2).2.2 (0 : Int32) (-2 : Int32) (14 : Int32)).2.1 = 0 then (if (h_CB_addLink (h_CB_addNumber (h_CB_addTable (h_CB_addTable (h_CB_addTable s).2.2).2.2).2.2 (0 : Int32) (-2 : Int32) (14 : Int32)).2.2 (0 : Int32) (1 : Int32) (2 : Int32)).2.1 = (1 : Int32) then (if (h_CB_addNumber (h_CB_addLink (h_CB_addNumber (h_CB_addTable (h_CB_addTable (h_CB_addTable s).2.2).2.2).2.2 (0 : Int32) (-2 : Int32) (14 : Int32)).2.2 (0 : Int32) (1 : Int32) (2 : Int32)).2.2 (1 : Int32) (-2 : Int32) (14 : Int32)).2.1 = 0 then (if (h_CB_addLink (h_CB_addNumber (h_CB_addLink (h_CB_addNumber (h_CB_addTable (h_CB_addTable (h_CB_addTable s).2.2).2.2).2.2 (0 : Int32) (-2 : Int32) (14 : Int32)).2.2 (0 : Int32) (1 : Int32) (2 : Int32)).2.2 (1 : Int32) (-2 : Int32) (14 : Int32)).2.2 (1 : Int32) (0 : Int32) (1 : Int32)).2.1 = (1 : Int32) then (if (h_CB_addReckoned (h_CB_addLink (h_CB_addNumber (h_CB_addLink (h_CB_addNumber (h_CB_addTable (h_CB_addTable (h_CB_addTable s).2.2).2.2).2.2 (0 : Int32) (-2 : Int32) (14 : Int32)).2.2 (0 : Int32) (1 : Int32) (2 : Int32)).2.2 (1 : Int32) (-2 : Int32) (14 : Int32)).2.2 (1 : Int32) (0 : Int32) (1 : Int32)).2.2 (1 : Int32) (3 : Int32) (1 : Int32) (0 : Int32) (0 : Int32)).2.1 = (2 : Int32) then (if (h_CB_addNumber (h_CB_addReckoned (h_CB_addLink (h_CB_addNumber (h_CB_addLink (h_CB_addNumber (h_CB_addTable (h_CB_addTable (h_CB_addTable s).2.2).2.2).2.2 (0 : Int32) (-2 : Int32) (14 : Int32)).2.2 (0 : Int32) (1 : Int32) (2 : Int32)).2.2 (1 : Int32) (-2 : Int32) (14 : Int32)).2.2 (1 : Int32) (0 : Int32) (1 : Int32)).2.2 (1 : Int32) (3 : Int32) (1 : Int32) (0 : Int32) (0 : Int32)).2.2 (2 : Int32) (0 : Int32) (9 : Int32)).2.1 = 0 then (if (h_CB_ask (h_CB_addNumber (h_CB_addReckoned (h_CB_addLink (h_CB_addNumber (h_CB_addLink (h_CB_addNumber (h_CB_addTable (h_CB_addTable (h_CB_addTable s).2.2).2.2).2.2 (0 : Int32) (-2 : Int32) (14 : Int32)).2.2 (0 : Int32) (1 : Int32) (2 : Int32)).2.2 (1 : Int32) (-2 : Int32) (14 : Int32)).2.2 (1 : Int32) (0 : Int32) (1 : Int32)).2.2 (1 : Int32) (3 : Int32) (1 : Int32) (0 : Int32) (0 : Int32)).2.2 (2 : Int32) (0 : Int32) (9 : Int32)).2.2 (0 : Int32) (-1 : Int32)).2.1 = 0 then (if (h_CB_ask (h_CB_ask (h_CB_addNumber (h_CB_addReckoned (h_CB_addLink (h_CB_addNumber (h_CB_addLink (h_CB_addNumber (h_CB_addTable (h_CB_addTable (h_CB_addTable s).2.2).2.2).2.2 (0 : Int32) (-2 : Int32) (14 : Int32)).2.2 (0 : Int32) (1 : Int32) (2 : Int32)).2.2 (1 : Int32) (-2 : Int32) (14 : Int32)).2.2 (1 : Int32) (0 : Int32) (1 : Int32)).2.2 (1 : Int32) (3 : Int32) (1 : Int32) (0 : Int32) (0 : Int32)).2.2 (2 : Int32) (0 : Int32) (9 : Int32)).2.2 (0 : Int32) (-1 : Int32)).2.2 (0 : Int32) (1 : Int32)).2.1 = (1 : Int32) then (if (h_CB_askGroups (h_CB_ask (h_CB_ask (h_CB_addNumber (h_CB_addReckoned (h_CB_addLink (h_CB_addNumber (h_CB_addLink (h_CB_addNumber (h_CB_addTable (h_CB_addTable (h_CB_addTable s).2.2).2.2).2.2 (0 : Int32) (-2 : Int32) (14 : Int32)).2.2 (0 : Int32) (1 : Int32) (2 : Int32)).2.2 (1 : Int32) (-2 : Int32) (14 : Int32)).2.2 (1 : Int32) (0 : Int32) (1 : Int32)).2.2 (1 : Int32) (3 : Int32) (1 : Int32) (0 : Int32) (0 : Int32)).2.2 (2 : Int32) (0 : Int32) (9 : Int32)).2.2 (0 : Int32) (-1 : Int32)).2.2 (0 : Int32) (1 : Int32)).2.2 (10 : Int32) (1 : Int32) (0 : Int32)).2.1 = (2 : Int32) then (if (h_CB_addAct (h_CB_askGroups (h_CB_ask (h_CB_ask (h_CB_addNumber (h_CB_addReckoned (h_CB_addLink (h_CB_addNumber (h_CB_addLink (h_CB_addNumber (h_CB_addTable (h_CB_addTable (h_CB_addTable s).2.2).2.2).2.2 (0 : Int32) (-2 : Int32) (14 : Int32)).2.2 (0 : Int32) (1 : Int32) (2 : Int32)).2.2 (1 : Int32) (-2 : Int32) (14 : Int32)).2.2 (1 : Int32) (0 : Int32) (1 : Int32)).2.2 (1 : Int32) (3 : Int32) (1 : Int32) (0 : Int32) (0 : Int32)).2.2 (2 : Int32) (0 : Int32) (9 : Int32)).2.2 (0 : Int32) (-1 : Int32)).2.2 (0 : Int32) (1 : Int32)).2.2 (10 : Int32) (1 : Int32) (0 : Int32)).2.2).2.1 = 0 then (if (h_CB_stepPut (h_CB_addAct (h_CB_askGroups (h_CB_ask (h_CB_ask (h_CB_addNumber (h_CB_addReckoned (h_CB_addLink (h_CB_addNumber (h_CB_addLink (h_CB_addNumber (h_CB_addTable (h_CB_addTable (h_CB_addTable s).2.2).2.2).2.2 (0 : Int32) (-2 : Int32) (14 : Int32)).2.2 (0 : Int32) (1 : Int32) (2 : Int32)).2.2 (1 : Int32) (-2 : Int32) (14 : Int32)).2.2 (1 : Int32) (0 : Int32) (1 : Int32)).2.2 (1 : Int32) (3 : Int32) (1 : Int32) (0 : Int32) (0 : Int32)).2.2 (2 : Int32) (0 : Int32) (9 : Int32)).2.2 (0 : Int32) (-1 : Int32)).2.2 (0 : Int32) (1 : Int32)).2.2 (10 : Int32) (1 : Int32) (0 : Int32)).2.2).2.2 (0 : Int32) (0 : Int32) (0 : Int32) (3 : Int32)).2.1 = (1 : Int32) then ((1 : Int32), (h_CB_stepPut (h_CB_addAct (h_CB_askGroups (h_CB_ask (h_CB_ask (h_CB_addNumber (h_CB_addReckoned (h_CB_addLink (h_CB_addNumber (h_CB_addLink (h_CB_addNumber (h_CB_addTable (h_CB_addTable (h_CB_addTable s).2.2).2.2).2.2 (0 : Int32) (-2 : Int32) (14 : Int32)).2.2 (0 : Int32) (1 : Int32) (2 : Int32)).2.2 (1 : Int32) (-2 : Int32) (14 : Int32)).2.2 (1 : Int32) (0 : Int32) (1 : Int32)).2.2 (1 : Int32) (3 : Int32) (1 : Int32) (0 : Int32) (0 : Int32)).2.2 (2 : Int32) (0 : Int32) (9 : Int32)).2.2 (0 : Int32) (-1 : Int32)).2.2 (0 : Int32) (1 : Int32)).2.2 (10 : Int32) (1 : Int32) (0 : Int32)).2.2).2.2 (0 : Int32) (0 : Int32) (0 : Int32) (3 : Int32)).2.2) else ((0 : Int32), (h_CB_stepPut (h_CB_addAct (h_CB_askGroups (h_CB_ask (h_CB_ask (h_CB_addNumber (h_CB_addReckoned (h_CB_addLink (h_CB_addNumber (h_CB_addLink (h_CB_addNumber (h_CB_addTable (h_CB_addTable (h_CB_addTable s).2.2).2.2).2.2 (0 : Int32) (-2 : Int32) (14 : Int32)).2.2 (0 : Int32) (1 : Int32) (2 : Int32)).2.2 (1 : Int32) (-2 : Int32) (14 : Int32)).2.2 (1 : Int32) (0 : Int32) (1 : Int32)).2.2 (1 : Int32) (3 : Int32) (1 : Int32) (0 : Int32) (0 : Int32)).2.2 (2 : Int32) (0 : Int32) (9 : Int32)).2.2 (0 : Int32) (-1 : Int32)).2.2 (0 : Int32) (1 : Int32)).2.2 (10 : Int32) (1 : Int32) (0 : Int32)).2.2).2.2 (0 : Int32) (0 : Int32) (0 : Int32) (3 : Int32)).2.2)) else ((0 : Int32), (h_CB_addAct (h_CB_askGroups (h_CB_ask (h_CB_ask (h_CB_addNumber (h_CB_addReckoned (h_CB_addLink (h_CB_addNumber (h_CB_addLink (h_CB_addNumber (h_CB_addTable (h_CB_addTable (h_CB_addTable s).2.2).2.2).2.2 (0 : Int32) (-2 : Int32) (14 : Int32)).2.2 (0 : Int32) (1 : Int32) (2 : Int32)).2.2 (1 : Int32) (-2 : Int32) (14 : Int32)).2.2 (1 : Int32) (0 : Int32) (1 : Int32)).2.2 (1 : Int32) (3 : Int32) (1 : Int32) (0 : Int32) (0 : Int32)).2.2 (2 : Int32) (0 : Int32) (9 : Int32)).2.2 (0 : Int32) (-1 : Int32)).2.2 (0 : Int32) (1 : Int32)).2.2 (10 : Int32) (1 : Int32) (0 : Int32)).2.2).2.2)) else ((0 : Int32), (h_CB_askGroups (h_CB_ask (h_CB_ask (h_CB_addNumber (h_CB_addReckoned (h_CB_addLink (h_CB_addNumber (h_CB_addLink (h_CB_addNumber (h_CB_addTable (h_CB_addTable (h_CB_addTable s).2.2).2.2).2.2 (0 : Int32) (-2 : Int32) (14 : Int32)).2.2 (0 : Int32) (1 : Int32) (2 : Int32)).2.2 (1 : Int32) (-2 : Int32) (14 : Int32)).2.2 (1 : Int32) (0 : Int32) (1 : Int32)).2.2 (1 : Int32) (3 : Int32) (1 : Int32) (0 : Int32) (0 : Int32)).2.2 (2 : Int32) (0 : Int32) (9 : Int32)).2.2 (0 : Int32) (-1 : Int32)).2.2 (0 : Int32) (1 : Int32)).2.2 (10 : Int32) (1 : Int32) (0 : Int32)).2.2)) else ((0 : Int32), (h_CB_ask (h_CB_ask (h_CB_addNumber (h_CB_addReckoned (h_CB_addLink (h_CB_addNumber (h_CB_addLink (h_CB_addNumber (h_CB_addTable (h_CB_addTable (h_CB_addTable s).2.2).2.2).2.2 (0 : Int32) (-2 : Int32) (14 : Int32)).2.2 (0 : Int32) (1 : Int32) (2 : Int32)).2.2 (1 : Int32) (-2 : Int32) (14 : Int32)).2.2 (1 : Int32) (0 : Int32) (1 : Int32)).2.2 (1 : Int32) (3 : Int32) (1 : Int32) (0 : Int32) (0 : Int32)).2.2 (2 : Int32) (0 : Int32) (9 : Int32)).2.2 (0 : Int32) (-1 : Int32)).2.2 (0 : Int32) (1 : Int32)).2.2)) else ((0 : Int32), (h_CB_ask (h_CB_addNumber (h_CB_addReckoned (h_CB_addLink (h_CB_addNumber (h_CB_addLink (h_CB_addNumber (h_CB_addTable (h_CB_addTable (h_CB_addTable s).2.2).2.2).2.2 (0 : Int32) (-2 : Int32) (14 : Int32)).2.2 (0 : Int32) (1 : Int32) (2 : Int32)).2.2 (1 : Int32) (-2 : Int32) (14 : Int32)).2.2 (1 : Int32) (0 : Int32) (1 : Int32)).2.2 (1 : Int32) (3 : Int32) (1 : Int32) (0 : Int32) (0 : Int32)).2.2 (2 : Int32) (0 : Int32) (9 : Int32)).2.2 (0 : Int32) (-1 : Int32)).2.2)) else ((0 : Int32), (h_CB_addNumber (h_CB_addReckoned (h_CB_addLink (h_CB_addNumber (h_CB_addLink (h_CB_addNumber (h_CB_addTable (h_CB_addTable (h_CB_addTable s).2.2).2.2).2.2 (0 : Int32) (-2 : Int32) (14 : Int32)).2.2 (0 : Int32) (1 : Int32) (2 : Int32)).2.2 (1 : Int32) (-2 : Int32) (14 : Int32)).2.2 (1 : Int32) (0 : Int32) (1 : Int32)).2.2 (1 : Int32) (3 : Int32) (1 : Int32) (0 : Int32) (0 : Int32)).2.2 (2 : Int32) (0 : Int32) (9 : Int32)).2.2)) else ((0 : Int32), (h_CB_addReckoned (h_CB_addLink (h_CB_addNumber (h_CB_addLink (h_CB_addNumber (h_CB_addTable (h_CB_addTable (h_CB_addTable s).2.2).2.2).2.2 (0 : Int32) (-2 : Int32) (14 : Int32)).2.2 (0 : Int32) (1 : Int32) (2 : Int32)).2.2 (1 : Int32) (-2 : Int32) (14 : Int32)).2.2 (1 : Int32) (0 : Int32) (1 : Int32)).2.2 (1 : Int32) (3 : Int32) (1 : Int32) (0 : Int32) (0 : Int32)).2.2)) else ((0 : Int32), (h_CB_addLink (h_CB_addNumber (h_CB_addLink (h_CB_addNumber (h_CB_addTable (h_CB_addTable (h_CB_addTable s).2.2).2.2).2.2 (0 : Int32) (-2 : Int32) (14 : Int32)).2.2 (0 : Int32) (1 : Int32) (2 : Int32)).2.2 (1 : Int32) (-2 : Int32) (14 : Int32)).2.2 (1 : Int32) (0 : Int32) (1 : Int32)).2.2)) else ((0 : Int32), (h_CB_addNumber (h_CB_addLink (h_CB_addNumber (h_CB_addTable (h_CB_addTable (h_CB_addTable s).2.2).2.2).2.2 (0 : Int32) (-2 : Int32) (14 : Int32)).2.2 (0 : Int32) (1 : Int32) (2 : Int32)).2.2 (1 : Int32) (-2 : Int32) (14 : Int32)).2.2)) else ((0 : Int32), (h_CB_addLink (h_CB_addNumber (h_CB_addTable (h_CB_addTable (h_CB_addTable s).2.2).2.2).2.2 (0 : Int32) (-2 : Int32) (14 : Int32)).2.2 (0 : Int32) (1 : Int32) (2 : Int32)).2.2)) else ((0 : Int32), (h_CB_addNumber (h_CB_addTable (h_CB_addTable (h_CB_addTable s).2.2).2.2).2.2 (0 : Int32) (-2 : Int32) (14 : Int32)).2.2)) else ((0 : Int32), (h_CB_addTable (h_CB_addTable (h_CB_addTable s).2.2).2.2).2.2)) else ((0 : Int32), (h_CB_addTable (h_CB_addTable s).2.2).2.2)) else ((0 : Int32), (h_CB_addTable s).2.2))
def p_LH_isBegun (s : am_M)  : Prop := (h_CB_addTable s).1 = 0 ∧ ((((h_CB_addTable s).2.1 = 0) → (h_CB_addTable (h_CB_addTable s).2.2).1 = 0 ∧ ((((h_CB_addTable (h_CB_addTable s).2.2).2.1 = (1 : Int32)) → (h_CB_addTable (h_CB_addTable (h_CB_addTable s).2.2).2.2).1 = 0 ∧ ((((h_CB_addTable (h_CB_addTable (h_CB_addTable s).2.2).2.2).2.1 = (2 : Int32)) → p_CB_addNumber (h_CB_addTable (h_CB_addTable (h_CB_addTable s).2.2).2.2).2.2 (0 : Int32) (-2 : Int32) (14 : Int32) ∧ ((h_CB_addNumber (h_CB_addTable (h_CB_addTable (h_CB_addTable s).2.2).2.2).2.2 (0 : Int32) (-2 : Int32) (14 : Int32)).1 = 0 ∧ ((((h_CB_addNumber (h_CB_addTable (h_CB_addTable (h_CB_addTable s).2.2).2.2).2.2 (0 : Int32) (-2 : Int32) (14 : Int32)).2.1 = 0) → p_CB_addLink (h_CB_addNumber (h_CB_addTable (h_CB_addTable (h_CB_addTable s).2.2).2.2).2.2 (0 : Int32) (-2 : Int32) (14 : Int32)).2.2 (0 : Int32) (1 : Int32) (2 : Int32) ∧ ((h_CB_addLink (h_CB_addNumber (h_CB_addTable (h_CB_addTable (h_CB_addTable s).2.2).2.2).2.2 (0 : Int32) (-2 : Int32) (14 : Int32)).2.2 (0 : Int32) (1 : Int32) (2 : Int32)).1 = 0 ∧ ((((h_CB_addLink (h_CB_addNumber (h_CB_addTable (h_CB_addTable (h_CB_addTable s).2.2).2.2).2.2 (0 : Int32) (-2 : Int32) (14 : Int32)).2.2 (0 : Int32) (1 : Int32) (2 : Int32)).2.1 = (1 : Int32)) → p_CB_addNumber (h_CB_addLink (h_CB_addNumber (h_CB_addTable (h_CB_addTable (h_CB_addTable s).2.2).2.2).2.2 (0 : Int32) (-2 : Int32) (14 : Int32)).2.2 (0 : Int32) (1 : Int32) (2 : Int32)).2.2 (1 : Int32) (-2 : Int32) (14 : Int32) ∧ ((h_CB_addNumber (h_CB_addLink (h_CB_addNumber (h_CB_addTable (h_CB_addTable (h_CB_addTable s).2.2).2.2).2.2 (0 : Int32) (-2 : Int32) (14 : Int32)).2.2 (0 : Int32) (1 : Int32) (2 : Int32)).2.2 (1 : Int32) (-2 : Int32) (14 : Int32)).1 = 0 ∧ ((((h_CB_addNumber (h_CB_addLink (h_CB_addNumber (h_CB_addTable (h_CB_addTable (h_CB_addTable s).2.2).2.2).2.2 (0 : Int32) (-2 : Int32) (14 : Int32)).2.2 (0 : Int32) (1 : Int32) (2 : Int32)).2.2 (1 : Int32) (-2 : Int32) (14 : Int32)).2.1 = 0) → p_CB_addLink (h_CB_addNumber (h_CB_addLink (h_CB_addNumber (h_CB_addTable (h_CB_addTable (h_CB_addTable s).2.2).2.2).2.2 (0 : Int32) (-2 : Int32) (14 : Int32)).2.2 (0 : Int32) (1 : Int32) (2 : Int32)).2.2 (1 : Int32) (-2 : Int32) (14 : Int32)).2.2 (1 : Int32) (0 : Int32) (1 : Int32) ∧ ((h_CB_addLink (h_CB_addNumber (h_CB_addLink (h_CB_addNumber (h_CB_addTable (h_CB_addTable (h_CB_addTable s).2.2).2.2).2.2 (0 : Int32) (-2 : Int32) (14 : Int32)).2.2 (0 : Int32) (1 : Int32) (2 : Int32)).2.2 (1 : Int32) (-2 : Int32) (14 : Int32)).2.2 (1 : Int32) (0 : Int32) (1 : Int32)).1 = 0 ∧ ((((h_CB_addLink (h_CB_addNumber (h_CB_addLink (h_CB_addNumber (h_CB_addTable (h_CB_addTable (h_CB_addTable s).2.2).2.2).2.2 (0 : Int32) (-2 : Int32) (14 : Int32)).2.2 (0 : Int32) (1 : Int32) (2 : Int32)).2.2 (1 : Int32) (-2 : Int32) (14 : Int32)).2.2 (1 : Int32) (0 : Int32) (1 : Int32)).2.1 = (1 : Int32)) → p_CB_addReckoned (h_CB_addLink (h_CB_addNumber (h_CB_addLink (h_CB_addNumber (h_CB_addTable (h_CB_addTable (h_CB_addTable s).2.2).2.2).2.2 (0 : Int32) (-2 : Int32) (14 : Int32)).2.2 (0 : Int32) (1 : Int32) (2 : Int32)).2.2 (1 : Int32) (-2 : Int32) (14 : Int32)).2.2 (1 : Int32) (0 : Int32) (1 : Int32)).2.2 (1 : Int32) (3 : Int32) (1 : Int32) (0 : Int32) (0 : Int32) ∧ ((h_CB_addReckoned (h_CB_addLink (h_CB_addNumber (h_CB_addLink (h_CB_addNumber (h_CB_addTable (h_CB_addTable (h_CB_addTable s).2.2).2.2).2.2 (0 : Int32) (-2 : Int32) (14 : Int32)).2.2 (0 : Int32) (1 : Int32) (2 : Int32)).2.2 (1 : Int32) (-2 : Int32) (14 : Int32)).2.2 (1 : Int32) (0 : Int32) (1 : Int32)).2.2 (1 : Int32) (3 : Int32) (1 : Int32) (0 : Int32) (0 : Int32)).1 = 0 ∧ ((((h_CB_addReckoned (h_CB_addLink (h_CB_addNumber (h_CB_addLink (h_CB_addNumber (h_CB_addTable (h_CB_addTable (h_CB_addTable s).2.2).2.2).2.2 (0 : Int32) (-2 : Int32) (14 : Int32)).2.2 (0 : Int32) (1 : Int32) (2 : Int32)).2.2 (1 : Int32) (-2 : Int32) (14 : Int32)).2.2 (1 : Int32) (0 : Int32) (1 : Int32)).2.2 (1 : Int32) (3 : Int32) (1 : Int32) (0 : Int32) (0 : Int32)).2.1 = (2 : Int32)) → p_CB_addNumber (h_CB_addReckoned (h_CB_addLink (h_CB_addNumber (h_CB_addLink (h_CB_addNumber (h_CB_addTable (h_CB_addTable (h_CB_addTable s).2.2).2.2).2.2 (0 : Int32) (-2 : Int32) (14 : Int32)).2.2 (0 : Int32) (1 : Int32) (2 : Int32)).2.2 (1 : Int32) (-2 : Int32) (14 : Int32)).2.2 (1 : Int32) (0 : Int32) (1 : Int32)).2.2 (1 : Int32) (3 : Int32) (1 : Int32) (0 : Int32) (0 : Int32)).2.2 (2 : Int32) (0 : Int32) (9 : Int32) ∧ ((h_CB_addNumber (h_CB_addReckoned (h_CB_addLink (h_CB_addNumber (h_CB_addLink (h_CB_addNumber (h_CB_addTable (h_CB_addTable (h_CB_addTable s).2.2).2.2).2.2 (0 : Int32) (-2 : Int32) (14 : Int32)).2.2 (0 : Int32) (1 : Int32) (2 : Int32)).2.2 (1 : Int32) (-2 : Int32) (14 : Int32)).2.2 (1 : Int32) (0 : Int32) (1 : Int32)).2.2 (1 : Int32) (3 : Int32) (1 : Int32) (0 : Int32) (0 : Int32)).2.2 (2 : Int32) (0 : Int32) (9 : Int32)).1 = 0 ∧ ((((h_CB_addNumber (h_CB_addReckoned (h_CB_addLink (h_CB_addNumber (h_CB_addLink (h_CB_addNumber (h_CB_addTable (h_CB_addTable (h_CB_addTable s).2.2).2.2).2.2 (0 : Int32) (-2 : Int32) (14 : Int32)).2.2 (0 : Int32) (1 : Int32) (2 : Int32)).2.2 (1 : Int32) (-2 : Int32) (14 : Int32)).2.2 (1 : Int32) (0 : Int32) (1 : Int32)).2.2 (1 : Int32) (3 : Int32) (1 : Int32) (0 : Int32) (0 : Int32)).2.2 (2 : Int32) (0 : Int32) (9 : Int32)).2.1 = 0) → p_CB_ask (h_CB_addNumber (h_CB_addReckoned (h_CB_addLink (h_CB_addNumber (h_CB_addLink (h_CB_addNumber (h_CB_addTable (h_CB_addTable (h_CB_addTable s).2.2).2.2).2.2 (0 : Int32) (-2 : Int32) (14 : Int32)).2.2 (0 : Int32) (1 : Int32) (2 : Int32)).2.2 (1 : Int32) (-2 : Int32) (14 : Int32)).2.2 (1 : Int32) (0 : Int32) (1 : Int32)).2.2 (1 : Int32) (3 : Int32) (1 : Int32) (0 : Int32) (0 : Int32)).2.2 (2 : Int32) (0 : Int32) (9 : Int32)).2.2 (0 : Int32) (-1 : Int32) ∧ ((h_CB_ask (h_CB_addNumber (h_CB_addReckoned (h_CB_addLink (h_CB_addNumber (h_CB_addLink (h_CB_addNumber (h_CB_addTable (h_CB_addTable (h_CB_addTable s).2.2).2.2).2.2 (0 : Int32) (-2 : Int32) (14 : Int32)).2.2 (0 : Int32) (1 : Int32) (2 : Int32)).2.2 (1 : Int32) (-2 : Int32) (14 : Int32)).2.2 (1 : Int32) (0 : Int32) (1 : Int32)).2.2 (1 : Int32) (3 : Int32) (1 : Int32) (0 : Int32) (0 : Int32)).2.2 (2 : Int32) (0 : Int32) (9 : Int32)).2.2 (0 : Int32) (-1 : Int32)).1 = 0 ∧ ((((h_CB_ask (h_CB_addNumber (h_CB_addReckoned (h_CB_addLink (h_CB_addNumber (h_CB_addLink (h_CB_addNumber (h_CB_addTable (h_CB_addTable (h_CB_addTable s).2.2).2.2).2.2 (0 : Int32) (-2 : Int32) (14 : Int32)).2.2 (0 : Int32) (1 : Int32) (2 : Int32)).2.2 (1 : Int32) (-2 : Int32) (14 : Int32)).2.2 (1 : Int32) (0 : Int32) (1 : Int32)).2.2 (1 : Int32) (3 : Int32) (1 : Int32) (0 : Int32) (0 : Int32)).2.2 (2 : Int32) (0 : Int32) (9 : Int32)).2.2 (0 : Int32) (-1 : Int32)).2.1 = 0) → p_CB_ask (h_CB_ask (h_CB_addNumber (h_CB_addReckoned (h_CB_addLink (h_CB_addNumber (h_CB_addLink (h_CB_addNumber (h_CB_addTable (h_CB_addTable (h_CB_addTable s).2.2).2.2).2.2 (0 : Int32) (-2 : Int32) (14 : Int32)).2.2 (0 : Int32) (1 : Int32) (2 : Int32)).2.2 (1 : Int32) (-2 : Int32) (14 : Int32)).2.2 (1 : Int32) (0 : Int32) (1 : Int32)).2.2 (1 : Int32) (3 : Int32) (1 : Int32) (0 : Int32) (0 : Int32)).2.2 (2 : Int32) (0 : Int32) (9 : Int32)).2.2 (0 : Int32) (-1 : Int32)).2.2 (0 : Int32) (1 : Int32) ∧ ((h_CB_ask (h_CB_ask (h_CB_addNumber (h_CB_addReckoned (h_CB_addLink (h_CB_addNumber (h_CB_addLink (h_CB_addNumber (h_CB_addTable (h_CB_addTable (h_CB_addTable s).2.2).2.2).2.2 (0 : Int32) (-2 : Int32) (14 : Int32)).2.2 (0 : Int32) (1 : Int32) (2 : Int32)).2.2 (1 : Int32) (-2 : Int32) (14 : Int32)).2.2 (1 : Int32) (0 : Int32) (1 : Int32)).2.2 (1 : Int32) (3 : Int32) (1 : Int32) (0 : Int32) (0 : Int32)).2.2 (2 : Int32) (0 : Int32) (9 : Int32)).2.2 (0 : Int32) (-1 : Int32)).2.2 (0 : Int32) (1 : Int32)).1 = 0 ∧ ((((h_CB_ask (h_CB_ask (h_CB_addNumber (h_CB_addReckoned (h_CB_addLink (h_CB_addNumber (h_CB_addLink (h_CB_addNumber (h_CB_addTable (h_CB_addTable (h_CB_addTable s).2.2).2.2).2.2 (0 : Int32) (-2 : Int32) (14 : Int32)).2.2 (0 : Int32) (1 : Int32) (2 : Int32)).2.2 (1 : Int32) (-2 : Int32) (14 : Int32)).2.2 (1 : Int32) (0 : Int32) (1 : Int32)).2.2 (1 : Int32) (3 : Int32) (1 : Int32) (0 : Int32) (0 : Int32)).2.2 (2 : Int32) (0 : Int32) (9 : Int32)).2.2 (0 : Int32) (-1 : Int32)).2.2 (0 : Int32) (1 : Int32)).2.1 = (1 : Int32)) → p_CB_askGroups (h_CB_ask (h_CB_ask (h_CB_addNumber (h_CB_addReckoned (h_CB_addLink (h_CB_addNumber (h_CB_addLink (h_CB_addNumber (h_CB_addTable (h_CB_addTable (h_CB_addTable s).2.2).2.2).2.2 (0 : Int32) (-2 : Int32) (14 : Int32)).2.2 (0 : Int32) (1 : Int32) (2 : Int32)).2.2 (1 : Int32) (-2 : Int32) (14 : Int32)).2.2 (1 : Int32) (0 : Int32) (1 : Int32)).2.2 (1 : Int32) (3 : Int32) (1 : Int32) (0 : Int32) (0 : Int32)).2.2 (2 : Int32) (0 : Int32) (9 : Int32)).2.2 (0 : Int32) (-1 : Int32)).2.2 (0 : Int32) (1 : Int32)).2.2 (10 : Int32) (1 : Int32) (0 : Int32) ∧ ((h_CB_askGroups (h_CB_ask (h_CB_ask (h_CB_addNumber (h_CB_addReckoned (h_CB_addLink (h_CB_addNumber (h_CB_addLink (h_CB_addNumber (h_CB_addTable (h_CB_addTable (h_CB_addTable s).2.2).2.2).2.2 (0 : Int32) (-2 : Int32) (14 : Int32)).2.2 (0 : Int32) (1 : Int32) (2 : Int32)).2.2 (1 : Int32) (-2 : Int32) (14 : Int32)).2.2 (1 : Int32) (0 : Int32) (1 : Int32)).2.2 (1 : Int32) (3 : Int32) (1 : Int32) (0 : Int32) (0 : Int32)).2.2 (2 : Int32) (0 : Int32) (9 : Int32)).2.2 (0 : Int32) (-1 : Int32)).2.2 (0 : Int32) (1 : Int32)).2.2 (10 : Int32) (1 : Int32) (0 : Int32)).1 = 0 ∧ ((((h_CB_askGroups (h_CB_ask (h_CB_ask (h_CB_addNumber (h_CB_addReckoned (h_CB_addLink (h_CB_addNumber (h_CB_addLink (h_CB_addNumber (h_CB_addTable (h_CB_addTable (h_CB_addTable s).2.2).2.2).2.2 (0 : Int32) (-2 : Int32) (14 : Int32)).2.2 (0 : Int32) (1 : Int32) (2 : Int32)).2.2 (1 : Int32) (-2 : Int32) (14 : Int32)).2.2 (1 : Int32) (0 : Int32) (1 : Int32)).2.2 (1 : Int32) (3 : Int32) (1 : Int32) (0 : Int32) (0 : Int32)).2.2 (2 : Int32) (0 : Int32) (9 : Int32)).2.2 (0 : Int32) (-1 : Int32)).2.2 (0 : Int32) (1 : Int32)).2.2 (10 : Int32) (1 : Int32) (0 : Int32)).2.1 = (2 : Int32)) → (h_CB_addAct (h_CB_askGroups (h_CB_ask (h_CB_ask (h_CB_addNumber (h_CB_addReckoned (h_CB_addLink (h_CB_addNumber (h_CB_addLink (h_CB_addNumber (h_CB_addTable (h_CB_addTable (h_CB_addTable s).2.2).2.2).2.2 (0 : Int32) (-2 : Int32) (14 : Int32)).2.2 (0 : Int32) (1 : Int32) (2 : Int32)).2.2 (1 : Int32) (-2 : Int32) (14 : Int32)).2.2 (1 : Int32) (0 : Int32) (1 : Int32)).2.2 (1 : Int32) (3 : Int32) (1 : Int32) (0 : Int32) (0 : Int32)).2.2 (2 : Int32) (0 : Int32) (9 : Int32)).2.2 (0 : Int32) (-1 : Int32)).2.2 (0 : Int32) (1 : Int32)).2.2 (10 : Int32) (1 : Int32) (0 : Int32)).2.2).1 = 0 ∧ ((((h_CB_addAct (h_CB_askGroups (h_CB_ask (h_CB_ask (h_CB_addNumber (h_CB_addReckoned (h_CB_addLink (h_CB_addNumber (h_CB_addLink (h_CB_addNumber (h_CB_addTable (h_CB_addTable (h_CB_addTable s).2.2).2.2).2.2 (0 : Int32) (-2 : Int32) (14 : Int32)).2.2 (0 : Int32) (1 : Int32) (2 : Int32)).2.2 (1 : Int32) (-2 : Int32) (14 : Int32)).2.2 (1 : Int32) (0 : Int32) (1 : Int32)).2.2 (1 : Int32) (3 : Int32) (1 : Int32) (0 : Int32) (0 : Int32)).2.2 (2 : Int32) (0 : Int32) (9 : Int32)).2.2 (0 : Int32) (-1 : Int32)).2.2 (0 : Int32) (1 : Int32)).2.2 (10 : Int32) (1 : Int32) (0 : Int32)).2.2).2.1 = 0) → p_CB_stepPut (h_CB_addAct (h_CB_askGroups (h_CB_ask (h_CB_ask (h_CB_addNumber (h_CB_addReckoned (h_CB_addLink (h_CB_addNumber (h_CB_addLink (h_CB_addNumber (h_CB_addTable (h_CB_addTable (h_CB_addTable s).2.2).2.2).2.2 (0 : Int32) (-2 : Int32) (14 : Int32)).2.2 (0 : Int32) (1 : Int32) (2 : Int32)).2.2 (1 : Int32) (-2 : Int32) (14 : Int32)).2.2 (1 : Int32) (0 : Int32) (1 : Int32)).2.2 (1 : Int32) (3 : Int32) (1 : Int32) (0 : Int32) (0 : Int32)).2.2 (2 : Int32) (0 : Int32) (9 : Int32)).2.2 (0 : Int32) (-1 : Int32)).2.2 (0 : Int32) (1 : Int32)).2.2 (10 : Int32) (1 : Int32) (0 : Int32)).2.2).2.2 (0 : Int32) (0 : Int32) (0 : Int32) (3 : Int32) ∧ ((h_CB_stepPut (h_CB_addAct (h_CB_askGroups (h_CB_ask (h_CB_ask (h_CB_addNumber (h_CB_addReckoned (h_CB_addLink (h_CB_addNumber (h_CB_addLink (h_CB_addNumber (h_CB_addTable (h_CB_addTable (h_CB_addTable s).2.2).2.2).2.2 (0 : Int32) (-2 : Int32) (14 : Int32)).2.2 (0 : Int32) (1 : Int32) (2 : Int32)).2.2 (1 : Int32) (-2 : Int32) (14 : Int32)).2.2 (1 : Int32) (0 : Int32) (1 : Int32)).2.2 (1 : Int32) (3 : Int32) (1 : Int32) (0 : Int32) (0 : Int32)).2.2 (2 : Int32) (0 : Int32) (9 : Int32)).2.2 (0 : Int32) (-1 : Int32)).2.2 (0 : Int32) (1 : Int32)).2.2 (10 : Int32) (1 : Int32) (0 : Int32)).2.2).2.2 (0 : Int32) (0 : Int32) (0 : Int32) (3 : Int32)).1 = 0 ∧ ((((h_CB_stepPut (h_CB_addAct (h_CB_askGroups (h_CB_ask (h_CB_ask (h_CB_addNumber (h_CB_addReckoned (h_CB_addLink (h_CB_addNumber (h_CB_addLink (h_CB_addNumber (h_CB_addTable (h_CB_addTable (h_CB_addTable s).2.2).2.2).2.2 (0 : Int32) (-2 : Int32) (14 : Int32)).2.2 (0 : Int32) (1 : Int32) (2 : Int32)).2.2 (1 : Int32) (-2 : Int32) (14 : Int32)).2.2 (1 : Int32) (0 : Int32) (1 : Int32)).2.2 (1 : Int32) (3 : Int32) (1 : Int32) (0 : Int32) (0 : Int32)).2.2 (2 : Int32) (0 : Int32) (9 : Int32)).2.2 (0 : Int32) (-1 : Int32)).2.2 (0 : Int32) (1 : Int32)).2.2 (10 : Int32) (1 : Int32) (0 : Int32)).2.2).2.2 (0 : Int32) (0 : Int32) (0 : Int32) (3 : Int32)).2.1 = (1 : Int32)) → True) ∧ (¬ ((h_CB_stepPut (h_CB_addAct (h_CB_askGroups (h_CB_ask (h_CB_ask (h_CB_addNumber (h_CB_addReckoned (h_CB_addLink (h_CB_addNumber (h_CB_addLink (h_CB_addNumber (h_CB_addTable (h_CB_addTable (h_CB_addTable s).2.2).2.2).2.2 (0 : Int32) (-2 : Int32) (14 : Int32)).2.2 (0 : Int32) (1 : Int32) (2 : Int32)).2.2 (1 : Int32) (-2 : Int32) (14 : Int32)).2.2 (1 : Int32) (0 : Int32) (1 : Int32)).2.2 (1 : Int32) (3 : Int32) (1 : Int32) (0 : Int32) (0 : Int32)).2.2 (2 : Int32) (0 : Int32) (9 : Int32)).2.2 (0 : Int32) (-1 : Int32)).2.2 (0 : Int32) (1 : Int32)).2.2 (10 : Int32) (1 : Int32) (0 : Int32)).2.2).2.2 (0 : Int32) (0 : Int32) (0 : Int32) (3 : Int32)).2.1 = (1 : Int32)) → True)))) ∧ (¬ ((h_CB_addAct (h_CB_askGroups (h_CB_ask (h_CB_ask (h_CB_addNumber (h_CB_addReckoned (h_CB_addLink (h_CB_addNumber (h_CB_addLink (h_CB_addNumber (h_CB_addTable (h_CB_addTable (h_CB_addTable s).2.2).2.2).2.2 (0 : Int32) (-2 : Int32) (14 : Int32)).2.2 (0 : Int32) (1 : Int32) (2 : Int32)).2.2 (1 : Int32) (-2 : Int32) (14 : Int32)).2.2 (1 : Int32) (0 : Int32) (1 : Int32)).2.2 (1 : Int32) (3 : Int32) (1 : Int32) (0 : Int32) (0 : Int32)).2.2 (2 : Int32) (0 : Int32) (9 : Int32)).2.2 (0 : Int32) (-1 : Int32)).2.2 (0 : Int32) (1 : Int32)).2.2 (10 : Int32) (1 : Int32) (0 : Int32)).2.2).2.1 = 0) → True))) ∧ (¬ ((h_CB_askGroups (h_CB_ask (h_CB_ask (h_CB_addNumber (h_CB_addReckoned (h_CB_addLink (h_CB_addNumber (h_CB_addLink (h_CB_addNumber (h_CB_addTable (h_CB_addTable (h_CB_addTable s).2.2).2.2).2.2 (0 : Int32) (-2 : Int32) (14 : Int32)).2.2 (0 : Int32) (1 : Int32) (2 : Int32)).2.2 (1 : Int32) (-2 : Int32) (14 : Int32)).2.2 (1 : Int32) (0 : Int32) (1 : Int32)).2.2 (1 : Int32) (3 : Int32) (1 : Int32) (0 : Int32) (0 : Int32)).2.2 (2 : Int32) (0 : Int32) (9 : Int32)).2.2 (0 : Int32) (-1 : Int32)).2.2 (0 : Int32) (1 : Int32)).2.2 (10 : Int32) (1 : Int32) (0 : Int32)).2.1 = (2 : Int32)) → True)))) ∧ (¬ ((h_CB_ask (h_CB_ask (h_CB_addNumber (h_CB_addReckoned (h_CB_addLink (h_CB_addNumber (h_CB_addLink (h_CB_addNumber (h_CB_addTable (h_CB_addTable (h_CB_addTable s).2.2).2.2).2.2 (0 : Int32) (-2 : Int32) (14 : Int32)).2.2 (0 : Int32) (1 : Int32) (2 : Int32)).2.2 (1 : Int32) (-2 : Int32) (14 : Int32)).2.2 (1 : Int32) (0 : Int32) (1 : Int32)).2.2 (1 : Int32) (3 : Int32) (1 : Int32) (0 : Int32) (0 : Int32)).2.2 (2 : Int32) (0 : Int32) (9 : Int32)).2.2 (0 : Int32) (-1 : Int32)).2.2 (0 : Int32) (1 : Int32)).2.1 = (1 : Int32)) → True)))) ∧ (¬ ((h_CB_ask (h_CB_addNumber (h_CB_addReckoned (h_CB_addLink (h_CB_addNumber (h_CB_addLink (h_CB_addNumber (h_CB_addTable (h_CB_addTable (h_CB_addTable s).2.2).2.2).2.2 (0 : Int32) (-2 : Int32) (14 : Int32)).2.2 (0 : Int32) (1 : Int32) (2 : Int32)).2.2 (1 : Int32) (-2 : Int32) (14 : Int32)).2.2 (1 : Int32) (0 : Int32) (1 : Int32)).2.2 (1 : Int32) (3 : Int32) (1 : Int32) (0 : Int32) (0 : Int32)).2.2 (2 : Int32) (0 : Int32) (9 : Int32)).2.2 (0 : Int32) (-1 : Int32)).2.1 = 0) → True)))) ∧ (¬ ((h_CB_addNumber (h_CB_addReckoned (h_CB_addLink (h_CB_addNumber (h_CB_addLink (h_CB_addNumber (h_CB_addTable (h_CB_addTable (h_CB_addTable s).2.2).2.2).2.2 (0 : Int32) (-2 : Int32) (14 : Int32)).2.2 (0 : Int32) (1 : Int32) (2 : Int32)).2.2 (1 : Int32) (-2 : Int32) (14 : Int32)).2.2 (1 : Int32) (0 : Int32) (1 : Int32)).2.2 (1 : Int32) (3 : Int32) (1 : Int32) (0 : Int32) (0 : Int32)).2.2 (2 : Int32) (0 : Int32) (9 : Int32)).2.1 = 0) → True)))) ∧ (¬ ((h_CB_addReckoned (h_CB_addLink (h_CB_addNumber (h_CB_addLink (h_CB_addNumber (h_CB_addTable (h_CB_addTable (h_CB_addTable s).2.2).2.2).2.2 (0 : Int32) (-2 : Int32) (14 : Int32)).2.2 (0 : Int32) (1 : Int32) (2 : Int32)).2.2 (1 : Int32) (-2 : Int32) (14 : Int32)).2.2 (1 : Int32) (0 : Int32) (1 : Int32)).2.2 (1 : Int32) (3 : Int32) (1 : Int32) (0 : Int32) (0 : Int32)).2.1 = (2 : Int32)) → True)))) ∧ (¬ ((h_CB_addLink (h_CB_addNumber (h_CB_addLink (h_CB_addNumber (h_CB_addTable (h_CB_addTable (h_CB_addTable s).2.2).2.2).2.2 (0 : Int32) (-2 : Int32) (14 : Int32)).2.2 (0 : Int32) (1 : Int32) (2 : Int32)).2.2 (1 : Int32) (-2 : Int32) (14 : Int32)).2.2 (1 : Int32) (0 : Int32) (1 : Int32)).2.1 = (1 : Int32)) → True)))) ∧ (¬ ((h_CB_addNumber (h_CB_addLink (h_CB_addNumber (h_CB_addTable (h_CB_addTable (h_CB_addTable s).2.2).2.2).2.2 (0 : Int32) (-2 : Int32) (14 : Int32)).2.2 (0 : Int32) (1 : Int32) (2 : Int32)).2.2 (1 : Int32) (-2 : Int32) (14 : Int32)).2.1 = 0) → True)))) ∧ (¬ ((h_CB_addLink (h_CB_addNumber (h_CB_addTable (h_CB_addTable (h_CB_addTable s).2.2).2.2).2.2 (0 : Int32) (-2 : Int32) (14 : Int32)).2.2 (0 : Int32) (1 : Int32) (2 : Int32)).2.1 = (1 : Int32)) → True)))) ∧ (¬ ((h_CB_addNumber (h_CB_addTable (h_CB_addTable (h_CB_addTable s).2.2).2.2).2.2 (0 : Int32) (-2 : Int32) (14 : Int32)).2.1 = 0) → True)))) ∧ (¬ ((h_CB_addTable (h_CB_addTable (h_CB_addTable s).2.2).2.2).2.1 = (2 : Int32)) → True))) ∧ (¬ ((h_CB_addTable (h_CB_addTable s).2.2).2.1 = (1 : Int32)) → True))) ∧ (¬ ((h_CB_addTable s).2.1 = 0) → True))
set_option maxRecDepth 100000 in
theorem w_LH_isBegun {l : Launch} {g : am_Gl} (hg : g.2.2.2.1 = true) {ad0 : Nat → Nat} {s : am_M}  (h : p_LH_isBegun s ) : AW l g m_LH_isBegun 207 ad0 (am_oC (f_LH_isBegun s )) 0 0 207 s 0 [(0, .ref 0)] [] := by
  refine am_aload_n (j := 0) d_LH_isBegun_0 rfl rfl ?_
  obtain ⟨h0, h⟩ := h
  refine ak9_VX (as := []) (rest := []) d_LH_isBegun_1 cw_LH_isBegun_1 rfl (am_1E h0 (ch_CB_addTable hg)) rfl rfl rc_0 (Nat.le_of_ble_eq_true rfl) (by show 0 + 1 ≤ 63; omega) (by show 0 + 6 ≤ 378; omega) ?_
  refine ai_ne (F := am_oC) (tgt := 147) d_LH_isBegun_4 (by decide) (fun c => ?_) (fun c => ?_)
  · have h := h.2 c
    refine am_iconst (v := (0 : Int32)) d_LH_isBegun_147 (by decide) ?_
    exact am_iret d_LH_isBegun_148 rfl (am_bool (Or.inl rfl)).1 (by show 0 + 1 ≤ 63; omega) (by show 0 + 6 ≤ 378; omega) am_oC_ok
  · have h := h.1 c
    refine am_aload_n (j := 0) d_LH_isBegun_7 rfl rfl ?_
    obtain ⟨h0, h⟩ := h
    refine ak9_VX (as := []) (rest := []) d_LH_isBegun_8 cw_LH_isBegun_8 rfl (am_1E h0 (ch_CB_addTable hg)) rfl rfl rc_0 (Nat.le_of_ble_eq_true rfl) (by show 0 + 1 + 1 ≤ 63; omega) (by show 0 + 6 + 6 ≤ 378; omega) ?_
    refine am_iconst (v := (1 : Int32)) d_LH_isBegun_11 (by decide) ?_
    refine aj_ne (F := am_oC) (tgt := 147) d_LH_isBegun_12 (by decide) (fun c => ?_) (fun c => ?_)
    · have h := h.2 c
      refine am_iconst (v := (0 : Int32)) d_LH_isBegun_147 (by decide) ?_
      exact am_iret d_LH_isBegun_148 rfl (am_bool (Or.inl rfl)).1 (by show 0 + 1 + 1 ≤ 63; omega) (by show 0 + 6 + 6 ≤ 378; omega) am_oC_ok
    · have h := h.1 c
      refine am_aload_n (j := 0) d_LH_isBegun_15 rfl rfl ?_
      obtain ⟨h0, h⟩ := h
      refine ak9_VX (as := []) (rest := []) d_LH_isBegun_16 cw_LH_isBegun_16 rfl (am_1E h0 (ch_CB_addTable hg)) rfl rfl rc_0 (Nat.le_of_ble_eq_true rfl) (by show 0 + 1 + 1 + 1 ≤ 63; omega) (by show 0 + 6 + 6 + 6 ≤ 378; omega) ?_
      refine am_iconst (v := (2 : Int32)) d_LH_isBegun_19 (by decide) ?_
      refine aj_ne (F := am_oC) (tgt := 147) d_LH_isBegun_20 (by decide) (fun c => ?_) (fun c => ?_)
      · have h := h.2 c
        refine am_iconst (v := (0 : Int32)) d_LH_isBegun_147 (by decide) ?_
        exact am_iret d_LH_isBegun_148 rfl (am_bool (Or.inl rfl)).1 (by show 0 + 1 + 1 + 1 ≤ 63; omega) (by show 0 + 6 + 6 + 6 ≤ 378; omega) am_oC_ok
      · have h := h.1 c
        refine am_aload_n (j := 0) d_LH_isBegun_23 rfl rfl ?_
        refine am_iconst (v := (0 : Int32)) d_LH_isBegun_24 (by decide) ?_
        refine am_bipush (v := (-2 : Int32)) d_LH_isBegun_25 (by decide) ?_
        refine am_bipush (v := (14 : Int32)) d_LH_isBegun_27 (by decide) ?_
        obtain ⟨hc, h⟩ := h
        obtain ⟨h0, h⟩ := h
        refine ak9_VX (as := [.int (0 : Int32), .int (-2 : Int32), .int (14 : Int32)]) (rest := []) d_LH_isBegun_29 cw_LH_isBegun_29 rfl (am_1E h0 (ch_CB_addNumber hg hc)) rfl rfl rc_0 (Nat.le_of_ble_eq_true rfl) (by show 0 + 1 + 1 + 1 + 3 ≤ 63; omega) (by show 0 + 6 + 6 + 6 + 18 ≤ 378; omega) ?_
        refine ai_ne (F := am_oC) (tgt := 147) d_LH_isBegun_32 (by decide) (fun c => ?_) (fun c => ?_)
        · have h := h.2 c
          refine am_iconst (v := (0 : Int32)) d_LH_isBegun_147 (by decide) ?_
          exact am_iret d_LH_isBegun_148 rfl (am_bool (Or.inl rfl)).1 (by show 0 + 1 + 1 + 1 + 3 ≤ 63; omega) (by show 0 + 6 + 6 + 6 + 18 ≤ 378; omega) am_oC_ok
        · have h := h.1 c
          refine am_aload_n (j := 0) d_LH_isBegun_35 rfl rfl ?_
          refine am_iconst (v := (0 : Int32)) d_LH_isBegun_36 (by decide) ?_
          refine am_iconst (v := (1 : Int32)) d_LH_isBegun_37 (by decide) ?_
          refine am_iconst (v := (2 : Int32)) d_LH_isBegun_38 (by decide) ?_
          obtain ⟨hc, h⟩ := h
          obtain ⟨h0, h⟩ := h
          refine ak9_VX (as := [.int (0 : Int32), .int (1 : Int32), .int (2 : Int32)]) (rest := []) d_LH_isBegun_39 cw_LH_isBegun_39 rfl (am_1E h0 (ch_CB_addLink hg hc)) rfl rfl rc_0 (Nat.le_of_ble_eq_true rfl) (by show 0 + 1 + 1 + 1 + 3 + 4 ≤ 63; omega) (by show 0 + 6 + 6 + 6 + 18 + 24 ≤ 378; omega) ?_
          refine am_iconst (v := (1 : Int32)) d_LH_isBegun_42 (by decide) ?_
          refine aj_ne (F := am_oC) (tgt := 147) d_LH_isBegun_43 (by decide) (fun c => ?_) (fun c => ?_)
          · have h := h.2 c
            refine am_iconst (v := (0 : Int32)) d_LH_isBegun_147 (by decide) ?_
            exact am_iret d_LH_isBegun_148 rfl (am_bool (Or.inl rfl)).1 (by show 0 + 1 + 1 + 1 + 3 + 4 ≤ 63; omega) (by show 0 + 6 + 6 + 6 + 18 + 24 ≤ 378; omega) am_oC_ok
          · have h := h.1 c
            refine am_aload_n (j := 0) d_LH_isBegun_46 rfl rfl ?_
            refine am_iconst (v := (1 : Int32)) d_LH_isBegun_47 (by decide) ?_
            refine am_bipush (v := (-2 : Int32)) d_LH_isBegun_48 (by decide) ?_
            refine am_bipush (v := (14 : Int32)) d_LH_isBegun_50 (by decide) ?_
            obtain ⟨hc, h⟩ := h
            obtain ⟨h0, h⟩ := h
            refine ak9_VX (as := [.int (1 : Int32), .int (-2 : Int32), .int (14 : Int32)]) (rest := []) d_LH_isBegun_52 cw_LH_isBegun_52 rfl (am_1E h0 (ch_CB_addNumber hg hc)) rfl rfl rc_0 (Nat.le_of_ble_eq_true rfl) (by show 0 + 1 + 1 + 1 + 3 + 4 + 3 ≤ 63; omega) (by show 0 + 6 + 6 + 6 + 18 + 24 + 18 ≤ 378; omega) ?_
            refine ai_ne (F := am_oC) (tgt := 147) d_LH_isBegun_55 (by decide) (fun c => ?_) (fun c => ?_)
            · have h := h.2 c
              refine am_iconst (v := (0 : Int32)) d_LH_isBegun_147 (by decide) ?_
              exact am_iret d_LH_isBegun_148 rfl (am_bool (Or.inl rfl)).1 (by show 0 + 1 + 1 + 1 + 3 + 4 + 3 ≤ 63; omega) (by show 0 + 6 + 6 + 6 + 18 + 24 + 18 ≤ 378; omega) am_oC_ok
            · have h := h.1 c
              refine am_aload_n (j := 0) d_LH_isBegun_58 rfl rfl ?_
              refine am_iconst (v := (1 : Int32)) d_LH_isBegun_59 (by decide) ?_
              refine am_iconst (v := (0 : Int32)) d_LH_isBegun_60 (by decide) ?_
              refine am_iconst (v := (1 : Int32)) d_LH_isBegun_61 (by decide) ?_
              obtain ⟨hc, h⟩ := h
              obtain ⟨h0, h⟩ := h
              refine ak9_VX (as := [.int (1 : Int32), .int (0 : Int32), .int (1 : Int32)]) (rest := []) d_LH_isBegun_62 cw_LH_isBegun_62 rfl (am_1E h0 (ch_CB_addLink hg hc)) rfl rfl rc_0 (Nat.le_of_ble_eq_true rfl) (by show 0 + 1 + 1 + 1 + 3 + 4 + 3 + 4 ≤ 63; omega) (by show 0 + 6 + 6 + 6 + 18 + 24 + 18 + 24 ≤ 378; omega) ?_
              refine am_iconst (v := (1 : Int32)) d_LH_isBegun_65 (by decide) ?_
              refine aj_ne (F := am_oC) (tgt := 147) d_LH_isBegun_66 (by decide) (fun c => ?_) (fun c => ?_)
              · have h := h.2 c
                refine am_iconst (v := (0 : Int32)) d_LH_isBegun_147 (by decide) ?_
                exact am_iret d_LH_isBegun_148 rfl (am_bool (Or.inl rfl)).1 (by show 0 + 1 + 1 + 1 + 3 + 4 + 3 + 4 ≤ 63; omega) (by show 0 + 6 + 6 + 6 + 18 + 24 + 18 + 24 ≤ 378; omega) am_oC_ok
              · have h := h.1 c
                refine am_aload_n (j := 0) d_LH_isBegun_69 rfl rfl ?_
                refine am_iconst (v := (1 : Int32)) d_LH_isBegun_70 (by decide) ?_
                refine am_iconst (v := (3 : Int32)) d_LH_isBegun_71 (by decide) ?_
                refine am_iconst (v := (1 : Int32)) d_LH_isBegun_72 (by decide) ?_
                refine am_iconst (v := (0 : Int32)) d_LH_isBegun_73 (by decide) ?_
                refine am_iconst (v := (0 : Int32)) d_LH_isBegun_74 (by decide) ?_
                obtain ⟨hc, h⟩ := h
                obtain ⟨h0, h⟩ := h
                refine ak9_VX (as := [.int (1 : Int32), .int (3 : Int32), .int (1 : Int32), .int (0 : Int32), .int (0 : Int32)]) (rest := []) d_LH_isBegun_75 cw_LH_isBegun_75 rfl (am_1E h0 (ch_CB_addReckoned hg hc)) rfl rfl rc_0 (Nat.le_of_ble_eq_true rfl) (by show 0 + 1 + 1 + 1 + 3 + 4 + 3 + 4 + 16 ≤ 63; omega) (by show 0 + 6 + 6 + 6 + 18 + 24 + 18 + 24 + 96 ≤ 378; omega) ?_
                refine am_iconst (v := (2 : Int32)) d_LH_isBegun_78 (by decide) ?_
                refine aj_ne (F := am_oC) (tgt := 147) d_LH_isBegun_79 (by decide) (fun c => ?_) (fun c => ?_)
                · have h := h.2 c
                  refine am_iconst (v := (0 : Int32)) d_LH_isBegun_147 (by decide) ?_
                  exact am_iret d_LH_isBegun_148 rfl (am_bool (Or.inl rfl)).1 (by show 0 + 1 + 1 + 1 + 3 + 4 + 3 + 4 + 16 ≤ 63; omega) (by show 0 + 6 + 6 + 6 + 18 + 24 + 18 + 24 + 96 ≤ 378; omega) am_oC_ok
                · have h := h.1 c
                  refine am_aload_n (j := 0) d_LH_isBegun_82 rfl rfl ?_
                  refine am_iconst (v := (2 : Int32)) d_LH_isBegun_83 (by decide) ?_
                  refine am_iconst (v := (0 : Int32)) d_LH_isBegun_84 (by decide) ?_
                  refine am_bipush (v := (9 : Int32)) d_LH_isBegun_85 (by decide) ?_
                  obtain ⟨hc, h⟩ := h
                  obtain ⟨h0, h⟩ := h
                  refine ak9_VX (as := [.int (2 : Int32), .int (0 : Int32), .int (9 : Int32)]) (rest := []) d_LH_isBegun_87 cw_LH_isBegun_87 rfl (am_1E h0 (ch_CB_addNumber hg hc)) rfl rfl rc_0 (Nat.le_of_ble_eq_true rfl) (by show 0 + 1 + 1 + 1 + 3 + 4 + 3 + 4 + 16 + 3 ≤ 63; omega) (by show 0 + 6 + 6 + 6 + 18 + 24 + 18 + 24 + 96 + 18 ≤ 378; omega) ?_
                  refine ai_ne (F := am_oC) (tgt := 147) d_LH_isBegun_90 (by decide) (fun c => ?_) (fun c => ?_)
                  · have h := h.2 c
                    refine am_iconst (v := (0 : Int32)) d_LH_isBegun_147 (by decide) ?_
                    exact am_iret d_LH_isBegun_148 rfl (am_bool (Or.inl rfl)).1 (by show 0 + 1 + 1 + 1 + 3 + 4 + 3 + 4 + 16 + 3 ≤ 63; omega) (by show 0 + 6 + 6 + 6 + 18 + 24 + 18 + 24 + 96 + 18 ≤ 378; omega) am_oC_ok
                  · have h := h.1 c
                    refine am_aload_n (j := 0) d_LH_isBegun_93 rfl rfl ?_
                    refine am_iconst (v := (0 : Int32)) d_LH_isBegun_94 (by decide) ?_
                    refine am_iconst (v := (-1 : Int32)) d_LH_isBegun_95 (by decide) ?_
                    obtain ⟨hc, h⟩ := h
                    obtain ⟨h0, h⟩ := h
                    refine ak9_VX (as := [.int (0 : Int32), .int (-1 : Int32)]) (rest := []) d_LH_isBegun_96 cw_LH_isBegun_96 rfl (am_1E h0 (ch_CB_ask hg hc)) rfl rfl rc_0 (Nat.le_of_ble_eq_true rfl) (by show 0 + 1 + 1 + 1 + 3 + 4 + 3 + 4 + 16 + 3 + 7 ≤ 63; omega) (by show 0 + 6 + 6 + 6 + 18 + 24 + 18 + 24 + 96 + 18 + 42 ≤ 378; omega) ?_
                    refine ai_ne (F := am_oC) (tgt := 147) d_LH_isBegun_99 (by decide) (fun c => ?_) (fun c => ?_)
                    · have h := h.2 c
                      refine am_iconst (v := (0 : Int32)) d_LH_isBegun_147 (by decide) ?_
                      exact am_iret d_LH_isBegun_148 rfl (am_bool (Or.inl rfl)).1 (by show 0 + 1 + 1 + 1 + 3 + 4 + 3 + 4 + 16 + 3 + 7 ≤ 63; omega) (by show 0 + 6 + 6 + 6 + 18 + 24 + 18 + 24 + 96 + 18 + 42 ≤ 378; omega) am_oC_ok
                    · have h := h.1 c
                      refine am_aload_n (j := 0) d_LH_isBegun_102 rfl rfl ?_
                      refine am_iconst (v := (0 : Int32)) d_LH_isBegun_103 (by decide) ?_
                      refine am_iconst (v := (1 : Int32)) d_LH_isBegun_104 (by decide) ?_
                      obtain ⟨hc, h⟩ := h
                      obtain ⟨h0, h⟩ := h
                      refine ak9_VX (as := [.int (0 : Int32), .int (1 : Int32)]) (rest := []) d_LH_isBegun_105 cw_LH_isBegun_105 rfl (am_1E h0 (ch_CB_ask hg hc)) rfl rfl rc_0 (Nat.le_of_ble_eq_true rfl) (by show 0 + 1 + 1 + 1 + 3 + 4 + 3 + 4 + 16 + 3 + 7 + 7 ≤ 63; omega) (by show 0 + 6 + 6 + 6 + 18 + 24 + 18 + 24 + 96 + 18 + 42 + 42 ≤ 378; omega) ?_
                      refine am_iconst (v := (1 : Int32)) d_LH_isBegun_108 (by decide) ?_
                      refine aj_ne (F := am_oC) (tgt := 147) d_LH_isBegun_109 (by decide) (fun c => ?_) (fun c => ?_)
                      · have h := h.2 c
                        refine am_iconst (v := (0 : Int32)) d_LH_isBegun_147 (by decide) ?_
                        exact am_iret d_LH_isBegun_148 rfl (am_bool (Or.inl rfl)).1 (by show 0 + 1 + 1 + 1 + 3 + 4 + 3 + 4 + 16 + 3 + 7 + 7 ≤ 63; omega) (by show 0 + 6 + 6 + 6 + 18 + 24 + 18 + 24 + 96 + 18 + 42 + 42 ≤ 378; omega) am_oC_ok
                      · have h := h.1 c
                        refine am_aload_n (j := 0) d_LH_isBegun_112 rfl rfl ?_
                        refine am_bipush (v := (10 : Int32)) d_LH_isBegun_113 (by decide) ?_
                        refine am_iconst (v := (1 : Int32)) d_LH_isBegun_115 (by decide) ?_
                        refine am_iconst (v := (0 : Int32)) d_LH_isBegun_116 (by decide) ?_
                        obtain ⟨hc, h⟩ := h
                        obtain ⟨h0, h⟩ := h
                        refine ak9_VX (as := [.int (10 : Int32), .int (1 : Int32), .int (0 : Int32)]) (rest := []) d_LH_isBegun_117 cw_LH_isBegun_117 rfl (am_1E h0 (ch_CB_askGroups hg hc)) rfl rfl rc_0 (Nat.le_of_ble_eq_true rfl) (by show 0 + 1 + 1 + 1 + 3 + 4 + 3 + 4 + 16 + 3 + 7 + 7 + 6 ≤ 63; omega) (by show 0 + 6 + 6 + 6 + 18 + 24 + 18 + 24 + 96 + 18 + 42 + 42 + 36 ≤ 378; omega) ?_
                        refine am_iconst (v := (2 : Int32)) d_LH_isBegun_120 (by decide) ?_
                        refine aj_ne (F := am_oC) (tgt := 147) d_LH_isBegun_121 (by decide) (fun c => ?_) (fun c => ?_)
                        · have h := h.2 c
                          refine am_iconst (v := (0 : Int32)) d_LH_isBegun_147 (by decide) ?_
                          exact am_iret d_LH_isBegun_148 rfl (am_bool (Or.inl rfl)).1 (by show 0 + 1 + 1 + 1 + 3 + 4 + 3 + 4 + 16 + 3 + 7 + 7 + 6 ≤ 63; omega) (by show 0 + 6 + 6 + 6 + 18 + 24 + 18 + 24 + 96 + 18 + 42 + 42 + 36 ≤ 378; omega) am_oC_ok
                        · have h := h.1 c
                          refine am_aload_n (j := 0) d_LH_isBegun_124 rfl rfl ?_
                          obtain ⟨h0, h⟩ := h
                          refine ak9_VX (as := []) (rest := []) d_LH_isBegun_125 cw_LH_isBegun_125 rfl (am_1E h0 (ch_CB_addAct hg)) rfl rfl rc_0 (Nat.le_of_ble_eq_true rfl) (by show 0 + 1 + 1 + 1 + 3 + 4 + 3 + 4 + 16 + 3 + 7 + 7 + 6 + 1 ≤ 63; omega) (by show 0 + 6 + 6 + 6 + 18 + 24 + 18 + 24 + 96 + 18 + 42 + 42 + 36 + 6 ≤ 378; omega) ?_
                          refine ai_ne (F := am_oC) (tgt := 147) d_LH_isBegun_128 (by decide) (fun c => ?_) (fun c => ?_)
                          · have h := h.2 c
                            refine am_iconst (v := (0 : Int32)) d_LH_isBegun_147 (by decide) ?_
                            exact am_iret d_LH_isBegun_148 rfl (am_bool (Or.inl rfl)).1 (by show 0 + 1 + 1 + 1 + 3 + 4 + 3 + 4 + 16 + 3 + 7 + 7 + 6 + 1 ≤ 63; omega) (by show 0 + 6 + 6 + 6 + 18 + 24 + 18 + 24 + 96 + 18 + 42 + 42 + 36 + 6 ≤ 378; omega) am_oC_ok
                          · have h := h.1 c
                            refine am_aload_n (j := 0) d_LH_isBegun_131 rfl rfl ?_
                            refine am_iconst (v := (0 : Int32)) d_LH_isBegun_132 (by decide) ?_
                            refine am_iconst (v := (0 : Int32)) d_LH_isBegun_133 (by decide) ?_
                            refine am_iconst (v := (0 : Int32)) d_LH_isBegun_134 (by decide) ?_
                            refine am_iconst (v := (3 : Int32)) d_LH_isBegun_135 (by decide) ?_
                            obtain ⟨hc, h⟩ := h
                            obtain ⟨h0, h⟩ := h
                            refine ak9_VX (as := [.int (0 : Int32), .int (0 : Int32), .int (0 : Int32), .int (3 : Int32)]) (rest := []) d_LH_isBegun_136 cw_LH_isBegun_136 rfl (am_1E h0 (ch_CB_stepPut hg hc)) rfl rfl rc_0 (Nat.le_of_ble_eq_true rfl) (by show 0 + 1 + 1 + 1 + 3 + 4 + 3 + 4 + 16 + 3 + 7 + 7 + 6 + 1 + 6 ≤ 63; omega) (by show 0 + 6 + 6 + 6 + 18 + 24 + 18 + 24 + 96 + 18 + 42 + 42 + 36 + 6 + 36 ≤ 378; omega) ?_
                            refine am_iconst (v := (1 : Int32)) d_LH_isBegun_139 (by decide) ?_
                            refine aj_ne (F := am_oC) (tgt := 147) d_LH_isBegun_140 (by decide) (fun c => ?_) (fun c => ?_)
                            · have h := h.2 c
                              refine am_iconst (v := (0 : Int32)) d_LH_isBegun_147 (by decide) ?_
                              exact am_iret d_LH_isBegun_148 rfl (am_bool (Or.inl rfl)).1 (by show 0 + 1 + 1 + 1 + 3 + 4 + 3 + 4 + 16 + 3 + 7 + 7 + 6 + 1 + 6 ≤ 63; omega) (by show 0 + 6 + 6 + 6 + 18 + 24 + 18 + 24 + 96 + 18 + 42 + 42 + 36 + 6 + 36 ≤ 378; omega) am_oC_ok
                            · have h := h.1 c
                              refine am_iconst (v := (1 : Int32)) d_LH_isBegun_143 (by decide) ?_
                              refine am_goto (tgt := 148) d_LH_isBegun_144 (by decide) ?_
                              exact am_iret d_LH_isBegun_148 rfl (am_bool (Or.inr rfl)).1 (by show 0 + 1 + 1 + 1 + 3 + 4 + 3 + 4 + 16 + 3 + 7 + 7 + 6 + 1 + 6 ≤ 63; omega) (by show 0 + 6 + 6 + 6 + 18 + 24 + 18 + 24 + 96 + 18 + 42 + 42 + 36 + 6 + 36 ≤ 378; omega) am_oC_ok
theorem ct_LH_isBegun {l : Launch} {g : am_Gl} (hg : g.2.2.2.1 = true) {s : am_M}  (h : p_LH_isBegun s ) : AC l g m_LH_isBegun 207 s [.ref 0] (am_oC (f_LH_isBegun s )) := am_enter ok_LH_isBegun rfl (Nat.le_of_ble_eq_true rfl) rfl (fun ad0 => w_LH_isBegun hg h)
end

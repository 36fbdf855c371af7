theorem xl_MO_choice_145 {b : am_M}  (s : am_M) (x0 : Int32) (x1 : Int32) (x2 : Int32) (x3 : Int32) (x4 : Int32) (x5 : Int32) (x6 : Int32) (x7 : Int32) (x8 : Int32) (x9 : Int32) (x10 : Int32)  : f_MO_choice_145  (mx b s) x0 x1 x2 x3 x4 x5 x6 x7 x8 x9 x10 = mxC b (f_MO_choice_145  s x0 x1 x2 x3 x4 x5 x6 x7 x8 x9 x10) := by
  unfold f_MO_choice_145
  simp only [mr_228, xl_MO_told, mxC_1, mxC_2, mxC_p, mxC_i, mx_i]
theorem xl_MO_choice_104 {b : am_M}  : ∀ (n : Nat) (s : am_M) (x0 : Int32) (x1 : Int32) (x2 : Int32) (x3 : Int32) (x4 : Int32) (x5 : Int32) (x6 : Int32) (x7 : Int32) (x8 : Int32) (x9 : Int32) (x10 : Int32), f_MO_choice_104  n (mx b s) x0 x1 x2 x3 x4 x5 x6 x7 x8 x9 x10 = mxC b (f_MO_choice_104  n s x0 x1 x2 x3 x4 x5 x6 x7 x8 x9 x10) := by
  intro n
  induction n with
  | zero => intro s x0 x1 x2 x3 x4 x5 x6 x7 x8 x9 x10 ; rfl
  | succ n ih =>
    intro s x0 x1 x2 x3 x4 x5 x6 x7 x8 x9 x10 
    unfold f_MO_choice_104
    simp only [ih, mr_228, xl_MO_choice_139 ih, xl_MO_choice_145, xl_MO_couldPut, xl_MO_isRow, mxC_1, mxC_2, mxC_p, mxC_i, mx_i]
theorem xl_MO_choice_55 {b : am_M}  (s : am_M) (x0 : Int32) (x1 : Int32) (x2 : Int32) (x3 : Int32) (x4 : Int32) (x5 : Int32)  : f_MO_choice_55  (mx b s) x0 x1 x2 x3 x4 x5 = mxC b (f_MO_choice_55  s x0 x1 x2 x3 x4 x5) := by
  unfold f_MO_choice_55
  simp only [mr_207, mr_212, xl_MO_choice_104, xl_MO_holds, mxC_1, mxC_2, mxC_p, mxC_i, mx_i]
theorem xl_MO_choice_54 {b : am_M}  (s : am_M) (x0 : Int32) (x1 : Int32) (x2 : Int32) (x3 : Int32) (x4 : Int32)  : f_MO_choice_54  (mx b s) x0 x1 x2 x3 x4 = mxC b (f_MO_choice_54  s x0 x1 x2 x3 x4) := by
  unfold f_MO_choice_54
  simp only [xl_MO_choice_55, mxC_1, mxC_2, mxC_p, mxC_i, mx_i]
theorem xl_MO_choice_23 {b : am_M}  (s : am_M) (x0 : Int32) (x1 : Int32) (x2 : Int32) (x3 : Int32) (x4 : Int32)  : f_MO_choice_23  (mx b s) x0 x1 x2 x3 x4 = mxC b (f_MO_choice_23  s x0 x1 x2 x3 x4) := by
  unfold f_MO_choice_23
  simp only [xl_MO_choice_54, xl_MO_choice_55, xl_MO_kindOf, mxC_1, mxC_2, mxC_p, mxC_i, mx_i]
theorem xl_MO_choice_22 {b : am_M}  (s : am_M) (x0 : Int32) (x1 : Int32) (x2 : Int32) (x3 : Int32)  : f_MO_choice_22  (mx b s) x0 x1 x2 x3 = mxC b (f_MO_choice_22  s x0 x1 x2 x3) := by
  unfold f_MO_choice_22
  simp only [xl_MO_choice_23, mxC_1, mxC_2, mxC_p, mxC_i, mx_i]
theorem xl_MO_choice {b : am_M}  (s : am_M) (x0 : Int32) (x1 : Int32) (x2 : Int32) (x3 : Int32)  : f_MO_choice  (mx b s) x0 x1 x2 x3 = mxC b (f_MO_choice  s x0 x1 x2 x3) := by
  unfold f_MO_choice
  simp only [xl_MO_choice_22, xl_MO_choice_23, xl_MO_isColumn, xl_MO_isRow, mxC_1, mxC_2, mxC_p, mxC_i, mx_i]
theorem xl_MO_empties_27 {b : am_M} {K4 : am_M → Int32 → Int32 → Int32 × am_M} (hK4 : ∀ (s : am_M) (a0 : Int32) (a1 : Int32), K4 (mx b s) a0 a1 = mxC b (K4 s a0 a1)) (s : am_M) (x0 : Int32) (x1 : Int32) (x2 : Int32) (x3 : Int32)  : f_MO_empties_27 K4 (mx b s) x0 x1 x2 x3 = mxC b (f_MO_empties_27 K4 s x0 x1 x2 x3) := by
  unfold f_MO_empties_27
  simp only [hK4, mr_231, ms_231, mxC_1, mxC_2, mxC_p, mxC_i, mx_i]
theorem xl_MO_empties_4 {b : am_M}  : ∀ (n : Nat) (s : am_M) (x0 : Int32) (x1 : Int32), f_MO_empties_4  n (mx b s) x0 x1 = mxC b (f_MO_empties_4  n s x0 x1) := by
  intro n
  induction n with
  | zero => intro s x0 x1 ; rfl
  | succ n ih =>
    intro s x0 x1 
    unfold f_MO_empties_4
    simp only [ih, mr_231, xl_MO_empties_27 ih, mxC_1, mxC_2, mxC_p, mxC_i, mx_i]
theorem xl_MO_empties {b : am_M}  (s : am_M)   : f_MO_empties  (mx b s)  = mxC b (f_MO_empties  s ) := by
  unfold f_MO_empties
  simp only [xl_MO_empties_4, mxC_1, mxC_2, mxC_p, mxC_i, mx_i]
theorem xl_MO_clearDraft {b : am_M}  (s : am_M)   : f_MO_clearDraft  (mx b s)  = mxC b (f_MO_clearDraft  s ) := by
  unfold f_MO_clearDraft
  simp only [mr_207, ms_207, xl_MO_empties, mxC_1, mxC_2, mxC_p, mxC_i, mx_i]
theorem xl_MO_columns_14 {b : am_M}  (s : am_M) (x0 : Int32) (x1 : Int32)  : f_MO_columns_14  (mx b s) x0 x1 = mxC b (f_MO_columns_14  s x0 x1) := by
  unfold f_MO_columns_14
  simp only [mr_249, xl_MO_holds, xl_MO_lays, mxC_1, mxC_2, mxC_p, mxC_i, mx_i]
theorem xl_MO_columns {b : am_M}  (s : am_M) (x0 : Int32)  : f_MO_columns  (mx b s) x0 = mxC b (f_MO_columns  s x0) := by
  unfold f_MO_columns
  simp only [xl_MO_columns_14, xl_MO_isQuestion, mxC_1, mxC_2, mxC_p, mxC_i, mx_i]
theorem xl_MO_errorOfQuestion {b : am_M}  (s : am_M) (x0 : Int32) (x1 : Int32)  : f_MO_errorOfQuestion  (mx b s) x0 x1 = mxC b (f_MO_errorOfQuestion  s x0 x1) := by
  unfold f_MO_errorOfQuestion
  simp only [mr_236, xl_MO_hasColumn, xl_MO_isQuestion, mxC_1, mxC_2, mxC_p, mxC_i, mx_i]
theorem xl_MO_condition_84 {b : am_M}  (s : am_M) (x0 : Int32) (x1 : Int32) (x2 : Int32) (x3 : Int32) (x4 : Int32) (x5 : Int32) (x6 : Int32) (x7 : Int32)  : f_MO_condition_84  (mx b s) x0 x1 x2 x3 x4 x5 x6 x7 = mxC b (f_MO_condition_84  s x0 x1 x2 x3 x4 x5 x6 x7) := by
  unfold f_MO_condition_84
  simp only [mr_243, mr_244, mr_245, mr_246, mr_247, ms_243, ms_244, ms_245, ms_246, ms_247, xl_MO_holds, mxC_1, mxC_2, mxC_p, mxC_i, mx_i]
theorem xl_MO_condition_46 {b : am_M}  (s : am_M) (x0 : Int32) (x1 : Int32) (x2 : Int32) (x3 : Int32) (x4 : Int32) (x5 : Int32) (x6 : Int32)  : f_MO_condition_46  (mx b s) x0 x1 x2 x3 x4 x5 x6 = mxC b (f_MO_condition_46  s x0 x1 x2 x3 x4 x5 x6) := by
  unfold f_MO_condition_46
  simp only [mr_243, xl_MO_condition_84, mxC_1, mxC_2, mxC_p, mxC_i, mx_i]
theorem xl_MO_condition_45 {b : am_M}  (s : am_M) (x0 : Int32) (x1 : Int32) (x2 : Int32) (x3 : Int32) (x4 : Int32) (x5 : Int32)  : f_MO_condition_45  (mx b s) x0 x1 x2 x3 x4 x5 = mxC b (f_MO_condition_45  s x0 x1 x2 x3 x4 x5) := by
  unfold f_MO_condition_45
  simp only [xl_MO_condition_46, mxC_1, mxC_2, mxC_p, mxC_i, mx_i]
theorem xl_MO_condition {b : am_M}  (s : am_M) (x0 : Int32) (x1 : Int32) (x2 : Int32) (x3 : Int32) (x4 : Int32)  : f_MO_condition  (mx b s) x0 x1 x2 x3 x4 = mxC b (f_MO_condition  s x0 x1 x2 x3 x4) := by
  unfold f_MO_condition
  simp only [xl_MO_condition_45, xl_MO_condition_46, xl_MO_errorOfQuestion, xl_MO_in, mxC_1, mxC_2, mxC_p, mxC_i, mx_i]
theorem xl_MO_entersRow_121 {b : am_M} {K40 : am_M → Nat → Int32 → Int32 → Int32 → Int32 → Int32 → Int32 × am_M} (hK40 : ∀ (s : am_M) (a0 : Nat) (a1 : Int32) (a2 : Int32) (a3 : Int32) (a4 : Int32) (a5 : Int32), 207 ≤ a0 → a0 ≤ 261 → K40 (mx b s) a0 a1 a2 a3 a4 a5 = mxC b (K40 s a0 a1 a2 a3 a4 a5)) (s : am_M) (x0 : Nat) (x1 : Int32) (x2 : Int32) (x3 : Int32) (x4 : Int32) (x5 : Int32) (x6 : Int32) (x7 : Int32) (x8 : Int32) (h1x0 : 207 ≤ x0) (h2x0 : x0 ≤ 261) : f_MO_entersRow_121 K40 (mx b s) x0 x1 x2 x3 x4 x5 x6 x7 x8 = mxC b (f_MO_entersRow_121 K40 s x0 x1 x2 x3 x4 x5 x6 x7 x8) := by
  unfold f_MO_entersRow_121
  simp only [hK40, mr_230, ms_230, mxC_1, mxC_2, mxC_p, mxC_i, mx_i, mx_a9, h1x0, h2x0]
theorem xl_MO_entersRow_77 {b : am_M} {K40 : am_M → Nat → Int32 → Int32 → Int32 → Int32 → Int32 → Int32 × am_M} (hK40 : ∀ (s : am_M) (a0 : Nat) (a1 : Int32) (a2 : Int32) (a3 : Int32) (a4 : Int32) (a5 : Int32), 207 ≤ a0 → a0 ≤ 261 → K40 (mx b s) a0 a1 a2 a3 a4 a5 = mxC b (K40 s a0 a1 a2 a3 a4 a5)) (s : am_M) (x0 : Nat) (x1 : Int32) (x2 : Int32) (x3 : Int32) (x4 : Int32) (x5 : Int32) (x6 : Int32) (h1x0 : 207 ≤ x0) (h2x0 : x0 ≤ 261) : f_MO_entersRow_77 K40 (mx b s) x0 x1 x2 x3 x4 x5 x6 = mxC b (f_MO_entersRow_77 K40 s x0 x1 x2 x3 x4 x5 x6) := by
  unfold f_MO_entersRow_77
  simp only [hK40, mr_207, xl_MO_at, xl_MO_entersRow_121 hK40, mxC_1, mxC_2, mxC_p, mxC_i, mx_i, mx_a9, h1x0, h2x0]
theorem xl_MO_entersRow_76 {b : am_M} {K40 : am_M → Nat → Int32 → Int32 → Int32 → Int32 → Int32 → Int32 × am_M} (hK40 : ∀ (s : am_M) (a0 : Nat) (a1 : Int32) (a2 : Int32) (a3 : Int32) (a4 : Int32) (a5 : Int32), 207 ≤ a0 → a0 ≤ 261 → K40 (mx b s) a0 a1 a2 a3 a4 a5 = mxC b (K40 s a0 a1 a2 a3 a4 a5)) (s : am_M) (x0 : Nat) (x1 : Int32) (x2 : Int32) (x3 : Int32) (x4 : Int32) (x5 : Int32) (h1x0 : 207 ≤ x0) (h2x0 : x0 ≤ 261) : f_MO_entersRow_76 K40 (mx b s) x0 x1 x2 x3 x4 x5 = mxC b (f_MO_entersRow_76 K40 s x0 x1 x2 x3 x4 x5) := by
  unfold f_MO_entersRow_76
  simp only [hK40, xl_MO_entersRow_77 hK40, mxC_1, mxC_2, mxC_p, mxC_i, mx_i, mx_a9, h1x0, h2x0]
theorem xl_MO_entersRow_40 {b : am_M}  : ∀ (n : Nat) (s : am_M) (x0 : Nat) (x1 : Int32) (x2 : Int32) (x3 : Int32) (x4 : Int32) (x5 : Int32), 207 ≤ x0 → x0 ≤ 261 → f_MO_entersRow_40  n (mx b s) x0 x1 x2 x3 x4 x5 = mxC b (f_MO_entersRow_40  n s x0 x1 x2 x3 x4 x5) := by
  intro n
  induction n with
  | zero => intro s x0 x1 x2 x3 x4 x5 h1x0 h2x0; rfl
  | succ n ih =>
    intro s x0 x1 x2 x3 x4 x5 h1x0 h2x0
    unfold f_MO_entersRow_40
    simp only [ih, mr_208, xl_MO_entersRow_76 ih, xl_MO_entersRow_77 ih, xl_MO_isKept, xl_MO_isStored, mxC_1, mxC_2, mxC_p, mxC_i, mx_i, mx_a9, h1x0, h2x0]
theorem xl_MO_entersRow {b : am_M}  (s : am_M) (x0 : Int32) (x1 : Nat) (x2 : Int32) (x3 : Int32) (h1x1 : 207 ≤ x1) (h2x1 : x1 ≤ 261) : f_MO_entersRow  (mx b s) x0 x1 x2 x3 = mxC b (f_MO_entersRow  s x0 x1 x2 x3) := by
  unfold f_MO_entersRow
  simp only [mr_228, mr_229, ms_228, ms_229, xl_MO_entersRow_40, xl_MO_saves, mxC_1, mxC_2, mxC_p, mxC_i, mx_i, mx_a9, h1x1, h2x1]
theorem xl_MO_doesAdd {b : am_M}  (s : am_M) (x0 : Int32)  : f_MO_doesAdd  (mx b s) x0 = mxC b (f_MO_doesAdd  s x0) := by
  unfold f_MO_doesAdd
  simp only [mr_228, mr_257, mr_260, (fun s x0 x2 x3 => xl_MO_entersRow (b := b) s x0 260 x2 x3 (by decide) (by decide)), xl_MO_told, mxC_1, mxC_2, mxC_p, mxC_i, mx_i]
theorem xl_MO_keepsRows_7 {b : am_M}  : ∀ (n : Nat) (s : am_M) (x0 : Int32) (x1 : Int32) (x2 : Int32), f_MO_keepsRows_7  n (mx b s) x0 x1 x2 = mxC b (f_MO_keepsRows_7  n s x0 x1 x2) := by
  intro n
  induction n with
  | zero => intro s x0 x1 x2 ; rfl
  | succ n ih =>
    intro s x0 x1 x2 
    unfold f_MO_keepsRows_7
    simp only [ih, mr_248, mr_251, mr_261, ms_248, ms_251, ms_261, mxC_1, mxC_2, mxC_p, mxC_i, mx_i]
theorem xl_MO_keepsRows {b : am_M}  (s : am_M) (x0 : Int32) (x1 : Int32)  : f_MO_keepsRows  (mx b s) x0 x1 = mxC b (f_MO_keepsRows  s x0 x1) := by
  unfold f_MO_keepsRows
  simp only [xl_MO_keepsRows_7, xl_MO_lays, mxC_1, mxC_2, mxC_p, mxC_i, mx_i]
theorem xl_MO_writable_24 {b s : am_M}  {x0 : Int32} {x1 : Int32} {x2 : Int32} : f_MO_writable_24  (mx b s) x0 x1 x2 = f_MO_writable_24  s x0 x1 x2 := by
  unfold f_MO_writable_24
  simp only [xl_MO_isStored, mxC_1, mxC_2, mxC_p, mxC_i, mx_i]
theorem xl_MO_writable {b s : am_M}  {x0 : Int32} {x1 : Int32} : f_MO_writable  (mx b s) x0 x1 = f_MO_writable  s x0 x1 := by
  unfold f_MO_writable
  simp only [mr_236, mr_252, xl_MO_writable_24, mxC_1, mxC_2, mxC_p, mxC_i, mx_i]
theorem xl_MO_isUnwritable {b : am_M}  (s : am_M)   : f_MO_isUnwritable  (mx b s)  = mxC b (f_MO_isUnwritable  s ) := by
  unfold f_MO_isUnwritable
  simp only [xl_MO_told, mxC_1, mxC_2, mxC_p, mxC_i, mx_i]
theorem xl_MO_writesCell {b : am_M}  (s : am_M) (x0 : Int32) (x1 : Int32) (x2 : Int32) (x3 : Int32)  : f_MO_writesCell  (mx b s) x0 x1 x2 x3 = mxC b (f_MO_writesCell  s x0 x1 x2 x3) := by
  unfold f_MO_writesCell
  simp only [mr_230, ms_230, xl_MO_at, xl_MO_isKept, xl_MO_saves, mxC_1, mxC_2, mxC_p, mxC_i, mx_i]
theorem xl_MO_doesPut_54 {b : am_M}  : ∀ (n : Nat) (s : am_M) (x0 : Int32) (x1 : Int32) (x2 : Int32) (x3 : Int32) (x4 : Int32), f_MO_doesPut_54  n (mx b s) x0 x1 x2 x3 x4 = mxC b (f_MO_doesPut_54  n s x0 x1 x2 x3 x4) := by
  intro n
  induction n with
  | zero => intro s x0 x1 x2 x3 x4 ; rfl
  | succ n ih =>
    intro s x0 x1 x2 x3 x4 
    unfold f_MO_doesPut_54
    simp only [ih, mr_259, mr_261, xl_MO_writesCell, mxC_1, mxC_2, mxC_p, mxC_i, mx_i]
theorem xl_MO_doesPut_48 {b : am_M}  (s : am_M) (x0 : Int32) (x1 : Int32) (x2 : Int32)  : f_MO_doesPut_48  (mx b s) x0 x1 x2 = mxC b (f_MO_doesPut_48  s x0 x1 x2) := by
  unfold f_MO_doesPut_48
  simp only [xl_MO_doesPut_54, mxC_1, mxC_2, mxC_p, mxC_i, mx_i]
theorem xl_MO_doesPut {b : am_M}  (s : am_M) (x0 : Int32)  : f_MO_doesPut  (mx b s) x0 = mxC b (f_MO_doesPut  s x0) := by
  unfold f_MO_doesPut
  simp only [mr_257, mr_258, xl_MO_doesPut_48, xl_MO_isUnwritable, xl_MO_keepsRows, xl_MO_writable, mxC_1, mxC_2, mxC_p, mxC_i, mx_i]
theorem xl_MO_doesLead {b s : am_M}  {x0 : Int32} {x1 : Int32} {x2 : Int32} : f_MO_doesLead  (mx b s) x0 x1 x2 = f_MO_doesLead  s x0 x1 x2 := by
  unfold f_MO_doesLead
  simp only [mr_209, mr_212, mr_213, mr_229, mr_230, mr_232, mxC_1, mxC_2, mxC_p, mxC_i, mx_i]
theorem xl_MO_nextToGo_42 {b s : am_M} {K2 : Int32 → Int32} {x0 : Int32} : f_MO_nextToGo_42 K2 (mx b s) x0 = f_MO_nextToGo_42 K2 s x0 := by
  unfold f_MO_nextToGo_42
  rfl
theorem xl_MO_nextToGo_2 {b s : am_M}  : ∀ (n : Nat), f_MO_nextToGo_2  n (mx b s) = f_MO_nextToGo_2  n s := by
  intro n
  induction n with
  | zero => rfl
  | succ n ih =>
    funext x0
    unfold f_MO_nextToGo_2
    simp only [ih, mr_232, xl_MO_doesLead, xl_MO_nextToGo_42, mxC_1, mxC_2, mxC_p, mxC_i, mx_i]
theorem xl_MO_nextToGo {b s : am_M}   : f_MO_nextToGo  (mx b s)  = f_MO_nextToGo  s  := by
  unfold f_MO_nextToGo
  simp only [xl_MO_nextToGo_2, mxC_1, mxC_2, mxC_p, mxC_i, mx_i]
theorem xl_MO_isForbidden_37 {b : am_M}  (s : am_M) (x0 : Int32)  : f_MO_isForbidden_37  (mx b s) x0 = mxC b (f_MO_isForbidden_37  s x0) := by
  unfold f_MO_isForbidden_37
  simp only [xl_MO_told, mxC_1, mxC_2, mxC_p, mxC_i, mx_i]
theorem xl_MO_isForbidden_62 {b : am_M} {K2 : am_M → Int32 → Int32 × am_M} (hK2 : ∀ (s : am_M) (a0 : Int32), K2 (mx b s) a0 = mxC b (K2 s a0)) (s : am_M) (x0 : Int32)  : f_MO_isForbidden_62 K2 (mx b s) x0 = mxC b (f_MO_isForbidden_62 K2 s x0) := by
  unfold f_MO_isForbidden_62
  simp only [hK2, mxC_1, mxC_2, mxC_p, mxC_i, mx_i]
theorem xl_MO_isForbidden_2 {b : am_M}  : ∀ (n : Nat) (s : am_M) (x0 : Int32), f_MO_isForbidden_2  n (mx b s) x0 = mxC b (f_MO_isForbidden_2  n s x0) := by
  intro n
  induction n with
  | zero => intro s x0 ; rfl
  | succ n ih =>
    intro s x0 
    unfold f_MO_isForbidden_2
    simp only [ih, mr_232, xl_MO_doesLead, xl_MO_isForbidden_37, xl_MO_isForbidden_62 ih, mxC_1, mxC_2, mxC_p, mxC_i, mx_i]
theorem xl_MO_isForbidden {b : am_M}  (s : am_M)   : f_MO_isForbidden  (mx b s)  = mxC b (f_MO_isForbidden  s ) := by
  unfold f_MO_isForbidden
  simp only [xl_MO_isForbidden_2, mxC_1, mxC_2, mxC_p, mxC_i, mx_i]
theorem xl_MO_removesRow_135 {b : am_M} {K66 : am_M → Int32 → Int32 → Int32 → Int32 → Int32 × am_M} (hK66 : ∀ (s : am_M) (a0 : Int32) (a1 : Int32) (a2 : Int32) (a3 : Int32), K66 (mx b s) a0 a1 a2 a3 = mxC b (K66 s a0 a1 a2 a3)) (s : am_M) (x0 : Int32) (x1 : Int32) (x2 : Int32) (x3 : Int32) (x4 : Int32) (x5 : Int32) (x6 : Int32)  : f_MO_removesRow_135 K66 (mx b s) x0 x1 x2 x3 x4 x5 x6 = mxC b (f_MO_removesRow_135 K66 s x0 x1 x2 x3 x4 x5 x6) := by
  unfold f_MO_removesRow_135
  simp only [hK66, mr_230, ms_230, mxC_1, mxC_2, mxC_p, mxC_i, mx_i]
theorem xl_MO_removesRow_110 {b : am_M} {K66 : am_M → Int32 → Int32 → Int32 → Int32 → Int32 × am_M} (hK66 : ∀ (s : am_M) (a0 : Int32) (a1 : Int32) (a2 : Int32) (a3 : Int32), K66 (mx b s) a0 a1 a2 a3 = mxC b (K66 s a0 a1 a2 a3)) (s : am_M) (x0 : Int32) (x1 : Int32) (x2 : Int32) (x3 : Int32) (x4 : Int32)  : f_MO_removesRow_110 K66 (mx b s) x0 x1 x2 x3 x4 = mxC b (f_MO_removesRow_110 K66 s x0 x1 x2 x3 x4) := by
  unfold f_MO_removesRow_110
  simp only [hK66, mr_230, xl_MO_removesRow_135 hK66, mxC_1, mxC_2, mxC_p, mxC_i, mx_i]
theorem xl_MO_removesRow_109 {b : am_M} {K66 : am_M → Int32 → Int32 → Int32 → Int32 → Int32 × am_M} (hK66 : ∀ (s : am_M) (a0 : Int32) (a1 : Int32) (a2 : Int32) (a3 : Int32), K66 (mx b s) a0 a1 a2 a3 = mxC b (K66 s a0 a1 a2 a3)) (s : am_M) (x0 : Int32) (x1 : Int32) (x2 : Int32) (x3 : Int32)  : f_MO_removesRow_109 K66 (mx b s) x0 x1 x2 x3 = mxC b (f_MO_removesRow_109 K66 s x0 x1 x2 x3) := by
  unfold f_MO_removesRow_109
  simp only [hK66, xl_MO_removesRow_110 hK66, mxC_1, mxC_2, mxC_p, mxC_i, mx_i]
theorem xl_MO_removesRow_183 {b : am_M} {K145 : am_M → Int32 → Int32 → Int32 → Int32 → Int32 × am_M} (hK145 : ∀ (s : am_M) (a0 : Int32) (a1 : Int32) (a2 : Int32) (a3 : Int32), K145 (mx b s) a0 a1 a2 a3 = mxC b (K145 s a0 a1 a2 a3)) (s : am_M) (x0 : Int32) (x1 : Int32) (x2 : Int32) (x3 : Int32) (x4 : Int32) (x5 : Int32)  : f_MO_removesRow_183 K145 (mx b s) x0 x1 x2 x3 x4 x5 = mxC b (f_MO_removesRow_183 K145 s x0 x1 x2 x3 x4 x5) := by
  unfold f_MO_removesRow_183
  simp only [hK145, mr_229, ms_229, mxC_1, mxC_2, mxC_p, mxC_i, mx_i]
theorem xl_MO_removesRow_182 {b : am_M} {K145 : am_M → Int32 → Int32 → Int32 → Int32 → Int32 × am_M} (hK145 : ∀ (s : am_M) (a0 : Int32) (a1 : Int32) (a2 : Int32) (a3 : Int32), K145 (mx b s) a0 a1 a2 a3 = mxC b (K145 s a0 a1 a2 a3)) (s : am_M) (x0 : Int32) (x1 : Int32) (x2 : Int32) (x3 : Int32) (x4 : Int32)  : f_MO_removesRow_182 K145 (mx b s) x0 x1 x2 x3 x4 = mxC b (f_MO_removesRow_182 K145 s x0 x1 x2 x3 x4) := by
  unfold f_MO_removesRow_182
  simp only [hK145, xl_MO_removesRow_183 hK145, mxC_1, mxC_2, mxC_p, mxC_i, mx_i]
theorem xl_MO_removesRow_145 {b : am_M}  : ∀ (n : Nat) (s : am_M) (x0 : Int32) (x1 : Int32) (x2 : Int32) (x3 : Int32), f_MO_removesRow_145  n (mx b s) x0 x1 x2 x3 = mxC b (f_MO_removesRow_145  n s x0 x1 x2 x3) := by
  intro n
  induction n with
  | zero => intro s x0 x1 x2 x3 ; rfl
  | succ n ih =>
    intro s x0 x1 x2 x3 
    unfold f_MO_removesRow_145
    simp only [ih, mr_229, mr_232, xl_MO_isKept, xl_MO_removesRow_182 ih, xl_MO_removesRow_183 ih, mxC_1, mxC_2, mxC_p, mxC_i, mx_i]
theorem xl_MO_removesRow_142 {b : am_M}  (s : am_M) (x0 : Int32) (x1 : Int32) (x2 : Int32) (x3 : Int32)  : f_MO_removesRow_142  (mx b s) x0 x1 x2 x3 = mxC b (f_MO_removesRow_142  s x0 x1 x2 x3) := by
  unfold f_MO_removesRow_142
  simp only [xl_MO_removesRow_145, mxC_1, mxC_2, mxC_p, mxC_i, mx_i]
theorem xl_MO_removesRow_66 {b : am_M}  : ∀ (n : Nat) (s : am_M) (x0 : Int32) (x1 : Int32) (x2 : Int32) (x3 : Int32), f_MO_removesRow_66  n (mx b s) x0 x1 x2 x3 = mxC b (f_MO_removesRow_66  n s x0 x1 x2 x3) := by
  intro n
  induction n with
  | zero => intro s x0 x1 x2 x3 ; rfl
  | succ n ih =>
    intro s x0 x1 x2 x3 
    unfold f_MO_removesRow_66
    simp only [ih, mr_232, xl_MO_doesLead, xl_MO_removesRow_109 ih, xl_MO_removesRow_110 ih, xl_MO_removesRow_142, mxC_1, mxC_2, mxC_p, mxC_i, mx_i]
theorem xl_MO_removesRow_48 {b : am_M}  (s : am_M) (x0 : Int32) (x1 : Int32) (x2 : Int32)  : f_MO_removesRow_48  (mx b s) x0 x1 x2 = mxC b (f_MO_removesRow_48  s x0 x1 x2) := by
  unfold f_MO_removesRow_48
  simp only [xl_MO_isForbidden, xl_MO_removesRow_66, xl_MO_saves, mxC_1, mxC_2, mxC_p, mxC_i, mx_i]
theorem xl_MO_removesRow_28 {b : am_M}  : ∀ (n : Nat) (s : am_M) (x0 : Int32) (x1 : Int32) (x2 : Int32), f_MO_removesRow_28  n (mx b s) x0 x1 x2 = mxC b (f_MO_removesRow_28  n s x0 x1 x2) := by
  intro n
  induction n with
  | zero => intro s x0 x1 x2 ; rfl
  | succ n ih =>
    intro s x0 x1 x2 
    unfold f_MO_removesRow_28
    simp only [ih, mr_232, ms_232, xl_MO_nextToGo, xl_MO_removesRow_48, mxC_1, mxC_2, mxC_p, mxC_i, mx_i]
theorem xl_MO_removesRow_21 {b : am_M}  (s : am_M) (x0 : Int32) (x1 : Int32) (x2 : Int32)  : f_MO_removesRow_21  (mx b s) x0 x1 x2 = mxC b (f_MO_removesRow_21  s x0 x1 x2) := by
  unfold f_MO_removesRow_21
  simp only [xl_MO_removesRow_28, mxC_1, mxC_2, mxC_p, mxC_i, mx_i]
theorem xl_MO_removesRow_2 {b : am_M}  : ∀ (n : Nat) (s : am_M) (x0 : Int32) (x1 : Int32) (x2 : Int32), f_MO_removesRow_2  n (mx b s) x0 x1 x2 = mxC b (f_MO_removesRow_2  n s x0 x1 x2) := by
  intro n
  induction n with
  | zero => intro s x0 x1 x2 ; rfl
  | succ n ih =>
    intro s x0 x1 x2 
    unfold f_MO_removesRow_2
    simp only [ih, mr_232, ms_232, xl_MO_removesRow_21, mxC_1, mxC_2, mxC_p, mxC_i, mx_i]
theorem xl_MO_removesRow {b : am_M}  (s : am_M) (x0 : Int32) (x1 : Int32)  : f_MO_removesRow  (mx b s) x0 x1 = mxC b (f_MO_removesRow  s x0 x1) := by
  unfold f_MO_removesRow
  simp only [xl_MO_removesRow_2, mxC_1, mxC_2, mxC_p, mxC_i, mx_i]
theorem xl_MO_doesRemove_111 {b : am_M} {K59 : am_M → Int32 → Int32 → Int32 → Int32 → Int32 → Int32 × am_M} (hK59 : ∀ (s : am_M) (a0 : Int32) (a1 : Int32) (a2 : Int32) (a3 : Int32) (a4 : Int32), K59 (mx b s) a0 a1 a2 a3 a4 = mxC b (K59 s a0 a1 a2 a3 a4)) (s : am_M) (x0 : Int32) (x1 : Int32) (x2 : Int32) (x3 : Int32) (x4 : Int32) (x5 : Int32)  : f_MO_doesRemove_111 K59 (mx b s) x0 x1 x2 x3 x4 x5 = mxC b (f_MO_doesRemove_111 K59 s x0 x1 x2 x3 x4 x5) := by
  unfold f_MO_doesRemove_111
  simp only [hK59, mxC_1, mxC_2, mxC_p, mxC_i, mx_i]
theorem xl_MO_doesRemove_106 {b : am_M} {K59 : am_M → Int32 → Int32 → Int32 → Int32 → Int32 → Int32 × am_M} (hK59 : ∀ (s : am_M) (a0 : Int32) (a1 : Int32) (a2 : Int32) (a3 : Int32) (a4 : Int32), K59 (mx b s) a0 a1 a2 a3 a4 = mxC b (K59 s a0 a1 a2 a3 a4)) (s : am_M) (x0 : Int32) (x1 : Int32) (x2 : Int32) (x3 : Int32) (x4 : Int32)  : f_MO_doesRemove_106 K59 (mx b s) x0 x1 x2 x3 x4 = mxC b (f_MO_doesRemove_106 K59 s x0 x1 x2 x3 x4) := by
  unfold f_MO_doesRemove_106
  simp only [hK59, xl_MO_doesRemove_111 hK59, mxC_1, mxC_2, mxC_p, mxC_i, mx_i]
theorem xl_MO_doesRemove_59 {b : am_M}  : ∀ (n : Nat) (s : am_M) (x0 : Int32) (x1 : Int32) (x2 : Int32) (x3 : Int32) (x4 : Int32), f_MO_doesRemove_59  n (mx b s) x0 x1 x2 x3 x4 = mxC b (f_MO_doesRemove_59  n s x0 x1 x2 x3 x4) := by
  intro n
  induction n with
  | zero => intro s x0 x1 x2 x3 x4 ; rfl
  | succ n ih =>
    intro s x0 x1 x2 x3 x4 
    unfold f_MO_doesRemove_59
    simp only [ih, mr_261, xl_MO_doesRemove_106 ih, xl_MO_doesRemove_111 ih, xl_MO_isRow, xl_MO_removesRow, mxC_1, mxC_2, mxC_p, mxC_i, mx_i]
theorem xl_MO_doesRemove_53 {b : am_M}  (s : am_M) (x0 : Int32) (x1 : Int32) (x2 : Int32)  : f_MO_doesRemove_53  (mx b s) x0 x1 x2 = mxC b (f_MO_doesRemove_53  s x0 x1 x2) := by
  unfold f_MO_doesRemove_53
  simp only [xl_MO_doesRemove_59, mxC_1, mxC_2, mxC_p, mxC_i, mx_i]
theorem xl_MO_doesRemove {b : am_M}  (s : am_M) (x0 : Int32)  : f_MO_doesRemove  (mx b s) x0 = mxC b (f_MO_doesRemove  s x0) := by
  unfold f_MO_doesRemove
  simp only [mr_252, mr_257, mr_258, xl_MO_doesRemove_53, xl_MO_isUnwritable, xl_MO_keepsRows, mxC_1, mxC_2, mxC_p, mxC_i, mx_i]
theorem xl_MO_doesStep {b : am_M}  (s : am_M) (x0 : Int32)  : f_MO_doesStep  (mx b s) x0 = mxC b (f_MO_doesStep  s x0) := by
  unfold f_MO_doesStep
  simp only [mr_256, xl_MO_doesAdd, xl_MO_doesPut, xl_MO_doesRemove, mxC_1, mxC_2, mxC_p, mxC_i, mx_i]
theorem xl_MO_leftOut {b : am_M}  (s : am_M) (x0 : Int32)  : f_MO_leftOut  (mx b s) x0 = mxC b (f_MO_leftOut  s x0) := by
  unfold f_MO_leftOut
  simp only [mr_248, mr_256, mr_257, mr_259, xl_MO_lays, mxC_1, mxC_2, mxC_p, mxC_i, mx_i]
theorem xl_MO_doesAll_2 {b : am_M}  : ∀ (n : Nat) (s : am_M) (x0 : Int32) (x1 : Int32), f_MO_doesAll_2  n (mx b s) x0 x1 = mxC b (f_MO_doesAll_2  n s x0 x1) := by
  intro n
  induction n with
  | zero => intro s x0 x1 ; rfl
  | succ n ih =>
    intro s x0 x1 
    unfold f_MO_doesAll_2
    simp only [ih, mr_255, xl_MO_doesStep, xl_MO_leftOut, mxC_1, mxC_2, mxC_p, mxC_i, mx_i]
theorem xl_MO_doesAll {b : am_M}  (s : am_M) (x0 : Int32)  : f_MO_doesAll  (mx b s) x0 = mxC b (f_MO_doesAll  s x0) := by
  unfold f_MO_doesAll
  simp only [xl_MO_doesAll_2, mxC_1, mxC_2, mxC_p, mxC_i, mx_i]
theorem xl_MO_isAsked_160 {b s : am_M} {K113 : Int32 → Int32 → Int32 → Int32 → Int32 → Int32} {x0 : Int32} {x1 : Int32} {x2 : Int32} {x3 : Int32} {x4 : Int32} {x5 : Int32} : f_MO_isAsked_160 K113 (mx b s) x0 x1 x2 x3 x4 x5 = f_MO_isAsked_160 K113 s x0 x1 x2 x3 x4 x5 := by
  unfold f_MO_isAsked_160
  rfl
theorem xl_MO_isAsked_155 {b s : am_M} {K113 : Int32 → Int32 → Int32 → Int32 → Int32 → Int32} {x0 : Int32} {x1 : Int32} {x2 : Int32} {x3 : Int32} {x4 : Int32} : f_MO_isAsked_155 K113 (mx b s) x0 x1 x2 x3 x4 = f_MO_isAsked_155 K113 s x0 x1 x2 x3 x4 := by
  unfold f_MO_isAsked_155
  simp only [xl_MO_isAsked_160, mxC_1, mxC_2, mxC_p, mxC_i, mx_i]
theorem xl_MO_isAsked_113 {b s : am_M}  : ∀ (n : Nat), f_MO_isAsked_113  n (mx b s) = f_MO_isAsked_113  n s := by
  intro n
  induction n with
  | zero => rfl
  | succ n ih =>
    funext x0 x1 x2 x3 x4
    unfold f_MO_isAsked_113
    simp only [ih, mr_243, mr_245, mr_252, xl_MO_isAsked_155, xl_MO_isAsked_160, mxC_1, mxC_2, mxC_p, mxC_i, mx_i]
theorem xl_MO_isAsked_110 {b s : am_M}  {x0 : Int32} {x1 : Int32} {x2 : Int32} {x3 : Int32} : f_MO_isAsked_110  (mx b s) x0 x1 x2 x3 = f_MO_isAsked_110  s x0 x1 x2 x3 := by
  unfold f_MO_isAsked_110
  simp only [xl_MO_isAsked_113, mxC_1, mxC_2, mxC_p, mxC_i, mx_i]
theorem xl_MO_isAsked_108 {b s : am_M}  {x0 : Int32} {x1 : Int32} {x2 : Int32} {x3 : Int32} {x4 : Int32} : f_MO_isAsked_108  (mx b s) x0 x1 x2 x3 x4 = f_MO_isAsked_108  s x0 x1 x2 x3 x4 := by
  unfold f_MO_isAsked_108
  simp only [xl_MO_isAsked_110, mxC_1, mxC_2, mxC_p, mxC_i, mx_i]
theorem xl_MO_isAsked_103 {b s : am_M}  {x0 : Int32} {x1 : Int32} {x2 : Int32} {x3 : Int32} : f_MO_isAsked_103  (mx b s) x0 x1 x2 x3 = f_MO_isAsked_103  s x0 x1 x2 x3 := by
  unfold f_MO_isAsked_103
  simp only [xl_MO_isAsked_108, mxC_1, mxC_2, mxC_p, mxC_i, mx_i]
theorem xl_MO_isAsked_107 {b s : am_M}  {x0 : Int32} {x1 : Int32} {x2 : Int32} {x3 : Int32} : f_MO_isAsked_107  (mx b s) x0 x1 x2 x3 = f_MO_isAsked_107  s x0 x1 x2 x3 := by
  unfold f_MO_isAsked_107
  simp only [xl_MO_isAsked_108, mxC_1, mxC_2, mxC_p, mxC_i, mx_i]

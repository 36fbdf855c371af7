theorem xl_MO_sumOf_84 {b s : am_M} {K9 : Int32 → Int32 → Int32 → Int32 → Int32 → Int32 → Int32 → Int32} {x0 : Int32} {x1 : Int32} {x2 : Int32} {x3 : Int32} {x4 : Int32} {x5 : Int32} {x6 : Int32} {x7 : Int32} : f_MO_sumOf_84 K9 (mx b s) x0 x1 x2 x3 x4 x5 x6 x7 = f_MO_sumOf_84 K9 s x0 x1 x2 x3 x4 x5 x6 x7 := by
  unfold f_MO_sumOf_84
  simp only [xl_MO_sumOf_85, mxC_1, mxC_2, mxC_p, mxC_i, mx_i]
theorem xl_MO_sumOf_9 {b s : am_M}  : ∀ (n : Nat), f_MO_sumOf_9  n (mx b s) = f_MO_sumOf_9  n s := by
  intro n
  induction n with
  | zero => rfl
  | succ n ih =>
    funext x0 x1 x2 x3 x4 x5 x6
    unfold f_MO_sumOf_9
    simp only [ih, mr_236, mr_240, mr_241, mr_248, mr_250, xl_MO_held, xl_MO_sumOf_80, xl_MO_sumOf_84, mxC_1, mxC_2, mxC_p, mxC_i, mx_i]
theorem xl_MO_sumOf {b s : am_M}  {x0 : Int32} {x1 : Int32} {x2 : Int32} {x3 : Int32} : f_MO_sumOf  (mx b s) x0 x1 x2 x3 = f_MO_sumOf  s x0 x1 x2 x3 := by
  unfold f_MO_sumOf
  simp only [xl_MO_sumOf_9, mxC_1, mxC_2, mxC_p, mxC_i, mx_i]
theorem xl_MO_laysGroup_149 {b : am_M} {K14 : am_M → Int32 → Int32 → Int32 → Int32 → Int32 → Int32 → Int32 → Int32 → am_M} (hK14 : ∀ (s : am_M) (a0 : Int32) (a1 : Int32) (a2 : Int32) (a3 : Int32) (a4 : Int32) (a5 : Int32) (a6 : Int32) (a7 : Int32), K14 (mx b s) a0 a1 a2 a3 a4 a5 a6 a7 = mx b (K14 s a0 a1 a2 a3 a4 a5 a6 a7)) (s : am_M) (x0 : Int32) (x1 : Int32) (x2 : Int32) (x3 : Int32) (x4 : Int32) (x5 : Int32) (x6 : Int32) (x7 : Int32) (x8 : Int32) (x9 : Int32) (x10 : Int32) (x11 : Int32)  : f_MO_laysGroup_149 K14 (mx b s) x0 x1 x2 x3 x4 x5 x6 x7 x8 x9 x10 x11 = mx b (f_MO_laysGroup_149 K14 s x0 x1 x2 x3 x4 x5 x6 x7 x8 x9 x10 x11) := by
  unfold f_MO_laysGroup_149
  simp only [hK14, mxC_1, mxC_2, mxC_p, mxC_i, mx_i]
theorem xl_MO_laysGroup_133 {b : am_M} {K14 : am_M → Int32 → Int32 → Int32 → Int32 → Int32 → Int32 → Int32 → Int32 → am_M} (hK14 : ∀ (s : am_M) (a0 : Int32) (a1 : Int32) (a2 : Int32) (a3 : Int32) (a4 : Int32) (a5 : Int32) (a6 : Int32) (a7 : Int32), K14 (mx b s) a0 a1 a2 a3 a4 a5 a6 a7 = mx b (K14 s a0 a1 a2 a3 a4 a5 a6 a7)) (s : am_M) (x0 : Int32) (x1 : Int32) (x2 : Int32) (x3 : Int32) (x4 : Int32) (x5 : Int32) (x6 : Int32) (x7 : Int32) (x8 : Int32) (x9 : Int32) (x10 : Int32) (x11 : Int32)  : f_MO_laysGroup_133 K14 (mx b s) x0 x1 x2 x3 x4 x5 x6 x7 x8 x9 x10 x11 = mx b (f_MO_laysGroup_133 K14 s x0 x1 x2 x3 x4 x5 x6 x7 x8 x9 x10 x11) := by
  unfold f_MO_laysGroup_133
  simp only [hK14, xl_MO_laysGroup_149 hK14, mxC_1, mxC_2, mxC_p, mxC_i, mx_i]
theorem xl_MO_laysGroup_126 {b : am_M} {K14 : am_M → Int32 → Int32 → Int32 → Int32 → Int32 → Int32 → Int32 → Int32 → am_M} (hK14 : ∀ (s : am_M) (a0 : Int32) (a1 : Int32) (a2 : Int32) (a3 : Int32) (a4 : Int32) (a5 : Int32) (a6 : Int32) (a7 : Int32), K14 (mx b s) a0 a1 a2 a3 a4 a5 a6 a7 = mx b (K14 s a0 a1 a2 a3 a4 a5 a6 a7)) (s : am_M) (x0 : Int32) (x1 : Int32) (x2 : Int32) (x3 : Int32) (x4 : Int32) (x5 : Int32) (x6 : Int32) (x7 : Int32) (x8 : Int32) (x9 : Int32) (x10 : Int32)  : f_MO_laysGroup_126 K14 (mx b s) x0 x1 x2 x3 x4 x5 x6 x7 x8 x9 x10 = mx b (f_MO_laysGroup_126 K14 s x0 x1 x2 x3 x4 x5 x6 x7 x8 x9 x10) := by
  unfold f_MO_laysGroup_126
  simp only [hK14, xl_MO_laysGroup_133 hK14, mxC_1, mxC_2, mxC_p, mxC_i, mx_i]
theorem xl_MO_laysGroup_131 {b : am_M} {K14 : am_M → Int32 → Int32 → Int32 → Int32 → Int32 → Int32 → Int32 → Int32 → am_M} (hK14 : ∀ (s : am_M) (a0 : Int32) (a1 : Int32) (a2 : Int32) (a3 : Int32) (a4 : Int32) (a5 : Int32) (a6 : Int32) (a7 : Int32), K14 (mx b s) a0 a1 a2 a3 a4 a5 a6 a7 = mx b (K14 s a0 a1 a2 a3 a4 a5 a6 a7)) (s : am_M) (x0 : Int32) (x1 : Int32) (x2 : Int32) (x3 : Int32) (x4 : Int32) (x5 : Int32) (x6 : Int32) (x7 : Int32) (x8 : Int32) (x9 : Int32) (x10 : Int32)  : f_MO_laysGroup_131 K14 (mx b s) x0 x1 x2 x3 x4 x5 x6 x7 x8 x9 x10 = mx b (f_MO_laysGroup_131 K14 s x0 x1 x2 x3 x4 x5 x6 x7 x8 x9 x10) := by
  unfold f_MO_laysGroup_131
  simp only [hK14, xl_MO_laysGroup_133 hK14, mxC_1, mxC_2, mxC_p, mxC_i, mx_i]
theorem xl_MO_laysGroup_102 {b : am_M} {K14 : am_M → Int32 → Int32 → Int32 → Int32 → Int32 → Int32 → Int32 → Int32 → am_M} (hK14 : ∀ (s : am_M) (a0 : Int32) (a1 : Int32) (a2 : Int32) (a3 : Int32) (a4 : Int32) (a5 : Int32) (a6 : Int32) (a7 : Int32), K14 (mx b s) a0 a1 a2 a3 a4 a5 a6 a7 = mx b (K14 s a0 a1 a2 a3 a4 a5 a6 a7)) (s : am_M) (x0 : Int32) (x1 : Int32) (x2 : Int32) (x3 : Int32) (x4 : Int32) (x5 : Int32) (x6 : Int32) (x7 : Int32) (x8 : Int32) (x9 : Int32) (x10 : Int32) (x11 : Int32) (x12 : Int32)  : f_MO_laysGroup_102 K14 (mx b s) x0 x1 x2 x3 x4 x5 x6 x7 x8 x9 x10 x11 x12 = mx b (f_MO_laysGroup_102 K14 s x0 x1 x2 x3 x4 x5 x6 x7 x8 x9 x10 x11 x12) := by
  unfold f_MO_laysGroup_102
  simp only [hK14, xl_MO_laysGroup_126 hK14, xl_MO_laysGroup_131 hK14, mxC_1, mxC_2, mxC_p, mxC_i, mx_i]
theorem xl_MO_laysGroup_88 {b : am_M} {K14 : am_M → Int32 → Int32 → Int32 → Int32 → Int32 → Int32 → Int32 → Int32 → am_M} (hK14 : ∀ (s : am_M) (a0 : Int32) (a1 : Int32) (a2 : Int32) (a3 : Int32) (a4 : Int32) (a5 : Int32) (a6 : Int32) (a7 : Int32), K14 (mx b s) a0 a1 a2 a3 a4 a5 a6 a7 = mx b (K14 s a0 a1 a2 a3 a4 a5 a6 a7)) (s : am_M) (x0 : Int32) (x1 : Int32) (x2 : Int32) (x3 : Int32) (x4 : Int32) (x5 : Int32) (x6 : Int32) (x7 : Int32) (x8 : Int32) (x9 : Int32) (x10 : Int32)  : f_MO_laysGroup_88 K14 (mx b s) x0 x1 x2 x3 x4 x5 x6 x7 x8 x9 x10 = mx b (f_MO_laysGroup_88 K14 s x0 x1 x2 x3 x4 x5 x6 x7 x8 x9 x10) := by
  unfold f_MO_laysGroup_88
  simp only [hK14, xl_MO_laysGroup_102 hK14, mxC_1, mxC_2, mxC_p, mxC_i, mx_i]
theorem xl_MO_laysGroup_62 {b : am_M} {K14 : am_M → Int32 → Int32 → Int32 → Int32 → Int32 → Int32 → Int32 → Int32 → am_M} (hK14 : ∀ (s : am_M) (a0 : Int32) (a1 : Int32) (a2 : Int32) (a3 : Int32) (a4 : Int32) (a5 : Int32) (a6 : Int32) (a7 : Int32), K14 (mx b s) a0 a1 a2 a3 a4 a5 a6 a7 = mx b (K14 s a0 a1 a2 a3 a4 a5 a6 a7)) (s : am_M) (x0 : Int32) (x1 : Int32) (x2 : Int32) (x3 : Int32) (x4 : Int32) (x5 : Int32) (x6 : Int32) (x7 : Int32) (x8 : Int32) (x9 : Int32)  : f_MO_laysGroup_62 K14 (mx b s) x0 x1 x2 x3 x4 x5 x6 x7 x8 x9 = mx b (f_MO_laysGroup_62 K14 s x0 x1 x2 x3 x4 x5 x6 x7 x8 x9) := by
  unfold f_MO_laysGroup_62
  simp only [hK14, mr_242, mr_250, xl_MO_laysGroup_88 hK14, mxC_1, mxC_2, mxC_p, mxC_i, mx_i]
theorem xl_MO_laysGroup_157 {b : am_M}  (s : am_M) (x0 : Int32) (x1 : Int32) (x2 : Int32) (x3 : Int32) (x4 : Int32) (x5 : Int32) (x6 : Int32) (x7 : Int32)  : f_MO_laysGroup_157  (mx b s) x0 x1 x2 x3 x4 x5 x6 x7 = mx b (f_MO_laysGroup_157  s x0 x1 x2 x3 x4 x5 x6 x7) := by
  unfold f_MO_laysGroup_157
  simp only [mr_250, ms_250, xl_MO_sumOf, mxC_1, mxC_2, mxC_p, mxC_i, mx_i]
theorem xl_MO_laysGroup_14 {b : am_M}  : ∀ (n : Nat) (s : am_M) (x0 : Int32) (x1 : Int32) (x2 : Int32) (x3 : Int32) (x4 : Int32) (x5 : Int32) (x6 : Int32) (x7 : Int32), f_MO_laysGroup_14  n (mx b s) x0 x1 x2 x3 x4 x5 x6 x7 = mx b (f_MO_laysGroup_14  n s x0 x1 x2 x3 x4 x5 x6 x7) := by
  intro n
  induction n with
  | zero => intro s x0 x1 x2 x3 x4 x5 x6 x7 ; rfl
  | succ n ih =>
    intro s x0 x1 x2 x3 x4 x5 x6 x7 
    unfold f_MO_laysGroup_14
    simp only [ih, mr_240, mr_248, mr_250, xl_MO_laysGroup_157, xl_MO_laysGroup_62 ih, mxC_1, mxC_2, mxC_p, mxC_i, mx_i]
theorem xl_MO_laysGroup {b : am_M}  (s : am_M) (x0 : Int32) (x1 : Int32) (x2 : Int32) (x3 : Int32)  : f_MO_laysGroup  (mx b s) x0 x1 x2 x3 = mx b (f_MO_laysGroup  s x0 x1 x2 x3) := by
  unfold f_MO_laysGroup
  simp only [xl_MO_laysGroup_14, mxC_1, mxC_2, mxC_p, mxC_i, mx_i]
theorem xl_MO_laysGroups_33 {b : am_M}  : ∀ (n : Nat) (s : am_M) (x0 : Int32) (x1 : Int32) (x2 : Int32), f_MO_laysGroups_33  n (mx b s) x0 x1 x2 = mx b (f_MO_laysGroups_33  n s x0 x1 x2) := by
  intro n
  induction n with
  | zero => intro s x0 x1 x2 ; rfl
  | succ n ih =>
    intro s x0 x1 x2 
    unfold f_MO_laysGroups_33
    simp only [ih, mr_207, mr_254, xl_MO_laysGroup, mxC_1, mxC_2, mxC_p, mxC_i, mx_i]
theorem xl_MO_laysGroups {b : am_M}  (s : am_M) (x0 : Int32)  : f_MO_laysGroups  (mx b s) x0 = mx b (f_MO_laysGroups  s x0) := by
  unfold f_MO_laysGroups
  simp only [mr_207, mr_237, mr_240, mr_248, ms_207, ms_237, ms_240, ms_248, xl_MO_laysGroups_33, xl_MO_laysKeys, xl_MO_slotOf, mxC_1, mxC_2, mxC_p, mxC_i, mx_i]
theorem xl_MO_laysCross_178 {b : am_M} {K89 : am_M → Int32 → Int32 → Int32 → am_M} (hK89 : ∀ (s : am_M) (a0 : Int32) (a1 : Int32) (a2 : Int32), K89 (mx b s) a0 a1 a2 = mx b (K89 s a0 a1 a2)) (s : am_M) (x0 : Int32) (x1 : Int32) (x2 : Int32) (x3 : Int32) (x4 : Int32)  : f_MO_laysCross_178 K89 (mx b s) x0 x1 x2 x3 x4 = mx b (f_MO_laysCross_178 K89 s x0 x1 x2 x3 x4) := by
  unfold f_MO_laysCross_178
  simp only [hK89, mxC_1, mxC_2, mxC_p, mxC_i, mx_i]
theorem xl_MO_laysCross_125 {b : am_M} {K89 : am_M → Int32 → Int32 → Int32 → am_M} (hK89 : ∀ (s : am_M) (a0 : Int32) (a1 : Int32) (a2 : Int32), K89 (mx b s) a0 a1 a2 = mx b (K89 s a0 a1 a2)) : ∀ (n : Nat) (s : am_M) (x0 : Int32) (x1 : Int32) (x2 : Int32) (x3 : Int32) (x4 : Int32), f_MO_laysCross_125 K89 n (mx b s) x0 x1 x2 x3 x4 = mx b (f_MO_laysCross_125 K89 n s x0 x1 x2 x3 x4) := by
  intro n
  induction n with
  | zero => intro s x0 x1 x2 x3 x4 ; rfl
  | succ n ih =>
    intro s x0 x1 x2 x3 x4 
    unfold f_MO_laysCross_125
    simp only [ih, hK89, mr_249, mr_250, mr_253, mr_254, ms_249, ms_250, ms_253, ms_254, xl_MO_laysCross_178 hK89, xl_MO_sumOf, mxC_1, mxC_2, mxC_p, mxC_i, mx_i]
theorem xl_MO_laysCross_89 {b : am_M}  : ∀ (n : Nat) (s : am_M) (x0 : Int32) (x1 : Int32) (x2 : Int32), f_MO_laysCross_89  n (mx b s) x0 x1 x2 = mx b (f_MO_laysCross_89  n s x0 x1 x2) := by
  intro n
  induction n with
  | zero => intro s x0 x1 x2 ; rfl
  | succ n ih =>
    intro s x0 x1 x2 
    unfold f_MO_laysCross_89
    simp only [ih, mr_207, mr_250, mr_254, ms_207, ms_250, ms_254, xl_MO_laysCross_125 ih, mxC_1, mxC_2, mxC_p, mxC_i, mx_i]
theorem xl_MO_laysCross_66 {b : am_M}  (s : am_M) (x0 : Int32) (x1 : Int32) (x2 : Int32)  : f_MO_laysCross_66  (mx b s) x0 x1 x2 = mx b (f_MO_laysCross_66  s x0 x1 x2) := by
  unfold f_MO_laysCross_66
  simp only [mr_207, mr_240, mr_248, ms_207, ms_240, ms_248, xl_MO_laysCross_89, xl_MO_laysKeys, mxC_1, mxC_2, mxC_p, mxC_i, mx_i]
theorem xl_MO_laysCross_35 {b : am_M}  : ∀ (n : Nat) (s : am_M) (x0 : Int32) (x1 : Int32) (x2 : Int32), f_MO_laysCross_35  n (mx b s) x0 x1 x2 = mx b (f_MO_laysCross_35  n s x0 x1 x2) := by
  intro n
  induction n with
  | zero => intro s x0 x1 x2 ; rfl
  | succ n ih =>
    intro s x0 x1 x2 
    unfold f_MO_laysCross_35
    simp only [ih, mr_207, mr_253, mr_254, ms_207, ms_253, ms_254, xl_MO_laysCross_66, mxC_1, mxC_2, mxC_p, mxC_i, mx_i]
theorem xl_MO_laysCross {b : am_M}  (s : am_M) (x0 : Int32)  : f_MO_laysCross  (mx b s) x0 = mx b (f_MO_laysCross  s x0) := by
  unfold f_MO_laysCross
  simp only [mr_207, mr_237, mr_241, mr_249, ms_207, ms_237, ms_241, ms_249, xl_MO_laysCross_35, xl_MO_laysKeys, xl_MO_slotOf, mxC_1, mxC_2, mxC_p, mxC_i, mx_i]
theorem xl_MO_lays_68 {b : am_M} {K23 : am_M → Int32 → Int32 → am_M} (hK23 : ∀ (s : am_M) (a0 : Int32) (a1 : Int32), K23 (mx b s) a0 a1 = mx b (K23 s a0 a1)) (s : am_M) (x0 : Int32) (x1 : Int32)  : f_MO_lays_68 K23 (mx b s) x0 x1 = mx b (f_MO_lays_68 K23 s x0 x1) := by
  unfold f_MO_lays_68
  simp only [hK23, mxC_1, mxC_2, mxC_p, mxC_i, mx_i]
theorem xl_MO_lays_23 {b : am_M}  : ∀ (n : Nat) (s : am_M) (x0 : Int32) (x1 : Int32), f_MO_lays_23  n (mx b s) x0 x1 = mx b (f_MO_lays_23  n s x0 x1) := by
  intro n
  induction n with
  | zero => intro s x0 x1 ; rfl
  | succ n ih =>
    intro s x0 x1 
    unfold f_MO_lays_23
    simp only [ih, mr_236, xl_MO_laysCross, xl_MO_laysGroups, xl_MO_laysPlain, xl_MO_lays_68 ih, mxC_1, mxC_2, mxC_p, mxC_i, mx_i]
theorem xl_MO_lays_21 {b : am_M}  (s : am_M) (x0 : Int32) (x1 : Int32)  : f_MO_lays_21  (mx b s) x0 x1 = mx b (f_MO_lays_21  s x0 x1) := by
  unfold f_MO_lays_21
  simp only [xl_MO_lays_23, mxC_1, mxC_2, mxC_p, mxC_i, mx_i]
theorem xl_MO_lays_2 {b : am_M}  : ∀ (n : Nat) (s : am_M) (x0 : Int32) (x1 : Int32), f_MO_lays_2  n (mx b s) x0 x1 = mx b (f_MO_lays_2  n s x0 x1) := by
  intro n
  induction n with
  | zero => intro s x0 x1 ; rfl
  | succ n ih =>
    intro s x0 x1 
    unfold f_MO_lays_2
    simp only [ih, mr_207, xl_MO_laysTable, xl_MO_lays_21, mxC_1, mxC_2, mxC_p, mxC_i, mx_i]
theorem xl_MO_lays {b : am_M}  (s : am_M) (x0 : Int32)  : f_MO_lays  (mx b s) x0 = mx b (f_MO_lays  s x0) := by
  unfold f_MO_lays
  simp only [xl_MO_lays_2, mxC_1, mxC_2, mxC_p, mxC_i, mx_i]
theorem xl_MO_isAnswer {b : am_M}  (s : am_M) (x0 : Int32) (x1 : Int32) (x2 : Int32)  : f_MO_isAnswer  (mx b s) x0 x1 x2 = mxC b (f_MO_isAnswer  s x0 x1 x2) := by
  unfold f_MO_isAnswer
  simp only [mr_248, mr_249, xl_MO_in, xl_MO_isQuestion, xl_MO_lays, mxC_1, mxC_2, mxC_p, mxC_i, mx_i]
theorem xl_MO_answer_16 {b : am_M}  (s : am_M) (x0 : Int32) (x1 : Int32) (x2 : Int32) (x3 : Int32)  : f_MO_answer_16  (mx b s) x0 x1 x2 x3 = mxC b (f_MO_answer_16  s x0 x1 x2 x3) := by
  unfold f_MO_answer_16
  simp only [mr_250, xl_MO_holds, mxC_1, mxC_2, mxC_p, mxC_i, mx_i]
theorem xl_MO_answer {b : am_M}  (s : am_M) (x0 : Int32) (x1 : Int32) (x2 : Int32)  : f_MO_answer  (mx b s) x0 x1 x2 = mxC b (f_MO_answer  s x0 x1 x2) := by
  unfold f_MO_answer
  simp only [xl_MO_answer_16, xl_MO_isAnswer, mxC_1, mxC_2, mxC_p, mxC_i, mx_i]
theorem xl_MO_answers_14 {b : am_M}  (s : am_M) (x0 : Int32) (x1 : Int32)  : f_MO_answers_14  (mx b s) x0 x1 = mxC b (f_MO_answers_14  s x0 x1) := by
  unfold f_MO_answers_14
  simp only [mr_248, xl_MO_holds, xl_MO_lays, mxC_1, mxC_2, mxC_p, mxC_i, mx_i]
theorem xl_MO_answers {b : am_M}  (s : am_M) (x0 : Int32)  : f_MO_answers  (mx b s) x0 = mxC b (f_MO_answers  s x0) := by
  unfold f_MO_answers
  simp only [xl_MO_answers_14, xl_MO_isQuestion, mxC_1, mxC_2, mxC_p, mxC_i, mx_i]
theorem xl_MO_isSource {b s : am_M}  {x0 : Int32} : f_MO_isSource  (mx b s) x0 = f_MO_isSource  s x0 := by
  unfold f_MO_isSource
  simp only [xl_MO_isQuestion, xl_MO_isTable, mxC_1, mxC_2, mxC_p, mxC_i, mx_i]
theorem xl_MO_hasColumn {b : am_M}  (s : am_M) (x0 : Int32) (x1 : Int32)  : f_MO_hasColumn  (mx b s) x0 x1 = mxC b (f_MO_hasColumn  s x0 x1) := by
  unfold f_MO_hasColumn
  simp only [mr_207, mr_249, xl_MO_in, xl_MO_isSource, xl_MO_lays, xl_MO_slotOf, mxC_1, mxC_2, mxC_p, mxC_i, mx_i]
theorem xl_MO_isCross {b s : am_M}  {x0 : Int32} : f_MO_isCross  (mx b s) x0 = f_MO_isCross  s x0 := by
  unfold f_MO_isCross
  simp only [mr_236, xl_MO_isQuestion, mxC_1, mxC_2, mxC_p, mxC_i, mx_i]
theorem xl_MO_isLinkOf {b s : am_M}  {x0 : Int32} {x1 : Int32} : f_MO_isLinkOf  (mx b s) x0 x1 = f_MO_isLinkOf  s x0 x1 := by
  unfold f_MO_isLinkOf
  simp only [mr_209, xl_MO_originOf, mxC_1, mxC_2, mxC_p, mxC_i, mx_i]
theorem xl_MO_makes_133 {b : am_M} {K87 : am_M → Int32 → Int32 → Int32 → Int32 × am_M} (hK87 : ∀ (s : am_M) (a0 : Int32) (a1 : Int32) (a2 : Int32), K87 (mx b s) a0 a1 a2 = mxC b (K87 s a0 a1 a2)) (s : am_M) (x0 : Int32) (x1 : Int32) (x2 : Int32) (x3 : Int32) (x4 : Int32)  : f_MO_makes_133 K87 (mx b s) x0 x1 x2 x3 x4 = mxC b (f_MO_makes_133 K87 s x0 x1 x2 x3 x4) := by
  unfold f_MO_makes_133
  simp only [hK87, mr_252, ms_252, mxC_1, mxC_2, mxC_p, mxC_i, mx_i]
theorem xl_MO_makes_132 {b : am_M} {K87 : am_M → Int32 → Int32 → Int32 → Int32 × am_M} (hK87 : ∀ (s : am_M) (a0 : Int32) (a1 : Int32) (a2 : Int32), K87 (mx b s) a0 a1 a2 = mxC b (K87 s a0 a1 a2)) (s : am_M) (x0 : Int32) (x1 : Int32) (x2 : Int32) (x3 : Int32)  : f_MO_makes_132 K87 (mx b s) x0 x1 x2 x3 = mxC b (f_MO_makes_132 K87 s x0 x1 x2 x3) := by
  unfold f_MO_makes_132
  simp only [hK87, xl_MO_makes_133 hK87, mxC_1, mxC_2, mxC_p, mxC_i, mx_i]
theorem xl_MO_makes_140 {b : am_M}  (s : am_M) (x0 : Int32) (x1 : Int32) (x2 : Int32)  : f_MO_makes_140  (mx b s) x0 x1 x2 = mxC b (f_MO_makes_140  s x0 x1 x2) := by
  unfold f_MO_makes_140
  simp only [mr_207, ms_207, mxC_1, mxC_2, mxC_p, mxC_i, mx_i]
theorem xl_MO_makes_87 {b : am_M}  : ∀ (n : Nat) (s : am_M) (x0 : Int32) (x1 : Int32) (x2 : Int32), f_MO_makes_87  n (mx b s) x0 x1 x2 = mxC b (f_MO_makes_87  n s x0 x1 x2) := by
  intro n
  induction n with
  | zero => intro s x0 x1 x2 ; rfl
  | succ n ih =>
    intro s x0 x1 x2 
    unfold f_MO_makes_87
    simp only [ih, mr_207, mr_238, xl_MO_makes_132 ih, xl_MO_makes_133 ih, xl_MO_makes_140, xl_MO_originOf, mxC_1, mxC_2, mxC_p, mxC_i, mx_i]
theorem xl_MO_makes_84 {b : am_M}  (s : am_M) (x0 : Int32) (x1 : Int32) (x2 : Int32) (x3 : Int32)  : f_MO_makes_84  (mx b s) x0 x1 x2 x3 = mxC b (f_MO_makes_84  s x0 x1 x2 x3) := by
  unfold f_MO_makes_84
  simp only [mr_249, ms_249, xl_MO_makes_87, mxC_1, mxC_2, mxC_p, mxC_i, mx_i]
theorem xl_MO_makes {b : am_M}  (s : am_M) (x0 : Int32) (x1 : Int32)  : f_MO_makes  (mx b s) x0 x1 = mxC b (f_MO_makes  s x0 x1) := by
  unfold f_MO_makes
  simp only [mr_207, mr_236, mr_237, mr_238, mr_239, mr_243, mr_249, ms_207, ms_236, ms_237, ms_238, ms_239, ms_243, ms_249, xl_MO_makes_84, xl_MO_slotOf, mxC_1, mxC_2, mxC_p, mxC_i, mx_i]
theorem xl_MO_joins_23 {b : am_M}  : ∀ (n : Nat) (s : am_M) (x0 : Int32) (x1 : Int32) (x2 : Int32) (x3 : Int32) (x4 : Int32), f_MO_joins_23  n (mx b s) x0 x1 x2 x3 x4 = mx b (f_MO_joins_23  n s x0 x1 x2 x3 x4) := by
  intro n
  induction n with
  | zero => intro s x0 x1 x2 x3 x4 ; rfl
  | succ n ih =>
    intro s x0 x1 x2 x3 x4 
    unfold f_MO_joins_23
    simp only [ih, mr_208, mr_249, mr_252, ms_208, ms_249, ms_252, mxC_1, mxC_2, mxC_p, mxC_i, mx_i]
theorem xl_MO_joins {b : am_M}  (s : am_M) (x0 : Int32) (x1 : Int32) (x2 : Int32)  : f_MO_joins  (mx b s) x0 x1 x2 = mx b (f_MO_joins  s x0 x1 x2) := by
  unfold f_MO_joins
  simp only [mr_212, mr_239, ms_212, ms_239, xl_MO_joins_23, xl_MO_originOf, mxC_1, mxC_2, mxC_p, mxC_i, mx_i]
theorem xl_MO_ask_93 {b : am_M}  (s : am_M) (x0 : Int32) (x1 : Int32) (x2 : Int32) (x3 : Int32) (x4 : Int32)  : f_MO_ask_93  (mx b s) x0 x1 x2 x3 x4 = mxC b (f_MO_ask_93  s x0 x1 x2 x3 x4) := by
  unfold f_MO_ask_93
  simp only [mr_207, xl_MO_holds, xl_MO_joins, xl_MO_lays, xl_MO_makes, mxC_1, mxC_2, mxC_p, mxC_i, mx_i]
theorem xl_MO_ask_59 {b : am_M}  (s : am_M) (x0 : Int32) (x1 : Int32) (x2 : Int32) (x3 : Int32)  : f_MO_ask_59  (mx b s) x0 x1 x2 x3 = mxC b (f_MO_ask_59  s x0 x1 x2 x3) := by
  unfold f_MO_ask_59
  simp only [mr_207, xl_MO_ask_93, mxC_1, mxC_2, mxC_p, mxC_i, mx_i]
theorem xl_MO_ask_54 {b : am_M}  (s : am_M) (x0 : Int32) (x1 : Int32) (x2 : Int32)  : f_MO_ask_54  (mx b s) x0 x1 x2 = mxC b (f_MO_ask_54  s x0 x1 x2) := by
  unfold f_MO_ask_54
  simp only [xl_MO_ask_59, mxC_1, mxC_2, mxC_p, mxC_i, mx_i]
theorem xl_MO_ask_58 {b : am_M}  (s : am_M) (x0 : Int32) (x1 : Int32) (x2 : Int32)  : f_MO_ask_58  (mx b s) x0 x1 x2 = mxC b (f_MO_ask_58  s x0 x1 x2) := by
  unfold f_MO_ask_58
  simp only [xl_MO_ask_59, mxC_1, mxC_2, mxC_p, mxC_i, mx_i]
theorem xl_MO_ask_27 {b : am_M}  (s : am_M) (x0 : Int32) (x1 : Int32) (x2 : Int32)  : f_MO_ask_27  (mx b s) x0 x1 x2 = mxC b (f_MO_ask_27  s x0 x1 x2) := by
  unfold f_MO_ask_27
  simp only [xl_MO_ask_54, xl_MO_ask_58, xl_MO_isCross, xl_MO_isLinkOf, mxC_1, mxC_2, mxC_p, mxC_i, mx_i]
theorem xl_MO_ask_22 {b : am_M}  (s : am_M) (x0 : Int32) (x1 : Int32)  : f_MO_ask_22  (mx b s) x0 x1 = mxC b (f_MO_ask_22  s x0 x1) := by
  unfold f_MO_ask_22
  simp only [xl_MO_ask_27, mxC_1, mxC_2, mxC_p, mxC_i, mx_i]
theorem xl_MO_ask_26 {b : am_M}  (s : am_M) (x0 : Int32) (x1 : Int32)  : f_MO_ask_26  (mx b s) x0 x1 = mxC b (f_MO_ask_26  s x0 x1) := by
  unfold f_MO_ask_26
  simp only [xl_MO_ask_27, mxC_1, mxC_2, mxC_p, mxC_i, mx_i]
theorem xl_MO_ask {b : am_M}  (s : am_M) (x0 : Int32) (x1 : Int32)  : f_MO_ask  (mx b s) x0 x1 = mxC b (f_MO_ask  s x0 x1) := by
  unfold f_MO_ask
  simp only [xl_MO_ask_22, xl_MO_ask_26, xl_MO_hasColumn, xl_MO_isSource, mxC_1, mxC_2, mxC_p, mxC_i, mx_i]
theorem xl_MO_errorOfKeys_33 {b : am_M}  (s : am_M) (x0 : Int32) (x1 : Int32) (x2 : Int32) (x3 : Int32) (x4 : Int32)  : f_MO_errorOfKeys_33  (mx b s) x0 x1 x2 x3 x4 = mxC b (f_MO_errorOfKeys_33  s x0 x1 x2 x3 x4) := by
  unfold f_MO_errorOfKeys_33
  simp only [mr_207, xl_MO_isCross, mxC_1, mxC_2, mxC_p, mxC_i, mx_i]
theorem xl_MO_errorOfKeys_32 {b : am_M}  (s : am_M) (x0 : Int32) (x1 : Int32) (x2 : Int32) (x3 : Int32)  : f_MO_errorOfKeys_32  (mx b s) x0 x1 x2 x3 = mxC b (f_MO_errorOfKeys_32  s x0 x1 x2 x3) := by
  unfold f_MO_errorOfKeys_32
  simp only [xl_MO_errorOfKeys_33, mxC_1, mxC_2, mxC_p, mxC_i, mx_i]
theorem xl_MO_errorOfKeys {b : am_M}  (s : am_M) (x0 : Int32) (x1 : Int32) (x2 : Int32) (x3 : Int32)  : f_MO_errorOfKeys  (mx b s) x0 x1 x2 x3 = mxC b (f_MO_errorOfKeys  s x0 x1 x2 x3) := by
  unfold f_MO_errorOfKeys
  simp only [xl_MO_errorOfKeys_32, xl_MO_errorOfKeys_33, xl_MO_hasColumn, mxC_1, mxC_2, mxC_p, mxC_i, mx_i]
theorem xl_MO_asks {b : am_M}  (s : am_M) (x0 : Int32) (x1 : Int32) (x2 : Int32) (x3 : Int32) (x4 : Int32)  : f_MO_asks  (mx b s) x0 x1 x2 x3 x4 = mxC b (f_MO_asks  s x0 x1 x2 x3 x4) := by
  unfold f_MO_asks
  simp only [mr_240, mr_241, mr_242, ms_240, ms_241, ms_242, xl_MO_errorOfKeys, xl_MO_holds, xl_MO_makes, mxC_1, mxC_2, mxC_p, mxC_i, mx_i]
theorem xl_MO_askCross {b : am_M}  (s : am_M) (x0 : Int32) (x1 : Int32) (x2 : Int32) (x3 : Int32)  : f_MO_askCross  (mx b s) x0 x1 x2 x3 = mxC b (f_MO_askCross  s x0 x1 x2 x3) := by
  unfold f_MO_askCross
  simp only [xl_MO_asks, mxC_1, mxC_2, mxC_p, mxC_i, mx_i]
theorem xl_MO_askGroups {b : am_M}  (s : am_M) (x0 : Int32) (x1 : Int32) (x2 : Int32)  : f_MO_askGroups  (mx b s) x0 x1 x2 = mxC b (f_MO_askGroups  s x0 x1 x2) := by
  unfold f_MO_askGroups
  simp only [xl_MO_asks, mxC_1, mxC_2, mxC_p, mxC_i, mx_i]
theorem xl_MO_beyond_114 {b : am_M} {K6 : am_M → Int32 → Int32 → Int32 → Int32 → Int32 → Int32 → Int32 → Int32 × am_M} (hK6 : ∀ (s : am_M) (a0 : Int32) (a1 : Int32) (a2 : Int32) (a3 : Int32) (a4 : Int32) (a5 : Int32) (a6 : Int32), K6 (mx b s) a0 a1 a2 a3 a4 a5 a6 = mxC b (K6 s a0 a1 a2 a3 a4 a5 a6)) (s : am_M) (x0 : Int32) (x1 : Int32) (x2 : Int32) (x3 : Int32) (x4 : Int32) (x5 : Int32) (x6 : Int32) (x7 : Int32) (x8 : Int32) (x9 : Int32) (x10 : Int32)  : f_MO_beyond_114 K6 (mx b s) x0 x1 x2 x3 x4 x5 x6 x7 x8 x9 x10 = mxC b (f_MO_beyond_114 K6 s x0 x1 x2 x3 x4 x5 x6 x7 x8 x9 x10) := by
  unfold f_MO_beyond_114
  simp only [hK6, mr_230, ms_230, mxC_1, mxC_2, mxC_p, mxC_i, mx_i]
theorem xl_MO_beyond_112 {b : am_M} {K6 : am_M → Int32 → Int32 → Int32 → Int32 → Int32 → Int32 → Int32 → Int32 × am_M} (hK6 : ∀ (s : am_M) (a0 : Int32) (a1 : Int32) (a2 : Int32) (a3 : Int32) (a4 : Int32) (a5 : Int32) (a6 : Int32), K6 (mx b s) a0 a1 a2 a3 a4 a5 a6 = mxC b (K6 s a0 a1 a2 a3 a4 a5 a6)) (s : am_M) (x0 : Int32) (x1 : Int32) (x2 : Int32) (x3 : Int32) (x4 : Int32) (x5 : Int32) (x6 : Int32) (x7 : Int32) (x8 : Int32) (x9 : Int32)  : f_MO_beyond_112 K6 (mx b s) x0 x1 x2 x3 x4 x5 x6 x7 x8 x9 = mxC b (f_MO_beyond_112 K6 s x0 x1 x2 x3 x4 x5 x6 x7 x8 x9) := by
  unfold f_MO_beyond_112
  simp only [hK6, xl_MO_beyond_114 hK6, mxC_1, mxC_2, mxC_p, mxC_i, mx_i]
theorem xl_MO_beyond_83 {b : am_M} {K6 : am_M → Int32 → Int32 → Int32 → Int32 → Int32 → Int32 → Int32 → Int32 × am_M} (hK6 : ∀ (s : am_M) (a0 : Int32) (a1 : Int32) (a2 : Int32) (a3 : Int32) (a4 : Int32) (a5 : Int32) (a6 : Int32), K6 (mx b s) a0 a1 a2 a3 a4 a5 a6 = mxC b (K6 s a0 a1 a2 a3 a4 a5 a6)) (s : am_M) (x0 : Int32) (x1 : Int32) (x2 : Int32) (x3 : Int32) (x4 : Int32) (x5 : Int32) (x6 : Int32) (x7 : Int32) (x8 : Int32) (x9 : Int32) (x10 : Int32)  : f_MO_beyond_83 K6 (mx b s) x0 x1 x2 x3 x4 x5 x6 x7 x8 x9 x10 = mxC b (f_MO_beyond_83 K6 s x0 x1 x2 x3 x4 x5 x6 x7 x8 x9 x10) := by
  unfold f_MO_beyond_83
  simp only [hK6, xl_MO_at, xl_MO_beyond_112 hK6, xl_MO_beyond_114 hK6, mxC_1, mxC_2, mxC_p, mxC_i, mx_i]
theorem xl_MO_beyond_69 {b : am_M} {K6 : am_M → Int32 → Int32 → Int32 → Int32 → Int32 → Int32 → Int32 → Int32 × am_M} (hK6 : ∀ (s : am_M) (a0 : Int32) (a1 : Int32) (a2 : Int32) (a3 : Int32) (a4 : Int32) (a5 : Int32) (a6 : Int32), K6 (mx b s) a0 a1 a2 a3 a4 a5 a6 = mxC b (K6 s a0 a1 a2 a3 a4 a5 a6)) (s : am_M) (x0 : Int32) (x1 : Int32) (x2 : Int32) (x3 : Int32) (x4 : Int32) (x5 : Int32) (x6 : Int32) (x7 : Int32) (x8 : Int32)  : f_MO_beyond_69 K6 (mx b s) x0 x1 x2 x3 x4 x5 x6 x7 x8 = mxC b (f_MO_beyond_69 K6 s x0 x1 x2 x3 x4 x5 x6 x7 x8) := by
  unfold f_MO_beyond_69
  simp only [hK6, xl_MO_beyond_83 hK6, mxC_1, mxC_2, mxC_p, mxC_i, mx_i]
theorem xl_MO_beyond_68 {b : am_M} {K6 : am_M → Int32 → Int32 → Int32 → Int32 → Int32 → Int32 → Int32 → Int32 × am_M} (hK6 : ∀ (s : am_M) (a0 : Int32) (a1 : Int32) (a2 : Int32) (a3 : Int32) (a4 : Int32) (a5 : Int32) (a6 : Int32), K6 (mx b s) a0 a1 a2 a3 a4 a5 a6 = mxC b (K6 s a0 a1 a2 a3 a4 a5 a6)) (s : am_M) (x0 : Int32) (x1 : Int32) (x2 : Int32) (x3 : Int32) (x4 : Int32) (x5 : Int32) (x6 : Int32) (x7 : Int32)  : f_MO_beyond_68 K6 (mx b s) x0 x1 x2 x3 x4 x5 x6 x7 = mxC b (f_MO_beyond_68 K6 s x0 x1 x2 x3 x4 x5 x6 x7) := by
  unfold f_MO_beyond_68
  simp only [hK6, xl_MO_beyond_69 hK6, mxC_1, mxC_2, mxC_p, mxC_i, mx_i]
theorem xl_MO_beyond_6 {b : am_M}  : ∀ (n : Nat) (s : am_M) (x0 : Int32) (x1 : Int32) (x2 : Int32) (x3 : Int32) (x4 : Int32) (x5 : Int32) (x6 : Int32), f_MO_beyond_6  n (mx b s) x0 x1 x2 x3 x4 x5 x6 = mxC b (f_MO_beyond_6  n s x0 x1 x2 x3 x4 x5 x6) := by
  intro n
  induction n with
  | zero => intro s x0 x1 x2 x3 x4 x5 x6 ; rfl
  | succ n ih =>
    intro s x0 x1 x2 x3 x4 x5 x6 
    unfold f_MO_beyond_6
    simp only [ih, mr_228, mr_229, mr_230, xl_MO_at, xl_MO_beyond_68 ih, xl_MO_beyond_69 ih, xl_MO_in, mxC_1, mxC_2, mxC_p, mxC_i, mx_i]
theorem xl_MO_beyond {b : am_M}  (s : am_M) (x0 : Int32) (x1 : Int32) (x2 : Int32) (x3 : Int32) (x4 : Int32)  : f_MO_beyond  (mx b s) x0 x1 x2 x3 x4 = mxC b (f_MO_beyond  s x0 x1 x2 x3 x4) := by
  unfold f_MO_beyond
  simp only [xl_MO_beyond_6, mxC_1, mxC_2, mxC_p, mxC_i, mx_i]
theorem xl_MO_broken {b : am_M}  (s : am_M)   : f_MO_broken  (mx b s)  = mxC b (f_MO_broken  s ) := by
  unfold f_MO_broken
  simp only [mr_207, ms_207, xl_MO_allBroken, mxC_1, mxC_2, mxC_p, mxC_i, mx_i]
theorem xl_MO_cell_24 {b : am_M}  (s : am_M) (x0 : Int32) (x1 : Int32) (x2 : Int32) (x3 : Int32)  : f_MO_cell_24  (mx b s) x0 x1 x2 x3 = mxC b (f_MO_cell_24  s x0 x1 x2 x3) := by
  unfold f_MO_cell_24
  simp only [mr_230, xl_MO_at, xl_MO_holds, mxC_1, mxC_2, mxC_p, mxC_i, mx_i]
theorem xl_MO_cell_23 {b : am_M}  (s : am_M) (x0 : Int32) (x1 : Int32) (x2 : Int32)  : f_MO_cell_23  (mx b s) x0 x1 x2 = mxC b (f_MO_cell_23  s x0 x1 x2) := by
  unfold f_MO_cell_23
  simp only [xl_MO_cell_24, mxC_1, mxC_2, mxC_p, mxC_i, mx_i]
theorem xl_MO_cell {b : am_M}  (s : am_M) (x0 : Int32) (x1 : Int32) (x2 : Int32)  : f_MO_cell  (mx b s) x0 x1 x2 = mxC b (f_MO_cell  s x0 x1 x2) := by
  unfold f_MO_cell
  simp only [xl_MO_cell_23, xl_MO_cell_24, xl_MO_isColumn, xl_MO_isRow, mxC_1, mxC_2, mxC_p, mxC_i, mx_i]
theorem xl_MO_couldPut {b : am_M}  (s : am_M) (x0 : Int32) (x1 : Int32) (x2 : Int32) (x3 : Int32)  : f_MO_couldPut  (mx b s) x0 x1 x2 x3 = mxC b (f_MO_couldPut  s x0 x1 x2 x3) := by
  unfold f_MO_couldPut
  simp only [mr_230, ms_230, xl_MO_at, xl_MO_isWhole, xl_MO_restores, xl_MO_saves, mxC_1, mxC_2, mxC_p, mxC_i, mx_i]
theorem xl_MO_choice_139 {b : am_M} {K104 : am_M → Int32 → Int32 → Int32 → Int32 → Int32 → Int32 → Int32 → Int32 → Int32 → Int32 → Int32 → Int32 × am_M} (hK104 : ∀ (s : am_M) (a0 : Int32) (a1 : Int32) (a2 : Int32) (a3 : Int32) (a4 : Int32) (a5 : Int32) (a6 : Int32) (a7 : Int32) (a8 : Int32) (a9 : Int32) (a10 : Int32), K104 (mx b s) a0 a1 a2 a3 a4 a5 a6 a7 a8 a9 a10 = mxC b (K104 s a0 a1 a2 a3 a4 a5 a6 a7 a8 a9 a10)) (s : am_M) (x0 : Int32) (x1 : Int32) (x2 : Int32) (x3 : Int32) (x4 : Int32) (x5 : Int32) (x6 : Int32) (x7 : Int32) (x8 : Int32) (x9 : Int32) (x10 : Int32)  : f_MO_choice_139 K104 (mx b s) x0 x1 x2 x3 x4 x5 x6 x7 x8 x9 x10 = mxC b (f_MO_choice_139 K104 s x0 x1 x2 x3 x4 x5 x6 x7 x8 x9 x10) := by
  unfold f_MO_choice_139
  simp only [hK104, mxC_1, mxC_2, mxC_p, mxC_i, mx_i]

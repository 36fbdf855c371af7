theorem xl_MO_isAsked_37 {b s : am_M}  {x0 : Int32} {x1 : Int32} {x2 : Int32} {x3 : Int32} : f_MO_isAsked_37  (mx b s) x0 x1 x2 x3 = f_MO_isAsked_37  s x0 x1 x2 x3 := by
  unfold f_MO_isAsked_37
  simp only [mr_236, mr_240, mr_241, mr_242, xl_MO_isAsked_103, xl_MO_isAsked_107, xl_MO_isAsked_110, xl_MO_originOf, mxC_1, mxC_2, mxC_p, mxC_i, mx_i]
theorem xl_MO_isAsked_36 {b s : am_M}  {x0 : Int32} {x1 : Int32} {x2 : Int32} : f_MO_isAsked_36  (mx b s) x0 x1 x2 = f_MO_isAsked_36  s x0 x1 x2 := by
  unfold f_MO_isAsked_36
  simp only [xl_MO_isAsked_37, mxC_1, mxC_2, mxC_p, mxC_i, mx_i]
theorem xl_MO_isAsked {b s : am_M}  {x0 : Int32} {x1 : Int32} : f_MO_isAsked  (mx b s) x0 x1 = f_MO_isAsked  s x0 x1 := by
  unfold f_MO_isAsked
  simp only [mr_237, mr_239, xl_MO_isAsked_36, xl_MO_isAsked_37, xl_MO_originOf, mxC_1, mxC_2, mxC_p, mxC_i, mx_i]
theorem xl_MO_isUsed_61 {b s : am_M} {K13 : Int32 → Int32 → Int32 → Int32 → Int32 → Int32} {x0 : Int32} {x1 : Int32} {x2 : Int32} {x3 : Int32} {x4 : Int32} {x5 : Int32} : f_MO_isUsed_61 K13 (mx b s) x0 x1 x2 x3 x4 x5 = f_MO_isUsed_61 K13 s x0 x1 x2 x3 x4 x5 := by
  unfold f_MO_isUsed_61
  rfl
theorem xl_MO_isUsed_56 {b s : am_M} {K13 : Int32 → Int32 → Int32 → Int32 → Int32 → Int32} {x0 : Int32} {x1 : Int32} {x2 : Int32} {x3 : Int32} {x4 : Int32} : f_MO_isUsed_56 K13 (mx b s) x0 x1 x2 x3 x4 = f_MO_isUsed_56 K13 s x0 x1 x2 x3 x4 := by
  unfold f_MO_isUsed_56
  simp only [xl_MO_isUsed_61, mxC_1, mxC_2, mxC_p, mxC_i, mx_i]
theorem xl_MO_isUsed_60 {b s : am_M} {K13 : Int32 → Int32 → Int32 → Int32 → Int32 → Int32} {x0 : Int32} {x1 : Int32} {x2 : Int32} {x3 : Int32} {x4 : Int32} : f_MO_isUsed_60 K13 (mx b s) x0 x1 x2 x3 x4 = f_MO_isUsed_60 K13 s x0 x1 x2 x3 x4 := by
  unfold f_MO_isUsed_60
  simp only [xl_MO_isUsed_61, mxC_1, mxC_2, mxC_p, mxC_i, mx_i]
theorem xl_MO_isUsed_134 {b s : am_M} {K72 : Int32 → Int32 → Int32 → Int32 → Int32 → Int32} {x0 : Int32} {x1 : Int32} {x2 : Int32} {x3 : Int32} {x4 : Int32} {x5 : Int32} : f_MO_isUsed_134 K72 (mx b s) x0 x1 x2 x3 x4 x5 = f_MO_isUsed_134 K72 s x0 x1 x2 x3 x4 x5 := by
  unfold f_MO_isUsed_134
  rfl
theorem xl_MO_isUsed_129 {b s : am_M} {K72 : Int32 → Int32 → Int32 → Int32 → Int32 → Int32} {x0 : Int32} {x1 : Int32} {x2 : Int32} {x3 : Int32} {x4 : Int32} : f_MO_isUsed_129 K72 (mx b s) x0 x1 x2 x3 x4 = f_MO_isUsed_129 K72 s x0 x1 x2 x3 x4 := by
  unfold f_MO_isUsed_129
  simp only [xl_MO_isUsed_134, mxC_1, mxC_2, mxC_p, mxC_i, mx_i]
theorem xl_MO_isUsed_133 {b s : am_M} {K72 : Int32 → Int32 → Int32 → Int32 → Int32 → Int32} {x0 : Int32} {x1 : Int32} {x2 : Int32} {x3 : Int32} {x4 : Int32} : f_MO_isUsed_133 K72 (mx b s) x0 x1 x2 x3 x4 = f_MO_isUsed_133 K72 s x0 x1 x2 x3 x4 := by
  unfold f_MO_isUsed_133
  simp only [xl_MO_isUsed_134, mxC_1, mxC_2, mxC_p, mxC_i, mx_i]
theorem xl_MO_isUsed_174 {b s : am_M} {K145 : Int32 → Int32 → Int32 → Int32 → Int32 → Int32} {x0 : Int32} {x1 : Int32} {x2 : Int32} {x3 : Int32} {x4 : Int32} {x5 : Int32} : f_MO_isUsed_174 K145 (mx b s) x0 x1 x2 x3 x4 x5 = f_MO_isUsed_174 K145 s x0 x1 x2 x3 x4 x5 := by
  unfold f_MO_isUsed_174
  rfl
theorem xl_MO_isUsed_169 {b s : am_M} {K145 : Int32 → Int32 → Int32 → Int32 → Int32 → Int32} {x0 : Int32} {x1 : Int32} {x2 : Int32} {x3 : Int32} {x4 : Int32} : f_MO_isUsed_169 K145 (mx b s) x0 x1 x2 x3 x4 = f_MO_isUsed_169 K145 s x0 x1 x2 x3 x4 := by
  unfold f_MO_isUsed_169
  simp only [xl_MO_isUsed_174, mxC_1, mxC_2, mxC_p, mxC_i, mx_i]
theorem xl_MO_isUsed_145 {b s : am_M}  : ∀ (n : Nat), f_MO_isUsed_145  n (mx b s) = f_MO_isUsed_145  n s := by
  intro n
  induction n with
  | zero => rfl
  | succ n ih =>
    funext x0 x1 x2 x3 x4
    unfold f_MO_isUsed_145
    simp only [ih, mr_207, xl_MO_isAsked, xl_MO_isUsed_169, xl_MO_isUsed_174, mxC_1, mxC_2, mxC_p, mxC_i, mx_i]
theorem xl_MO_isUsed_142 {b s : am_M}  {x0 : Int32} {x1 : Int32} {x2 : Int32} {x3 : Int32} {x4 : Int32} : f_MO_isUsed_142  (mx b s) x0 x1 x2 x3 x4 = f_MO_isUsed_142  s x0 x1 x2 x3 x4 := by
  unfold f_MO_isUsed_142
  simp only [xl_MO_isUsed_145, mxC_1, mxC_2, mxC_p, mxC_i, mx_i]
theorem xl_MO_isUsed_72 {b s : am_M}  : ∀ (n : Nat), f_MO_isUsed_72  n (mx b s) = f_MO_isUsed_72  n s := by
  intro n
  induction n with
  | zero => rfl
  | succ n ih =>
    funext x0 x1 x2 x3 x4
    unfold f_MO_isUsed_72
    simp only [ih, mr_207, mr_222, mr_223, mr_225, mr_227, xl_MO_isUsed_129, xl_MO_isUsed_133, xl_MO_isUsed_142, mxC_1, mxC_2, mxC_p, mxC_i, mx_i]
theorem xl_MO_isUsed_69 {b s : am_M}  {x0 : Int32} {x1 : Int32} {x2 : Int32} {x3 : Int32} {x4 : Int32} : f_MO_isUsed_69  (mx b s) x0 x1 x2 x3 x4 = f_MO_isUsed_69  s x0 x1 x2 x3 x4 := by
  unfold f_MO_isUsed_69
  simp only [xl_MO_isUsed_72, mxC_1, mxC_2, mxC_p, mxC_i, mx_i]
theorem xl_MO_isUsed_13 {b s : am_M}  : ∀ (n : Nat), f_MO_isUsed_13  n (mx b s) = f_MO_isUsed_13  n s := by
  intro n
  induction n with
  | zero => rfl
  | succ n ih =>
    funext x0 x1 x2 x3 x4
    unfold f_MO_isUsed_13
    simp only [ih, mr_209, xl_MO_firstUsed, xl_MO_isUsed_56, xl_MO_isUsed_60, xl_MO_isUsed_69, xl_MO_secondUsed, mxC_1, mxC_2, mxC_p, mxC_i, mx_i]
theorem xl_MO_isUsed {b s : am_M}  {x0 : Int32} {x1 : Int32} : f_MO_isUsed  (mx b s) x0 x1 = f_MO_isUsed  s x0 x1 := by
  unfold f_MO_isUsed
  simp only [xl_MO_isUsed_13, mxC_1, mxC_2, mxC_p, mxC_i, mx_i]
theorem xl_MO_drop_116 {b : am_M}  (s : am_M) (x0 : Int32) (x1 : Int32) (x2 : Int32) (x3 : Int32)  : f_MO_drop_116  (mx b s) x0 x1 x2 x3 = mxC b (f_MO_drop_116  s x0 x1 x2 x3) := by
  unfold f_MO_drop_116
  simp only [xl_MO_isChanged, xl_MO_told, mxC_1, mxC_2, mxC_p, mxC_i, mx_i]
theorem xl_MO_drop_89 {b : am_M}  : ∀ (n : Nat) (s : am_M) (x0 : Int32) (x1 : Int32) (x2 : Int32) (x3 : Int32), f_MO_drop_89  n (mx b s) x0 x1 x2 x3 = mxC b (f_MO_drop_89  n s x0 x1 x2 x3) := by
  intro n
  induction n with
  | zero => intro s x0 x1 x2 x3 ; rfl
  | succ n ih =>
    intro s x0 x1 x2 x3 
    unfold f_MO_drop_89
    simp only [ih, mr_230, ms_230, xl_MO_at, xl_MO_drop_116, mxC_1, mxC_2, mxC_p, mxC_i, mx_i]
theorem xl_MO_drop_29 {b : am_M}  (s : am_M) (x0 : Int32) (x1 : Int32) (x2 : Int32)  : f_MO_drop_29  (mx b s) x0 x1 x2 = mxC b (f_MO_drop_29  s x0 x1 x2) := by
  unfold f_MO_drop_29
  simp only [mr_209, mr_218, mr_219, ms_209, ms_218, ms_219, xl_MO_drop_89, xl_MO_holds, xl_MO_isUsed, xl_MO_told, mxC_1, mxC_2, mxC_p, mxC_i, mx_i]
theorem xl_MO_drop {b : am_M}  (s : am_M) (x0 : Int32) (x1 : Int32)  : f_MO_drop  (mx b s) x0 x1 = mxC b (f_MO_drop  s x0 x1) := by
  unfold f_MO_drop
  simp only [xl_MO_drop_29, xl_MO_isColumn, xl_MO_kindOf, mxC_1, mxC_2, mxC_p, mxC_i, mx_i]
theorem xl_MO_dropRule_29 {b : am_M}  (s : am_M) (x0 : Int32) (x1 : Int32)  : f_MO_dropRule_29  (mx b s) x0 x1 = mx b (f_MO_dropRule_29  s x0 x1) := by
  unfold f_MO_dropRule_29
  simp only [mr_207, mr_227, ms_207, ms_227, xl_MO_holds, mxC_1, mxC_2, mxC_p, mxC_i, mx_i]
theorem xl_MO_dropRule_28 {b : am_M}  (s : am_M) (x0 : Int32)  : f_MO_dropRule_28  (mx b s) x0 = mx b (f_MO_dropRule_28  s x0) := by
  unfold f_MO_dropRule_28
  simp only [xl_MO_dropRule_29, mxC_1, mxC_2, mxC_p, mxC_i, mx_i]
theorem xl_MO_dropRule {b : am_M}  (s : am_M) (x0 : Int32)  : f_MO_dropRule  (mx b s) x0 = mx b (f_MO_dropRule  s x0) := by
  unfold f_MO_dropRule
  simp only [mr_207, mr_227, xl_MO_dropRule_28, xl_MO_dropRule_29, xl_MO_in, mxC_1, mxC_2, mxC_p, mxC_i, mx_i]
theorem xl_MO_entersDraft {b : am_M}  (s : am_M) (x0 : Int32) (x1 : Int32)  : f_MO_entersDraft  (mx b s) x0 x1 = mxC b (f_MO_entersDraft  s x0 x1) := by
  unfold f_MO_entersDraft
  simp only [mr_231, xl_MO_empties, (fun s x0 x2 x3 => xl_MO_entersRow (b := b) s x0 231 x2 x3 (by decide) (by decide)), xl_MO_isChanged, mxC_1, mxC_2, mxC_p, mxC_i, mx_i]
theorem xl_MO_enter {b : am_M}  (s : am_M) (x0 : Int32)  : f_MO_enter  (mx b s) x0 = mxC b (f_MO_enter  s x0) := by
  unfold f_MO_enter
  simp only [mr_228, xl_MO_entersDraft, xl_MO_holds, xl_MO_isTable, mxC_1, mxC_2, mxC_p, mxC_i, mx_i]
theorem xl_MO_enterInside_89 {b : am_M}  (s : am_M) (x0 : Int32) (x1 : Int32) (x2 : Int32) (x3 : Int32) (x4 : Int32)  : f_MO_enterInside_89  (mx b s) x0 x1 x2 x3 x4 = mxC b (f_MO_enterInside_89  s x0 x1 x2 x3 x4) := by
  unfold f_MO_enterInside_89
  simp only [xl_MO_entersDraft, xl_MO_holds, mxC_1, mxC_2, mxC_p, mxC_i, mx_i]
theorem xl_MO_enterInside_88 {b : am_M}  (s : am_M) (x0 : Int32) (x1 : Int32) (x2 : Int32) (x3 : Int32)  : f_MO_enterInside_88  (mx b s) x0 x1 x2 x3 = mxC b (f_MO_enterInside_88  s x0 x1 x2 x3) := by
  unfold f_MO_enterInside_88
  simp only [xl_MO_enterInside_89, mxC_1, mxC_2, mxC_p, mxC_i, mx_i]
theorem xl_MO_enterInside_50 {b : am_M}  (s : am_M) (x0 : Int32) (x1 : Int32) (x2 : Int32) (x3 : Int32)  : f_MO_enterInside_50  (mx b s) x0 x1 x2 x3 = mxC b (f_MO_enterInside_50  s x0 x1 x2 x3) := by
  unfold f_MO_enterInside_50
  simp only [mr_207, mr_212, xl_MO_enterInside_88, xl_MO_enterInside_89, xl_MO_kindOf, mxC_1, mxC_2, mxC_p, mxC_i, mx_i]
theorem xl_MO_enterInside_45 {b : am_M}  (s : am_M) (x0 : Int32) (x1 : Int32) (x2 : Int32)  : f_MO_enterInside_45  (mx b s) x0 x1 x2 = mxC b (f_MO_enterInside_45  s x0 x1 x2) := by
  unfold f_MO_enterInside_45
  simp only [xl_MO_enterInside_50, mxC_1, mxC_2, mxC_p, mxC_i, mx_i]
theorem xl_MO_enterInside_49 {b : am_M}  (s : am_M) (x0 : Int32) (x1 : Int32) (x2 : Int32)  : f_MO_enterInside_49  (mx b s) x0 x1 x2 = mxC b (f_MO_enterInside_49  s x0 x1 x2) := by
  unfold f_MO_enterInside_49
  simp only [xl_MO_enterInside_50, mxC_1, mxC_2, mxC_p, mxC_i, mx_i]
theorem xl_MO_enterInside {b : am_M}  (s : am_M) (x0 : Int32) (x1 : Int32)  : f_MO_enterInside  (mx b s) x0 x1 = mxC b (f_MO_enterInside  s x0 x1) := by
  unfold f_MO_enterInside
  simp only [mr_207, mr_228, xl_MO_enterInside_45, xl_MO_enterInside_49, xl_MO_isColumn, xl_MO_isRow, mxC_1, mxC_2, mxC_p, mxC_i, mx_i]
theorem xl_MO_errorOfNarrow {b s : am_M}  {x0 : Int32} {x1 : Int32} {x2 : Int32} {x3 : Int32} : f_MO_errorOfNarrow  (mx b s) x0 x1 x2 x3 = f_MO_errorOfNarrow  s x0 x1 x2 x3 := by
  unfold f_MO_errorOfNarrow
  simp only [xl_MO_isColumn, xl_MO_isSpan, xl_MO_kindOf, mxC_1, mxC_2, mxC_p, mxC_i, mx_i]
theorem xl_MO_isAct {b s : am_M}  {x0 : Int32} : f_MO_isAct  (mx b s) x0 = f_MO_isAct  s x0 := by
  unfold f_MO_isAct
  simp only [mr_207, xl_MO_in, mxC_1, mxC_2, mxC_p, mxC_i, mx_i]
theorem xl_MO_isNumber {b s : am_M}  {x0 : Int32} : f_MO_isNumber  (mx b s) x0 = f_MO_isNumber  s x0 := by
  unfold f_MO_isNumber
  simp only [xl_MO_in, mxC_1, mxC_2, mxC_p, mxC_i, mx_i]
theorem xl_MO_errorOfStep_39 {b : am_M}  (s : am_M) (x0 : Int32) (x1 : Int32) (x2 : Int32) (x3 : Int32) (x4 : Int32) (x5 : Int32)  : f_MO_errorOfStep_39  (mx b s) x0 x1 x2 x3 x4 x5 = mxC b (f_MO_errorOfStep_39  s x0 x1 x2 x3 x4 x5) := by
  unfold f_MO_errorOfStep_39
  simp only [mr_255, mxC_1, mxC_2, mxC_p, mxC_i, mx_i]
theorem xl_MO_errorOfStep_37 {b : am_M}  (s : am_M) (x0 : Int32) (x1 : Int32) (x2 : Int32) (x3 : Int32) (x4 : Int32)  : f_MO_errorOfStep_37  (mx b s) x0 x1 x2 x3 x4 = mxC b (f_MO_errorOfStep_37  s x0 x1 x2 x3 x4) := by
  unfold f_MO_errorOfStep_37
  simp only [xl_MO_errorOfStep_39, mxC_1, mxC_2, mxC_p, mxC_i, mx_i]
theorem xl_MO_errorOfStep_18 {b : am_M}  (s : am_M) (x0 : Int32) (x1 : Int32) (x2 : Int32) (x3 : Int32) (x4 : Int32)  : f_MO_errorOfStep_18  (mx b s) x0 x1 x2 x3 x4 = mxC b (f_MO_errorOfStep_18  s x0 x1 x2 x3 x4) := by
  unfold f_MO_errorOfStep_18
  simp only [xl_MO_errorOfStep_37, xl_MO_errorOfStep_39, xl_MO_isNumber, mxC_1, mxC_2, mxC_p, mxC_i, mx_i]
theorem xl_MO_errorOfStep {b : am_M}  (s : am_M) (x0 : Int32) (x1 : Int32) (x2 : Int32) (x3 : Int32)  : f_MO_errorOfStep  (mx b s) x0 x1 x2 x3 = mxC b (f_MO_errorOfStep  s x0 x1 x2 x3) := by
  unfold f_MO_errorOfStep
  simp only [xl_MO_errorOfQuestion, xl_MO_errorOfStep_18, xl_MO_isAct, mxC_1, mxC_2, mxC_p, mxC_i, mx_i]
theorem xl_MO_errorOfStored {b s : am_M}  {x0 : Int32} {x1 : Int32} : f_MO_errorOfStored  (mx b s) x0 x1 = f_MO_errorOfStored  s x0 x1 := by
  unfold f_MO_errorOfStored
  simp only [xl_MO_isColumn, xl_MO_isStored, mxC_1, mxC_2, mxC_p, mxC_i, mx_i]
theorem xl_MO_forgets_63 {b : am_M}  : ∀ (n : Nat) (s : am_M) (x0 : Int32), f_MO_forgets_63  n (mx b s) x0 = mx b (f_MO_forgets_63  n s x0) := by
  intro n
  induction n with
  | zero => intro s x0 ; rfl
  | succ n ih =>
    intro s x0 
    unfold f_MO_forgets_63
    simp only [ih, mr_207, mr_235, ms_207, ms_235, mxC_1, mxC_2, mxC_p, mxC_i, mx_i]
theorem xl_MO_forgets_61 {b : am_M}  (s : am_M) (x0 : Int32)  : f_MO_forgets_61  (mx b s) x0 = mx b (f_MO_forgets_61  s x0) := by
  unfold f_MO_forgets_61
  simp only [xl_MO_forgets_63, mxC_1, mxC_2, mxC_p, mxC_i, mx_i]
theorem xl_MO_forgets_33 {b : am_M}  : ∀ (n : Nat) (s : am_M) (x0 : Int32), f_MO_forgets_33  n (mx b s) x0 = mx b (f_MO_forgets_33  n s x0) := by
  intro n
  induction n with
  | zero => intro s x0 ; rfl
  | succ n ih =>
    intro s x0 
    unfold f_MO_forgets_33
    simp only [ih, mr_234, ms_234, xl_MO_forgets_61, mxC_1, mxC_2, mxC_p, mxC_i, mx_i]
theorem xl_MO_forgets_31 {b : am_M}  (s : am_M) (x0 : Int32)  : f_MO_forgets_31  (mx b s) x0 = mx b (f_MO_forgets_31  s x0) := by
  unfold f_MO_forgets_31
  simp only [xl_MO_forgets_33, mxC_1, mxC_2, mxC_p, mxC_i, mx_i]
theorem xl_MO_forgets_2 {b : am_M}  : ∀ (n : Nat) (s : am_M) (x0 : Int32), f_MO_forgets_2  n (mx b s) x0 = mx b (f_MO_forgets_2  n s x0) := by
  intro n
  induction n with
  | zero => intro s x0 ; rfl
  | succ n ih =>
    intro s x0 
    unfold f_MO_forgets_2
    simp only [ih, mr_233, ms_233, xl_MO_forgets_31, mxC_1, mxC_2, mxC_p, mxC_i, mx_i]
theorem xl_MO_forgets {b : am_M}  (s : am_M)   : f_MO_forgets  (mx b s)  = mx b (f_MO_forgets  s ) := by
  unfold f_MO_forgets
  simp only [xl_MO_forgets_2, mxC_1, mxC_2, mxC_p, mxC_i, mx_i]
theorem xl_MO_isThere_14 {b : am_M}  (s : am_M) (x0 : Int32) (x1 : Int32) (x2 : Int32)  : f_MO_isThere_14  (mx b s) x0 x1 x2 = mxC b (f_MO_isThere_14  s x0 x1 x2) := by
  unfold f_MO_isThere_14
  simp only [xl_MO_holds, xl_MO_isRow, mxC_1, mxC_2, mxC_p, mxC_i, mx_i]
theorem xl_MO_isThere {b : am_M}  (s : am_M) (x0 : Int32) (x1 : Int32)  : f_MO_isThere  (mx b s) x0 x1 = mxC b (f_MO_isThere  s x0 x1) := by
  unfold f_MO_isThere
  simp only [xl_MO_isTable, xl_MO_isThere_14, mxC_1, mxC_2, mxC_p, mxC_i, mx_i]
theorem xl_MO_keyOf_54 {b : am_M}  (s : am_M) (x0 : Int32) (x1 : Int32) (x2 : Int32) (x3 : Int32)  : f_MO_keyOf_54  (mx b s) x0 x1 x2 x3 = mxC b (f_MO_keyOf_54  s x0 x1 x2 x3) := by
  unfold f_MO_keyOf_54
  simp only [mr_253, xl_MO_holds, mxC_1, mxC_2, mxC_p, mxC_i, mx_i]
theorem xl_MO_keyOf_29 {b : am_M}  (s : am_M) (x0 : Int32) (x1 : Int32) (x2 : Int32)  : f_MO_keyOf_29  (mx b s) x0 x1 x2 = mxC b (f_MO_keyOf_29  s x0 x1 x2) := by
  unfold f_MO_keyOf_29
  simp only [mr_236, xl_MO_keyOf_54, mxC_1, mxC_2, mxC_p, mxC_i, mx_i]
theorem xl_MO_keyOf_28 {b : am_M}  (s : am_M) (x0 : Int32) (x1 : Int32)  : f_MO_keyOf_28  (mx b s) x0 x1 = mxC b (f_MO_keyOf_28  s x0 x1) := by
  unfold f_MO_keyOf_28
  simp only [xl_MO_keyOf_29, mxC_1, mxC_2, mxC_p, mxC_i, mx_i]
theorem xl_MO_keyOf {b : am_M}  (s : am_M) (x0 : Int32) (x1 : Int32)  : f_MO_keyOf  (mx b s) x0 x1 = mxC b (f_MO_keyOf  s x0 x1) := by
  unfold f_MO_keyOf
  simp only [xl_MO_hasColumn, xl_MO_isQuestion, xl_MO_keyOf_28, xl_MO_keyOf_29, mxC_1, mxC_2, mxC_p, mxC_i, mx_i]
theorem xl_MO_narrow_101 {b : am_M}  (s : am_M) (x0 : Int32) (x1 : Int32) (x2 : Int32) (x3 : Int32) (x4 : Int32) (x5 : Int32) (x6 : Int32) (x7 : Int32) (x8 : Int32) (x9 : Int32)  : f_MO_narrow_101  (mx b s) x0 x1 x2 x3 x4 x5 x6 x7 x8 x9 = mxC b (f_MO_narrow_101  s x0 x1 x2 x3 x4 x5 x6 x7 x8 x9) := by
  unfold f_MO_narrow_101
  simp only [mr_210, mr_211, ms_210, ms_211, xl_MO_isChanged, mxC_1, mxC_2, mxC_p, mxC_i, mx_i]
theorem xl_MO_narrow {b : am_M}  (s : am_M) (x0 : Int32) (x1 : Int32) (x2 : Int32) (x3 : Int32)  : f_MO_narrow  (mx b s) x0 x1 x2 x3 = mxC b (f_MO_narrow  s x0 x1 x2 x3) := by
  unfold f_MO_narrow
  simp only [mr_210, mr_211, ms_210, ms_211, xl_MO_beyond, xl_MO_errorOfNarrow, xl_MO_holds, xl_MO_isKept, xl_MO_narrow_101, xl_MO_saves, mxC_1, mxC_2, mxC_p, mxC_i, mx_i]
theorem xl_MO_need {b : am_M}  (s : am_M) (x0 : Int32) (x1 : Int32) (x2 : Int32)  : f_MO_need  (mx b s) x0 x1 x2 = mxC b (f_MO_need  s x0 x1 x2) := by
  unfold f_MO_need
  simp only [mr_218, ms_218, xl_MO_errorOfStored, xl_MO_holds, xl_MO_isChanged, xl_MO_isKept, xl_MO_saves, mxC_1, mxC_2, mxC_p, mxC_i, mx_i]
theorem xl_MO_openForm {b : am_M}  (s : am_M) (x0 : Int32) (x1 : Int32)  : f_MO_openForm  (mx b s) x0 x1 = mx b (f_MO_openForm  s x0 x1) := by
  unfold f_MO_openForm
  simp only [mr_207, ms_207, xl_MO_holds, xl_MO_isRow, mxC_1, mxC_2, mxC_p, mxC_i, mx_i]
theorem xl_MO_order_25 {b : am_M}  (s : am_M) (x0 : Int32) (x1 : Int32)  : f_MO_order_25  (mx b s) x0 x1 = mxC b (f_MO_order_25  s x0 x1) := by
  unfold f_MO_order_25
  simp only [mr_220, xl_MO_holds, mxC_1, mxC_2, mxC_p, mxC_i, mx_i]
theorem xl_MO_order {b : am_M}  (s : am_M) (x0 : Int32)  : f_MO_order  (mx b s) x0 = mxC b (f_MO_order  s x0) := by
  unfold f_MO_order
  simp only [mr_207, xl_MO_in, xl_MO_laysOrder, xl_MO_order_25, mxC_1, mxC_2, mxC_p, mxC_i, mx_i]
theorem xl_MO_put_61 {b : am_M}  (s : am_M) (x0 : Int32) (x1 : Int32) (x2 : Int32) (x3 : Int32) (x4 : Int32) (x5 : Int32)  : f_MO_put_61  (mx b s) x0 x1 x2 x3 x4 x5 = mxC b (f_MO_put_61  s x0 x1 x2 x3 x4 x5) := by
  unfold f_MO_put_61
  simp only [xl_MO_holds, xl_MO_isChanged, xl_MO_writesCell, mxC_1, mxC_2, mxC_p, mxC_i, mx_i]
theorem xl_MO_put_60 {b : am_M}  (s : am_M) (x0 : Int32) (x1 : Int32) (x2 : Int32) (x3 : Int32) (x4 : Int32)  : f_MO_put_60  (mx b s) x0 x1 x2 x3 x4 = mxC b (f_MO_put_60  s x0 x1 x2 x3 x4) := by
  unfold f_MO_put_60
  simp only [xl_MO_put_61, mxC_1, mxC_2, mxC_p, mxC_i, mx_i]
theorem xl_MO_put_23 {b : am_M}  (s : am_M) (x0 : Int32) (x1 : Int32) (x2 : Int32) (x3 : Int32) (x4 : Int32)  : f_MO_put_23  (mx b s) x0 x1 x2 x3 x4 = mxC b (f_MO_put_23  s x0 x1 x2 x3 x4) := by
  unfold f_MO_put_23
  simp only [xl_MO_isNumber, xl_MO_isStored, xl_MO_put_60, xl_MO_put_61, mxC_1, mxC_2, mxC_p, mxC_i, mx_i]
theorem xl_MO_put_22 {b : am_M}  (s : am_M) (x0 : Int32) (x1 : Int32) (x2 : Int32) (x3 : Int32)  : f_MO_put_22  (mx b s) x0 x1 x2 x3 = mxC b (f_MO_put_22  s x0 x1 x2 x3) := by
  unfold f_MO_put_22
  simp only [xl_MO_put_23, mxC_1, mxC_2, mxC_p, mxC_i, mx_i]
theorem xl_MO_put {b : am_M}  (s : am_M) (x0 : Int32) (x1 : Int32) (x2 : Int32) (x3 : Int32)  : f_MO_put  (mx b s) x0 x1 x2 x3 = mxC b (f_MO_put  s x0 x1 x2 x3) := by
  unfold f_MO_put
  simp only [xl_MO_isColumn, xl_MO_isRow, xl_MO_put_22, xl_MO_put_23, mxC_1, mxC_2, mxC_p, mxC_i, mx_i]
theorem xl_MO_reason {b : am_M}  (s : am_M)   : f_MO_reason  (mx b s)  = mxC b (f_MO_reason  s ) := by
  unfold f_MO_reason
  simp only [mr_207, ms_207, mxC_1, mxC_2, mxC_p, mxC_i, mx_i]
theorem xl_MO_reckonAnew_155 {b : am_M}  (s : am_M) (x0 : Int32) (x1 : Int32) (x2 : Int32) (x3 : Int32) (x4 : Int32) (x5 : Int32) (x6 : Int32) (x7 : Int32) (x8 : Int32) (x9 : Int32) (x10 : Int32) (x11 : Int32) (x12 : Int32) (x13 : Int32)  : f_MO_reckonAnew_155  (mx b s) x0 x1 x2 x3 x4 x5 x6 x7 x8 x9 x10 x11 x12 x13 = mxC b (f_MO_reckonAnew_155  s x0 x1 x2 x3 x4 x5 x6 x7 x8 x9 x10 x11 x12 x13) := by
  unfold f_MO_reckonAnew_155
  simp only [xl_MO_formula, xl_MO_isChanged, xl_MO_isKept, mxC_1, mxC_2, mxC_p, mxC_i, mx_i]
theorem xl_MO_reckonAnew_71 {b : am_M}  (s : am_M) (x0 : Int32) (x1 : Int32) (x2 : Int32) (x3 : Int32) (x4 : Int32) (x5 : Int32) (x6 : Int32) (x7 : Int32) (x8 : Int32) (x9 : Int32)  : f_MO_reckonAnew_71  (mx b s) x0 x1 x2 x3 x4 x5 x6 x7 x8 x9 = mxC b (f_MO_reckonAnew_71  s x0 x1 x2 x3 x4 x5 x6 x7 x8 x9) := by
  unfold f_MO_reckonAnew_71
  simp only [mr_214, mr_215, mr_216, mr_217, xl_MO_formula, xl_MO_holds, xl_MO_laysOrder, xl_MO_reckonAnew_155, xl_MO_saves, xl_MO_told, mxC_1, mxC_2, mxC_p, mxC_i, mx_i]
theorem xl_MO_reckonAnew_69 {b : am_M}  (s : am_M) (x0 : Int32) (x1 : Int32) (x2 : Int32) (x3 : Int32) (x4 : Int32) (x5 : Int32) (x6 : Int32) (x7 : Int32) (x8 : Int32)  : f_MO_reckonAnew_69  (mx b s) x0 x1 x2 x3 x4 x5 x6 x7 x8 = mxC b (f_MO_reckonAnew_69  s x0 x1 x2 x3 x4 x5 x6 x7 x8) := by
  unfold f_MO_reckonAnew_69
  simp only [xl_MO_reckonAnew_71, mxC_1, mxC_2, mxC_p, mxC_i, mx_i]
theorem xl_MO_reckonAnew_46 {b : am_M}  (s : am_M) (x0 : Int32) (x1 : Int32) (x2 : Int32) (x3 : Int32) (x4 : Int32) (x5 : Int32) (x6 : Int32) (x7 : Int32) (x8 : Int32)  : f_MO_reckonAnew_46  (mx b s) x0 x1 x2 x3 x4 x5 x6 x7 x8 = mxC b (f_MO_reckonAnew_46  s x0 x1 x2 x3 x4 x5 x6 x7 x8) := by
  unfold f_MO_reckonAnew_46
  simp only [mr_209, xl_MO_reckonAnew_69, xl_MO_reckonAnew_71, mxC_1, mxC_2, mxC_p, mxC_i, mx_i]
theorem xl_MO_reckonAnew_29 {b : am_M}  (s : am_M) (x0 : Int32) (x1 : Int32) (x2 : Int32) (x3 : Int32) (x4 : Int32) (x5 : Int32) (x6 : Int32) (x7 : Int32)  : f_MO_reckonAnew_29  (mx b s) x0 x1 x2 x3 x4 x5 x6 x7 = mxC b (f_MO_reckonAnew_29  s x0 x1 x2 x3 x4 x5 x6 x7) := by
  unfold f_MO_reckonAnew_29
  simp only [xl_MO_reckonAnew_46, mxC_1, mxC_2, mxC_p, mxC_i, mx_i]
theorem xl_MO_reckonAnew {b : am_M}  (s : am_M) (x0 : Int32) (x1 : Int32) (x2 : Int32) (x3 : Int32) (x4 : Int32) (x5 : Int32)  : f_MO_reckonAnew  (mx b s) x0 x1 x2 x3 x4 x5 = mxC b (f_MO_reckonAnew  s x0 x1 x2 x3 x4 x5) := by
  unfold f_MO_reckonAnew
  simp only [xl_MO_errorOfFormula, xl_MO_isColumn, xl_MO_reckonAnew_29, mxC_1, mxC_2, mxC_p, mxC_i, mx_i]

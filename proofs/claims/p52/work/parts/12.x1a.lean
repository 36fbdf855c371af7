theorem xl_MO_holds {b : am_M}  (s : am_M) (x0 : Int32)  : f_MO_holds  (mx b s) x0 = mxC b (f_MO_holds  s x0) := by
  unfold f_MO_holds
  simp only [mr_207, ms_207, mxC_1, mxC_2, mxC_p, mxC_i, mx_i]
theorem xl_MO_addAct_14 {b : am_M}  (s : am_M) (x0 : Int32)  : f_MO_addAct_14  (mx b s) x0 = mxC b (f_MO_addAct_14  s x0) := by
  unfold f_MO_addAct_14
  simp only [mr_207, ms_207, xl_MO_holds, mxC_1, mxC_2, mxC_p, mxC_i, mx_i]
theorem xl_MO_addAct {b : am_M}  (s : am_M)   : f_MO_addAct  (mx b s)  = mxC b (f_MO_addAct  s ) := by
  unfold f_MO_addAct
  simp only [mr_207, xl_MO_addAct_14, mxC_1, mxC_2, mxC_p, mxC_i, mx_i]
theorem xl_MO_in {b s : am_M}  {x0 : Int32} {x1 : Int32} {x2 : Int32} : f_MO_in  (mx b s) x0 x1 x2 = f_MO_in  s x0 x1 x2 := by
  unfold f_MO_in
  rfl
theorem xl_MO_isTable {b s : am_M}  {x0 : Int32} : f_MO_isTable  (mx b s) x0 = f_MO_isTable  s x0 := by
  unfold f_MO_isTable
  simp only [mr_207, xl_MO_in, mxC_1, mxC_2, mxC_p, mxC_i, mx_i]
theorem xl_MO_errorOfFull {b s : am_M}  {x0 : Int32} {x1 : Int32} : f_MO_errorOfFull  (mx b s) x0 x1 = f_MO_errorOfFull  s x0 x1 := by
  unfold f_MO_errorOfFull
  simp only [mr_208, xl_MO_isTable, mxC_1, mxC_2, mxC_p, mxC_i, mx_i]
theorem xl_MO_makesColumn {b : am_M}  (s : am_M) (x0 : Int32) (x1 : Int32)  : f_MO_makesColumn  (mx b s) x0 x1 = mxC b (f_MO_makesColumn  s x0 x1) := by
  unfold f_MO_makesColumn
  simp only [mr_207, mr_208, mr_209, mr_218, mr_219, ms_207, ms_208, ms_209, ms_218, ms_219, mxC_1, mxC_2, mxC_p, mxC_i, mx_i]
theorem xl_MO_addLink_24 {b : am_M}  (s : am_M) (x0 : Int32) (x1 : Int32) (x2 : Int32) (x3 : Int32)  : f_MO_addLink_24  (mx b s) x0 x1 x2 x3 = mxC b (f_MO_addLink_24  s x0 x1 x2 x3) := by
  unfold f_MO_addLink_24
  simp only [mr_212, mr_213, ms_212, ms_213, xl_MO_holds, xl_MO_makesColumn, mxC_1, mxC_2, mxC_p, mxC_i, mx_i]
theorem xl_MO_addLink {b : am_M}  (s : am_M) (x0 : Int32) (x1 : Int32) (x2 : Int32)  : f_MO_addLink  (mx b s) x0 x1 x2 = mxC b (f_MO_addLink  s x0 x1 x2) := by
  unfold f_MO_addLink
  simp only [xl_MO_addLink_24, xl_MO_errorOfFull, xl_MO_in, xl_MO_isTable, mxC_1, mxC_2, mxC_p, mxC_i, mx_i]
theorem xl_MO_isSpan {b s : am_M}  {x0 : Int32} {x1 : Int32} : f_MO_isSpan  (mx b s) x0 x1 = f_MO_isSpan  s x0 x1 := by
  unfold f_MO_isSpan
  simp only [xl_MO_in, mxC_1, mxC_2, mxC_p, mxC_i, mx_i]
theorem xl_MO_addNumber {b : am_M}  (s : am_M) (x0 : Int32) (x1 : Int32) (x2 : Int32)  : f_MO_addNumber  (mx b s) x0 x1 x2 = mxC b (f_MO_addNumber  s x0 x1 x2) := by
  unfold f_MO_addNumber
  simp only [mr_210, mr_211, ms_210, ms_211, xl_MO_errorOfFull, xl_MO_holds, xl_MO_isSpan, xl_MO_makesColumn, mxC_1, mxC_2, mxC_p, mxC_i, mx_i]
theorem xl_MO_isColumn {b s : am_M}  {x0 : Int32} {x1 : Int32} : f_MO_isColumn  (mx b s) x0 x1 = f_MO_isColumn  s x0 x1 := by
  unfold f_MO_isColumn
  simp only [mr_208, xl_MO_in, xl_MO_isTable, mxC_1, mxC_2, mxC_p, mxC_i, mx_i]
theorem xl_MO_kindOf {b s : am_M}  {x0 : Int32} {x1 : Int32} : f_MO_kindOf  (mx b s) x0 x1 = f_MO_kindOf  s x0 x1 := by
  unfold f_MO_kindOf
  simp only [mr_209, mxC_1, mxC_2, mxC_p, mxC_i, mx_i]
theorem xl_MO_errorOfTaken {b s : am_M}  {x0 : Int32} {x1 : Int32} : f_MO_errorOfTaken  (mx b s) x0 x1 = f_MO_errorOfTaken  s x0 x1 := by
  unfold f_MO_errorOfTaken
  simp only [xl_MO_isColumn, xl_MO_kindOf, mxC_1, mxC_2, mxC_p, mxC_i, mx_i]
theorem xl_MO_errorOfFormula_176 {b s : am_M}  {x0 : Int32} {x1 : Int32} {x2 : Int32} {x3 : Int32} {x4 : Int32} {x5 : Int32} : f_MO_errorOfFormula_176  (mx b s) x0 x1 x2 x3 x4 x5 = f_MO_errorOfFormula_176  s x0 x1 x2 x3 x4 x5 := by
  unfold f_MO_errorOfFormula_176
  simp only [xl_MO_kindOf, mxC_1, mxC_2, mxC_p, mxC_i, mx_i]
theorem xl_MO_errorOfFormula_175 {b s : am_M}  {x0 : Int32} {x1 : Int32} {x2 : Int32} {x3 : Int32} {x4 : Int32} : f_MO_errorOfFormula_175  (mx b s) x0 x1 x2 x3 x4 = f_MO_errorOfFormula_175  s x0 x1 x2 x3 x4 := by
  unfold f_MO_errorOfFormula_175
  simp only [xl_MO_errorOfFormula_176, mxC_1, mxC_2, mxC_p, mxC_i, mx_i]
theorem xl_MO_errorOfFormula_144 {b s : am_M}  {x0 : Int32} {x1 : Int32} {x2 : Int32} {x3 : Int32} {x4 : Int32} : f_MO_errorOfFormula_144  (mx b s) x0 x1 x2 x3 x4 = f_MO_errorOfFormula_144  s x0 x1 x2 x3 x4 := by
  unfold f_MO_errorOfFormula_144
  simp only [mr_212, xl_MO_errorOfFormula_175, xl_MO_errorOfFormula_176, xl_MO_kindOf, mxC_1, mxC_2, mxC_p, mxC_i, mx_i]
theorem xl_MO_errorOfFormula {b s : am_M}  {x0 : Int32} {x1 : Int32} {x2 : Int32} {x3 : Int32} {x4 : Int32} : f_MO_errorOfFormula  (mx b s) x0 x1 x2 x3 x4 = f_MO_errorOfFormula  s x0 x1 x2 x3 x4 := by
  unfold f_MO_errorOfFormula
  simp only [mr_212, xl_MO_errorOfFormula_144, xl_MO_errorOfTaken, xl_MO_in, xl_MO_isColumn, xl_MO_kindOf, mxC_1, mxC_2, mxC_p, mxC_i, mx_i]
theorem xl_MO_formula {b : am_M}  (s : am_M) (x0 : Int32) (x1 : Int32) (x2 : Int32) (x3 : Int32) (x4 : Int32)  : f_MO_formula  (mx b s) x0 x1 x2 x3 x4 = mx b (f_MO_formula  s x0 x1 x2 x3 x4) := by
  unfold f_MO_formula
  simp only [mr_214, mr_215, mr_216, mr_217, ms_214, ms_215, ms_216, ms_217, mxC_1, mxC_2, mxC_p, mxC_i, mx_i]
theorem xl_MO_firstUsed_33 {b s : am_M}  {x0 : Int32} {x1 : Int32} : f_MO_firstUsed_33  (mx b s) x0 x1 = f_MO_firstUsed_33  s x0 x1 := by
  unfold f_MO_firstUsed_33
  simp only [mr_215, mxC_1, mxC_2, mxC_p, mxC_i, mx_i]
theorem xl_MO_firstUsed_20 {b s : am_M}  {x0 : Int32} : f_MO_firstUsed_20  (mx b s) x0 = f_MO_firstUsed_20  s x0 := by
  unfold f_MO_firstUsed_20
  simp only [mr_217, xl_MO_firstUsed_33, mxC_1, mxC_2, mxC_p, mxC_i, mx_i]
theorem xl_MO_firstUsed {b s : am_M}  {x0 : Int32} : f_MO_firstUsed  (mx b s) x0 = f_MO_firstUsed  s x0 := by
  unfold f_MO_firstUsed
  simp only [mr_214, xl_MO_firstUsed_20, xl_MO_firstUsed_33, mxC_1, mxC_2, mxC_p, mxC_i, mx_i]
theorem xl_MO_isReady {b s : am_M}  {x0 : Int32} : f_MO_isReady  (mx b s) x0 = f_MO_isReady  s x0 := by
  unfold f_MO_isReady
  simp only [mr_209, mr_221, mxC_1, mxC_2, mxC_p, mxC_i, mx_i]
theorem xl_MO_secondUsed_58 {b s : am_M}  {x0 : Int32} {x1 : Int32} : f_MO_secondUsed_58  (mx b s) x0 x1 = f_MO_secondUsed_58  s x0 x1 := by
  unfold f_MO_secondUsed_58
  simp only [mr_216, mxC_1, mxC_2, mxC_p, mxC_i, mx_i]
theorem xl_MO_secondUsed {b s : am_M}  {x0 : Int32} : f_MO_secondUsed  (mx b s) x0 = f_MO_secondUsed  s x0 := by
  unfold f_MO_secondUsed
  simp only [mr_212, mr_214, mr_217, xl_MO_firstUsed, xl_MO_secondUsed_58, mxC_1, mxC_2, mxC_p, mxC_i, mx_i]
theorem xl_MO_nextReckoned_53 {b s : am_M} {K2 : Int32 → Int32} {x0 : Int32} : f_MO_nextReckoned_53 K2 (mx b s) x0 = f_MO_nextReckoned_53 K2 s x0 := by
  unfold f_MO_nextReckoned_53
  rfl
theorem xl_MO_nextReckoned_2 {b s : am_M}  : ∀ (n : Nat), f_MO_nextReckoned_2  n (mx b s) = f_MO_nextReckoned_2  n s := by
  intro n
  induction n with
  | zero => rfl
  | succ n ih =>
    funext x0
    unfold f_MO_nextReckoned_2
    simp only [ih, mr_209, mr_221, xl_MO_firstUsed, xl_MO_isReady, xl_MO_nextReckoned_53, xl_MO_secondUsed, mxC_1, mxC_2, mxC_p, mxC_i, mx_i]
theorem xl_MO_nextReckoned {b s : am_M}   : f_MO_nextReckoned  (mx b s)  = f_MO_nextReckoned  s  := by
  unfold f_MO_nextReckoned
  simp only [xl_MO_nextReckoned_2, mxC_1, mxC_2, mxC_p, mxC_i, mx_i]
theorem xl_MO_laysOrder_33 {b : am_M} {K4 : am_M → Int32 → Int32 → Int32 × am_M} (hK4 : ∀ (s : am_M) (a0 : Int32) (a1 : Int32), K4 (mx b s) a0 a1 = mxC b (K4 s a0 a1)) (s : am_M) (x0 : Int32) (x1 : Int32) (x2 : Int32) (x3 : Int32)  : f_MO_laysOrder_33 K4 (mx b s) x0 x1 x2 x3 = mxC b (f_MO_laysOrder_33 K4 s x0 x1 x2 x3) := by
  unfold f_MO_laysOrder_33
  simp only [hK4, mxC_1, mxC_2, mxC_p, mxC_i, mx_i]
theorem xl_MO_laysOrder_51 {b : am_M}  : ∀ (n : Nat) (s : am_M) (x0 : Int32) (x1 : Int32), f_MO_laysOrder_51  n (mx b s) x0 x1 = mxC b (f_MO_laysOrder_51  n s x0 x1) := by
  intro n
  induction n with
  | zero => intro s x0 x1 ; rfl
  | succ n ih =>
    intro s x0 x1 
    unfold f_MO_laysOrder_51
    simp only [ih, mr_207, mr_220, mr_221, ms_207, ms_220, ms_221, xl_MO_nextReckoned, mxC_1, mxC_2, mxC_p, mxC_i, mx_i]
theorem xl_MO_laysOrder_41 {b : am_M}  (s : am_M) (x0 : Int32) (x1 : Int32)  : f_MO_laysOrder_41  (mx b s) x0 x1 = mxC b (f_MO_laysOrder_41  s x0 x1) := by
  unfold f_MO_laysOrder_41
  simp only [mr_207, ms_207, xl_MO_laysOrder_51, xl_MO_nextReckoned, mxC_1, mxC_2, mxC_p, mxC_i, mx_i]
theorem xl_MO_laysOrder_4 {b : am_M}  : ∀ (n : Nat) (s : am_M) (x0 : Int32) (x1 : Int32), f_MO_laysOrder_4  n (mx b s) x0 x1 = mxC b (f_MO_laysOrder_4  n s x0 x1) := by
  intro n
  induction n with
  | zero => intro s x0 x1 ; rfl
  | succ n ih =>
    intro s x0 x1 
    unfold f_MO_laysOrder_4
    simp only [ih, mr_209, mr_221, ms_209, ms_221, xl_MO_laysOrder_33 ih, xl_MO_laysOrder_41, mxC_1, mxC_2, mxC_p, mxC_i, mx_i]
theorem xl_MO_laysOrder {b : am_M}  (s : am_M)   : f_MO_laysOrder  (mx b s)  = mxC b (f_MO_laysOrder  s ) := by
  unfold f_MO_laysOrder
  simp only [xl_MO_laysOrder_4, mxC_1, mxC_2, mxC_p, mxC_i, mx_i]
theorem xl_MO_at {b s : am_M}  {x0 : Int32} {x1 : Int32} {x2 : Int32} : f_MO_at  (mx b s) x0 x1 x2 = f_MO_at  s x0 x1 x2 := by
  unfold f_MO_at
  rfl
theorem xl_MO_isRow {b s : am_M}  {x0 : Int32} {x1 : Int32} : f_MO_isRow  (mx b s) x0 x1 = f_MO_isRow  s x0 x1 := by
  unfold f_MO_isRow
  simp only [mr_228, mr_229, xl_MO_in, xl_MO_isTable, mxC_1, mxC_2, mxC_p, mxC_i, mx_i]
theorem xl_MO_look {b s : am_M}  {x0 : Int32} {x1 : Int32} : f_MO_look  (mx b s) x0 x1 = f_MO_look  s x0 x1 := by
  unfold f_MO_look
  simp only [mr_212, mr_215, mr_216, mr_230, xl_MO_at, xl_MO_firstUsed, xl_MO_isRow, mxC_1, mxC_2, mxC_p, mxC_i, mx_i]
theorem xl_MO_held {b s : am_M}  {x0 : Int64} : f_MO_held  (mx b s) x0 = f_MO_held  s x0 := by
  unfold f_MO_held
  rfl
theorem xl_MO_total_143 {b s : am_M} {K12 : Int32 → Int32 → Int64 → Int32 → Int32 → Int32} {x0 : Int32} {x1 : Int32} {x2 : Int64} {x3 : Int32} {x4 : Int32} : f_MO_total_143 K12 (mx b s) x0 x1 x2 x3 x4 = f_MO_total_143 K12 s x0 x1 x2 x3 x4 := by
  unfold f_MO_total_143
  rfl
theorem xl_MO_total_141 {b s : am_M} {K12 : Int32 → Int32 → Int64 → Int32 → Int32 → Int32} {x0 : Int32} {x1 : Int32} {x2 : Int64} {x3 : Int32} {x4 : Int32} {x5 : Int32} {x6 : Int64} {x7 : Int64} : f_MO_total_141 K12 (mx b s) x0 x1 x2 x3 x4 x5 x6 x7 = f_MO_total_141 K12 s x0 x1 x2 x3 x4 x5 x6 x7 := by
  unfold f_MO_total_141
  simp only [xl_MO_total_143, mxC_1, mxC_2, mxC_p, mxC_i, mx_i]
theorem xl_MO_total_124 {b s : am_M} {K12 : Int32 → Int32 → Int64 → Int32 → Int32 → Int32} {x0 : Int32} {x1 : Int32} {x2 : Int64} {x3 : Int32} {x4 : Int32} {x5 : Int32} : f_MO_total_124 K12 (mx b s) x0 x1 x2 x3 x4 x5 = f_MO_total_124 K12 s x0 x1 x2 x3 x4 x5 := by
  unfold f_MO_total_124
  simp only [xl_MO_total_141, mxC_1, mxC_2, mxC_p, mxC_i, mx_i]
theorem xl_MO_total_12 {b s : am_M}  : ∀ (n : Nat), f_MO_total_12  n (mx b s) = f_MO_total_12  n s := by
  intro n
  induction n with
  | zero => rfl
  | succ n ih =>
    funext x0 x1 x2 x3 x4
    unfold f_MO_total_12
    simp only [ih, mr_212, mr_214, mr_215, mr_216, mr_217, mr_228, mr_229, mr_230, xl_MO_at, xl_MO_held, xl_MO_total_124, xl_MO_total_143, mxC_1, mxC_2, mxC_p, mxC_i, mx_i]
theorem xl_MO_total {b s : am_M}  {x0 : Int32} {x1 : Int32} : f_MO_total  (mx b s) x0 x1 = f_MO_total  s x0 x1 := by
  unfold f_MO_total
  simp only [xl_MO_firstUsed, xl_MO_total_12, mxC_1, mxC_2, mxC_p, mxC_i, mx_i]
theorem xl_MO_reckoned {b s : am_M}  {x0 : Int32} {x1 : Int32} : f_MO_reckoned  (mx b s) x0 x1 = f_MO_reckoned  s x0 x1 := by
  unfold f_MO_reckoned
  simp only [mr_214, mr_215, mr_216, mr_230, xl_MO_at, xl_MO_held, xl_MO_look, xl_MO_total, mxC_1, mxC_2, mxC_p, mxC_i, mx_i]
theorem xl_MO_reckons_71 {b : am_M} {K7 : am_M → Int32 → am_M} (hK7 : ∀ (s : am_M) (a0 : Int32), K7 (mx b s) a0 = mx b (K7 s a0)) (s : am_M) (x0 : Int32) (x1 : Int32) (x2 : Int32)  : f_MO_reckons_71 K7 (mx b s) x0 x1 x2 = mx b (f_MO_reckons_71 K7 s x0 x1 x2) := by
  unfold f_MO_reckons_71
  simp only [hK7, mxC_1, mxC_2, mxC_p, mxC_i, mx_i]
theorem xl_MO_reckons_24 {b : am_M} {K7 : am_M → Int32 → am_M} (hK7 : ∀ (s : am_M) (a0 : Int32), K7 (mx b s) a0 = mx b (K7 s a0)) : ∀ (n : Nat) (s : am_M) (x0 : Int32) (x1 : Int32) (x2 : Int32), f_MO_reckons_24 K7 n (mx b s) x0 x1 x2 = mx b (f_MO_reckons_24 K7 n s x0 x1 x2) := by
  intro n
  induction n with
  | zero => intro s x0 x1 x2 ; rfl
  | succ n ih =>
    intro s x0 x1 x2 
    unfold f_MO_reckons_24
    simp only [ih, hK7, mr_228, mr_230, ms_228, ms_230, xl_MO_reckoned, xl_MO_reckons_71 hK7, mxC_1, mxC_2, mxC_p, mxC_i, mx_i]
theorem xl_MO_reckons_7 {b : am_M}  : ∀ (n : Nat) (s : am_M) (x0 : Int32), f_MO_reckons_7  n (mx b s) x0 = mx b (f_MO_reckons_7  n s x0) := by
  intro n
  induction n with
  | zero => intro s x0 ; rfl
  | succ n ih =>
    intro s x0 
    unfold f_MO_reckons_7
    simp only [ih, mr_207, mr_220, xl_MO_reckons_24 ih, mxC_1, mxC_2, mxC_p, mxC_i, mx_i]
theorem xl_MO_reckons {b : am_M}  (s : am_M)   : f_MO_reckons  (mx b s)  = mx b (f_MO_reckons  s ) := by
  unfold f_MO_reckons
  simp only [xl_MO_laysOrder, xl_MO_reckons_7, mxC_1, mxC_2, mxC_p, mxC_i, mx_i]
theorem xl_MO_addReckoned_48 {b : am_M}  (s : am_M) (x0 : Int32) (x1 : Int32) (x2 : Int32) (x3 : Int32) (x4 : Int32) (x5 : Int32) (x6 : Int32)  : f_MO_addReckoned_48  (mx b s) x0 x1 x2 x3 x4 x5 x6 = mxC b (f_MO_addReckoned_48  s x0 x1 x2 x3 x4 x5 x6) := by
  unfold f_MO_addReckoned_48
  simp only [xl_MO_formula, xl_MO_holds, xl_MO_makesColumn, xl_MO_reckons, mxC_1, mxC_2, mxC_p, mxC_i, mx_i]
theorem xl_MO_addReckoned_46 {b : am_M}  (s : am_M) (x0 : Int32) (x1 : Int32) (x2 : Int32) (x3 : Int32) (x4 : Int32) (x5 : Int32)  : f_MO_addReckoned_46  (mx b s) x0 x1 x2 x3 x4 x5 = mxC b (f_MO_addReckoned_46  s x0 x1 x2 x3 x4 x5) := by
  unfold f_MO_addReckoned_46
  simp only [xl_MO_addReckoned_48, mxC_1, mxC_2, mxC_p, mxC_i, mx_i]
theorem xl_MO_addReckoned_23 {b : am_M}  (s : am_M) (x0 : Int32) (x1 : Int32) (x2 : Int32) (x3 : Int32) (x4 : Int32) (x5 : Int32)  : f_MO_addReckoned_23  (mx b s) x0 x1 x2 x3 x4 x5 = mxC b (f_MO_addReckoned_23  s x0 x1 x2 x3 x4 x5) := by
  unfold f_MO_addReckoned_23
  simp only [mr_208, xl_MO_addReckoned_46, xl_MO_addReckoned_48, mxC_1, mxC_2, mxC_p, mxC_i, mx_i]
theorem xl_MO_addReckoned {b : am_M}  (s : am_M) (x0 : Int32) (x1 : Int32) (x2 : Int32) (x3 : Int32) (x4 : Int32)  : f_MO_addReckoned  (mx b s) x0 x1 x2 x3 x4 = mxC b (f_MO_addReckoned  s x0 x1 x2 x3 x4) := by
  unfold f_MO_addReckoned
  simp only [xl_MO_addReckoned_23, xl_MO_errorOfFormula, xl_MO_isTable, mxC_1, mxC_2, mxC_p, mxC_i, mx_i]
theorem xl_MO_saves_66 {b : am_M}  : ∀ (n : Nat) (s : am_M) (x0 : Int32) (x1 : Int32), f_MO_saves_66  n (mx b s) x0 x1 = mx b (f_MO_saves_66  n s x0 x1) := by
  intro n
  induction n with
  | zero => intro s x0 x1 ; rfl
  | succ n ih =>
    intro s x0 x1 
    unfold f_MO_saves_66
    simp only [ih, mr_228, mr_235, ms_228, ms_235, mxC_1, mxC_2, mxC_p, mxC_i, mx_i]
theorem xl_MO_saves_64 {b : am_M}  (s : am_M) (x0 : Int32) (x1 : Int32)  : f_MO_saves_64  (mx b s) x0 x1 = mx b (f_MO_saves_64  s x0 x1) := by
  unfold f_MO_saves_64
  simp only [xl_MO_saves_66, mxC_1, mxC_2, mxC_p, mxC_i, mx_i]
theorem xl_MO_saves_35 {b : am_M}  : ∀ (n : Nat) (s : am_M) (x0 : Int32) (x1 : Int32), f_MO_saves_35  n (mx b s) x0 x1 = mx b (f_MO_saves_35  n s x0 x1) := by
  intro n
  induction n with
  | zero => intro s x0 x1 ; rfl
  | succ n ih =>
    intro s x0 x1 
    unfold f_MO_saves_35
    simp only [ih, mr_229, mr_234, ms_229, ms_234, xl_MO_saves_64, mxC_1, mxC_2, mxC_p, mxC_i, mx_i]
theorem xl_MO_saves_33 {b : am_M}  (s : am_M) (x0 : Int32) (x1 : Int32)  : f_MO_saves_33  (mx b s) x0 x1 = mx b (f_MO_saves_33  s x0 x1) := by
  unfold f_MO_saves_33
  simp only [xl_MO_saves_35, mxC_1, mxC_2, mxC_p, mxC_i, mx_i]
theorem xl_MO_saves_2 {b : am_M}  : ∀ (n : Nat) (s : am_M) (x0 : Int32) (x1 : Int32), f_MO_saves_2  n (mx b s) x0 x1 = mx b (f_MO_saves_2  n s x0 x1) := by
  intro n
  induction n with
  | zero => intro s x0 x1 ; rfl
  | succ n ih =>
    intro s x0 x1 
    unfold f_MO_saves_2
    simp only [ih, mr_230, mr_233, ms_230, ms_233, xl_MO_saves_33, mxC_1, mxC_2, mxC_p, mxC_i, mx_i]
theorem xl_MO_saves {b : am_M}  (s : am_M) (x0 : Int32)  : f_MO_saves  (mx b s) x0 = mx b (f_MO_saves  s x0) := by
  unfold f_MO_saves
  simp only [xl_MO_saves_2, mxC_1, mxC_2, mxC_p, mxC_i, mx_i]
theorem xl_MO_told {b : am_M}  (s : am_M) (x0 : Int32) (x1 : Int32) (x2 : Int32) (x3 : Int32)  : f_MO_told  (mx b s) x0 x1 x2 x3 = mxC b (f_MO_told  s x0 x1 x2 x3) := by
  unfold f_MO_told
  simp only [mr_207, ms_207, mxC_1, mxC_2, mxC_p, mxC_i, mx_i]
theorem xl_MO_isStored {b s : am_M}  {x0 : Int32} : f_MO_isStored  (mx b s) x0 = f_MO_isStored  s x0 := by
  unfold f_MO_isStored
  simp only [mr_209, mxC_1, mxC_2, mxC_p, mxC_i, mx_i]
theorem xl_MO_isRepeated_52 {b s : am_M} {K3 : Int32 → Int32 → Int32 → Int32 → Int32} {x0 : Int32} {x1 : Int32} {x2 : Int32} {x3 : Int32} : f_MO_isRepeated_52 K3 (mx b s) x0 x1 x2 x3 = f_MO_isRepeated_52 K3 s x0 x1 x2 x3 := by
  unfold f_MO_isRepeated_52
  rfl
theorem xl_MO_isRepeated_3 {b s : am_M}  : ∀ (n : Nat), f_MO_isRepeated_3  n (mx b s) = f_MO_isRepeated_3  n s := by
  intro n
  induction n with
  | zero => rfl
  | succ n ih =>
    funext x0 x1 x2 x3
    unfold f_MO_isRepeated_3
    simp only [ih, mr_229, mr_230, xl_MO_at, xl_MO_isRepeated_52, mxC_1, mxC_2, mxC_p, mxC_i, mx_i]
theorem xl_MO_isRepeated {b s : am_M}  {x0 : Int32} {x1 : Int32} {x2 : Int32} : f_MO_isRepeated  (mx b s) x0 x1 x2 = f_MO_isRepeated  s x0 x1 x2 := by
  unfold f_MO_isRepeated
  simp only [xl_MO_isRepeated_3, mxC_1, mxC_2, mxC_p, mxC_i, mx_i]
theorem xl_MO_isBroken {b s : am_M}  {x0 : Int32} {x1 : Int32} {x2 : Int32} {x3 : Int32} : f_MO_isBroken  (mx b s) x0 x1 x2 x3 = f_MO_isBroken  s x0 x1 x2 x3 := by
  unfold f_MO_isBroken
  simp only [mr_209, mr_210, mr_211, mr_212, mr_218, mr_219, mr_230, xl_MO_at, xl_MO_in, xl_MO_isRepeated, xl_MO_isRow, xl_MO_isStored, mxC_1, mxC_2, mxC_p, mxC_i, mx_i]
theorem xl_MO_doesHold_66 {b s : am_M}  {x0 : Int32} {x1 : Int32} {x2 : Int32} {x3 : Int32} {x4 : Int32} : f_MO_doesHold_66  (mx b s) x0 x1 x2 x3 x4 = f_MO_doesHold_66  s x0 x1 x2 x3 x4 := by
  unfold f_MO_doesHold_66
  rfl
theorem xl_MO_doesHold {b s : am_M}  {x0 : Int32} {x1 : Int32} : f_MO_doesHold  (mx b s) x0 x1 = f_MO_doesHold  s x0 x1 := by
  unfold f_MO_doesHold
  simp only [mr_222, mr_223, mr_224, mr_225, mr_226, mr_230, xl_MO_at, xl_MO_doesHold_66, mxC_1, mxC_2, mxC_p, mxC_i, mx_i]
theorem xl_MO_brokenIn_68 {b : am_M} {K6 : am_M → Int32 → Int32 → Int32 → Int32 → Int32 → Int32 × am_M} (hK6 : ∀ (s : am_M) (a0 : Int32) (a1 : Int32) (a2 : Int32) (a3 : Int32) (a4 : Int32), K6 (mx b s) a0 a1 a2 a3 a4 = mxC b (K6 s a0 a1 a2 a3 a4)) (s : am_M) (x0 : Int32) (x1 : Int32) (x2 : Int32) (x3 : Int32) (x4 : Int32)  : f_MO_brokenIn_68 K6 (mx b s) x0 x1 x2 x3 x4 = mxC b (f_MO_brokenIn_68 K6 s x0 x1 x2 x3 x4) := by
  unfold f_MO_brokenIn_68
  simp only [hK6, mxC_1, mxC_2, mxC_p, mxC_i, mx_i]
theorem xl_MO_brokenIn_140 {b : am_M} {K77 : am_M → Int32 → Int32 → Int32 → Int32 → Int32 → Int32 × am_M} (hK77 : ∀ (s : am_M) (a0 : Int32) (a1 : Int32) (a2 : Int32) (a3 : Int32) (a4 : Int32), K77 (mx b s) a0 a1 a2 a3 a4 = mxC b (K77 s a0 a1 a2 a3 a4)) (s : am_M) (x0 : Int32) (x1 : Int32) (x2 : Int32) (x3 : Int32) (x4 : Int32)  : f_MO_brokenIn_140 K77 (mx b s) x0 x1 x2 x3 x4 = mxC b (f_MO_brokenIn_140 K77 s x0 x1 x2 x3 x4) := by
  unfold f_MO_brokenIn_140
  simp only [hK77, mxC_1, mxC_2, mxC_p, mxC_i, mx_i]
theorem xl_MO_brokenIn_77 {b : am_M}  : ∀ (n : Nat) (s : am_M) (x0 : Int32) (x1 : Int32) (x2 : Int32) (x3 : Int32) (x4 : Int32), f_MO_brokenIn_77  n (mx b s) x0 x1 x2 x3 x4 = mxC b (f_MO_brokenIn_77  n s x0 x1 x2 x3 x4) := by
  intro n
  induction n with
  | zero => intro s x0 x1 x2 x3 x4 ; rfl
  | succ n ih =>
    intro s x0 x1 x2 x3 x4 
    unfold f_MO_brokenIn_77
    simp only [ih, mr_207, mr_222, mr_227, xl_MO_brokenIn_140 ih, xl_MO_doesHold, xl_MO_told, mxC_1, mxC_2, mxC_p, mxC_i, mx_i]
theorem xl_MO_brokenIn_74 {b : am_M}  (s : am_M) (x0 : Int32) (x1 : Int32) (x2 : Int32) (x3 : Int32) (x4 : Int32)  : f_MO_brokenIn_74  (mx b s) x0 x1 x2 x3 x4 = mxC b (f_MO_brokenIn_74  s x0 x1 x2 x3 x4) := by
  unfold f_MO_brokenIn_74
  simp only [xl_MO_brokenIn_77, mxC_1, mxC_2, mxC_p, mxC_i, mx_i]
theorem xl_MO_brokenIn_6 {b : am_M}  : ∀ (n : Nat) (s : am_M) (x0 : Int32) (x1 : Int32) (x2 : Int32) (x3 : Int32) (x4 : Int32), f_MO_brokenIn_6  n (mx b s) x0 x1 x2 x3 x4 = mxC b (f_MO_brokenIn_6  n s x0 x1 x2 x3 x4) := by
  intro n
  induction n with
  | zero => intro s x0 x1 x2 x3 x4 ; rfl
  | succ n ih =>
    intro s x0 x1 x2 x3 x4 
    unfold f_MO_brokenIn_6
    simp only [ih, mr_208, xl_MO_brokenIn_68 ih, xl_MO_brokenIn_74, xl_MO_isBroken, xl_MO_told, mxC_1, mxC_2, mxC_p, mxC_i, mx_i]

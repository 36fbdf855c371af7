theorem xl_MO_brokenIn {b : am_M}  (s : am_M) (x0 : Int32) (x1 : Int32) (x2 : Int32)  : f_MO_brokenIn  (mx b s) x0 x1 x2 = mxC b (f_MO_brokenIn  s x0 x1 x2) := by
  unfold f_MO_brokenIn
  simp only [xl_MO_brokenIn_6, mxC_1, mxC_2, mxC_p, mxC_i, mx_i]
theorem xl_MO_allBroken_50 {b : am_M} {K4 : am_M → Int32 → Int32 → Int32 → Int32 × am_M} (hK4 : ∀ (s : am_M) (a0 : Int32) (a1 : Int32) (a2 : Int32), K4 (mx b s) a0 a1 a2 = mxC b (K4 s a0 a1 a2)) (s : am_M) (x0 : Int32) (x1 : Int32) (x2 : Int32) (x3 : Int32) (x4 : Int32)  : f_MO_allBroken_50 K4 (mx b s) x0 x1 x2 x3 x4 = mxC b (f_MO_allBroken_50 K4 s x0 x1 x2 x3 x4) := by
  unfold f_MO_allBroken_50
  simp only [hK4, mxC_1, mxC_2, mxC_p, mxC_i, mx_i]
theorem xl_MO_allBroken_23 {b : am_M} {K4 : am_M → Int32 → Int32 → Int32 → Int32 × am_M} (hK4 : ∀ (s : am_M) (a0 : Int32) (a1 : Int32) (a2 : Int32), K4 (mx b s) a0 a1 a2 = mxC b (K4 s a0 a1 a2)) (s : am_M) (x0 : Int32) (x1 : Int32) (x2 : Int32)  : f_MO_allBroken_23 K4 (mx b s) x0 x1 x2 = mxC b (f_MO_allBroken_23 K4 s x0 x1 x2) := by
  unfold f_MO_allBroken_23
  simp only [hK4, mr_229, xl_MO_allBroken_50 hK4, xl_MO_brokenIn, mxC_1, mxC_2, mxC_p, mxC_i, mx_i]
theorem xl_MO_allBroken_4 {b : am_M}  : ∀ (n : Nat) (s : am_M) (x0 : Int32) (x1 : Int32) (x2 : Int32), f_MO_allBroken_4  n (mx b s) x0 x1 x2 = mxC b (f_MO_allBroken_4  n s x0 x1 x2) := by
  intro n
  induction n with
  | zero => intro s x0 x1 x2 ; rfl
  | succ n ih =>
    intro s x0 x1 x2 
    unfold f_MO_allBroken_4
    simp only [ih, mr_207, xl_MO_allBroken_23 ih, mxC_1, mxC_2, mxC_p, mxC_i, mx_i]
theorem xl_MO_allBroken {b : am_M}  (s : am_M) (x0 : Int32)  : f_MO_allBroken  (mx b s) x0 = mxC b (f_MO_allBroken  s x0) := by
  unfold f_MO_allBroken
  simp only [xl_MO_allBroken_4, mxC_1, mxC_2, mxC_p, mxC_i, mx_i]
theorem xl_MO_isWhole {b : am_M}  (s : am_M)   : f_MO_isWhole  (mx b s)  = mxC b (f_MO_isWhole  s ) := by
  unfold f_MO_isWhole
  simp only [xl_MO_allBroken, xl_MO_reckons, xl_MO_told, mxC_1, mxC_2, mxC_p, mxC_i, mx_i]
theorem xl_MO_restores_66 {b : am_M}  : ∀ (n : Nat) (s : am_M) (x0 : Int32) (x1 : Int32), f_MO_restores_66  n (mx b s) x0 x1 = mx b (f_MO_restores_66  n s x0 x1) := by
  intro n
  induction n with
  | zero => intro s x0 x1 ; rfl
  | succ n ih =>
    intro s x0 x1 
    unfold f_MO_restores_66
    simp only [ih, mr_228, mr_235, ms_228, ms_235, mxC_1, mxC_2, mxC_p, mxC_i, mx_i]
theorem xl_MO_restores_64 {b : am_M}  (s : am_M) (x0 : Int32) (x1 : Int32)  : f_MO_restores_64  (mx b s) x0 x1 = mx b (f_MO_restores_64  s x0 x1) := by
  unfold f_MO_restores_64
  simp only [xl_MO_restores_66, mxC_1, mxC_2, mxC_p, mxC_i, mx_i]
theorem xl_MO_restores_35 {b : am_M}  : ∀ (n : Nat) (s : am_M) (x0 : Int32) (x1 : Int32), f_MO_restores_35  n (mx b s) x0 x1 = mx b (f_MO_restores_35  n s x0 x1) := by
  intro n
  induction n with
  | zero => intro s x0 x1 ; rfl
  | succ n ih =>
    intro s x0 x1 
    unfold f_MO_restores_35
    simp only [ih, mr_229, mr_234, ms_229, ms_234, xl_MO_restores_64, mxC_1, mxC_2, mxC_p, mxC_i, mx_i]
theorem xl_MO_restores_33 {b : am_M}  (s : am_M) (x0 : Int32) (x1 : Int32)  : f_MO_restores_33  (mx b s) x0 x1 = mx b (f_MO_restores_33  s x0 x1) := by
  unfold f_MO_restores_33
  simp only [xl_MO_restores_35, mxC_1, mxC_2, mxC_p, mxC_i, mx_i]
theorem xl_MO_restores_2 {b : am_M}  : ∀ (n : Nat) (s : am_M) (x0 : Int32) (x1 : Int32), f_MO_restores_2  n (mx b s) x0 x1 = mx b (f_MO_restores_2  n s x0 x1) := by
  intro n
  induction n with
  | zero => intro s x0 x1 ; rfl
  | succ n ih =>
    intro s x0 x1 
    unfold f_MO_restores_2
    simp only [ih, mr_230, mr_233, ms_230, ms_233, xl_MO_restores_33, mxC_1, mxC_2, mxC_p, mxC_i, mx_i]
theorem xl_MO_restores {b : am_M}  (s : am_M) (x0 : Int32)  : f_MO_restores  (mx b s) x0 = mx b (f_MO_restores  s x0) := by
  unfold f_MO_restores
  simp only [xl_MO_restores_2, mxC_1, mxC_2, mxC_p, mxC_i, mx_i]
theorem xl_MO_isKept {b : am_M}  (s : am_M)   : f_MO_isKept  (mx b s)  = mxC b (f_MO_isKept  s ) := by
  unfold f_MO_isKept
  simp only [xl_MO_isWhole, xl_MO_restores, mxC_1, mxC_2, mxC_p, mxC_i, mx_i]
theorem xl_MO_isChanged {b : am_M}  (s : am_M) (x0 : Int32)  : f_MO_isChanged  (mx b s) x0 = mxC b (f_MO_isChanged  s x0) := by
  unfold f_MO_isChanged
  simp only [mr_207, ms_207, mxC_1, mxC_2, mxC_p, mxC_i, mx_i]
theorem xl_MO_addRule_115 {b : am_M}  (s : am_M) (x0 : Int32) (x1 : Int32) (x2 : Int32) (x3 : Int32) (x4 : Int32) (x5 : Int32) (x6 : Int32) (x7 : Int32)  : f_MO_addRule_115  (mx b s) x0 x1 x2 x3 x4 x5 x6 x7 = mxC b (f_MO_addRule_115  s x0 x1 x2 x3 x4 x5 x6 x7) := by
  unfold f_MO_addRule_115
  simp only [mr_207, mr_222, mr_223, mr_224, mr_225, mr_226, mr_227, ms_207, ms_222, ms_223, ms_224, ms_225, ms_226, ms_227, xl_MO_holds, xl_MO_isChanged, xl_MO_isKept, xl_MO_saves, mxC_1, mxC_2, mxC_p, mxC_i, mx_i]
theorem xl_MO_addRule_80 {b : am_M}  (s : am_M) (x0 : Int32) (x1 : Int32) (x2 : Int32) (x3 : Int32) (x4 : Int32) (x5 : Int32) (x6 : Int32)  : f_MO_addRule_80  (mx b s) x0 x1 x2 x3 x4 x5 x6 = mxC b (f_MO_addRule_80  s x0 x1 x2 x3 x4 x5 x6) := by
  unfold f_MO_addRule_80
  simp only [mr_207, xl_MO_addRule_115, mxC_1, mxC_2, mxC_p, mxC_i, mx_i]
theorem xl_MO_addRule_79 {b : am_M}  (s : am_M) (x0 : Int32) (x1 : Int32) (x2 : Int32) (x3 : Int32) (x4 : Int32) (x5 : Int32)  : f_MO_addRule_79  (mx b s) x0 x1 x2 x3 x4 x5 = mxC b (f_MO_addRule_79  s x0 x1 x2 x3 x4 x5) := by
  unfold f_MO_addRule_79
  simp only [xl_MO_addRule_80, mxC_1, mxC_2, mxC_p, mxC_i, mx_i]
theorem xl_MO_addRule_24 {b : am_M}  (s : am_M) (x0 : Int32) (x1 : Int32) (x2 : Int32) (x3 : Int32) (x4 : Int32) (x5 : Int32)  : f_MO_addRule_24  (mx b s) x0 x1 x2 x3 x4 x5 = mxC b (f_MO_addRule_24  s x0 x1 x2 x3 x4 x5) := by
  unfold f_MO_addRule_24
  simp only [xl_MO_addRule_79, xl_MO_addRule_80, xl_MO_in, xl_MO_kindOf, mxC_1, mxC_2, mxC_p, mxC_i, mx_i]
theorem xl_MO_addRule_23 {b : am_M}  (s : am_M) (x0 : Int32) (x1 : Int32) (x2 : Int32) (x3 : Int32) (x4 : Int32)  : f_MO_addRule_23  (mx b s) x0 x1 x2 x3 x4 = mxC b (f_MO_addRule_23  s x0 x1 x2 x3 x4) := by
  unfold f_MO_addRule_23
  simp only [xl_MO_addRule_24, mxC_1, mxC_2, mxC_p, mxC_i, mx_i]
theorem xl_MO_addRule {b : am_M}  (s : am_M) (x0 : Int32) (x1 : Int32) (x2 : Int32) (x3 : Int32) (x4 : Int32)  : f_MO_addRule  (mx b s) x0 x1 x2 x3 x4 = mxC b (f_MO_addRule  s x0 x1 x2 x3 x4) := by
  unfold f_MO_addRule
  simp only [xl_MO_addRule_23, xl_MO_addRule_24, xl_MO_isColumn, mxC_1, mxC_2, mxC_p, mxC_i, mx_i]
theorem xl_MO_addTable_14 {b : am_M}  (s : am_M) (x0 : Int32)  : f_MO_addTable_14  (mx b s) x0 = mxC b (f_MO_addTable_14  s x0) := by
  unfold f_MO_addTable_14
  simp only [mr_207, ms_207, xl_MO_holds, mxC_1, mxC_2, mxC_p, mxC_i, mx_i]
theorem xl_MO_addTable {b : am_M}  (s : am_M)   : f_MO_addTable  (mx b s)  = mxC b (f_MO_addTable  s ) := by
  unfold f_MO_addTable
  simp only [mr_207, xl_MO_addTable_14, mxC_1, mxC_2, mxC_p, mxC_i, mx_i]
theorem xl_MO_addsStep_83 {b : am_M}  (s : am_M) (x0 : Int32) (x1 : Int32) (x2 : Int32) (x3 : Int32) (x4 : Int32) (x5 : Int32) (x6 : Int32)  : f_MO_addsStep_83  (mx b s) x0 x1 x2 x3 x4 x5 x6 = mxC b (f_MO_addsStep_83  s x0 x1 x2 x3 x4 x5 x6) := by
  unfold f_MO_addsStep_83
  simp only [mr_255, ms_255, mxC_1, mxC_2, mxC_p, mxC_i, mx_i]
theorem xl_MO_addsStep_50 {b : am_M}  : ∀ (n : Nat) (s : am_M) (x0 : Int32) (x1 : Int32) (x2 : Int32) (x3 : Int32) (x4 : Int32) (x5 : Int32) (x6 : Int32), f_MO_addsStep_50  n (mx b s) x0 x1 x2 x3 x4 x5 x6 = mxC b (f_MO_addsStep_50  n s x0 x1 x2 x3 x4 x5 x6) := by
  intro n
  induction n with
  | zero => intro s x0 x1 x2 x3 x4 x5 x6 ; rfl
  | succ n ih =>
    intro s x0 x1 x2 x3 x4 x5 x6 
    unfold f_MO_addsStep_50
    simp only [ih, mr_231, mr_260, ms_231, ms_260, xl_MO_addsStep_83, mxC_1, mxC_2, mxC_p, mxC_i, mx_i]
theorem xl_MO_addsStep {b : am_M}  (s : am_M) (x0 : Int32) (x1 : Int32) (x2 : Int32) (x3 : Int32) (x4 : Int32)  : f_MO_addsStep  (mx b s) x0 x1 x2 x3 x4 = mxC b (f_MO_addsStep  s x0 x1 x2 x3 x4) := by
  unfold f_MO_addsStep
  simp only [mr_255, mr_256, mr_257, mr_258, mr_259, ms_255, ms_256, ms_257, ms_258, ms_259, xl_MO_addsStep_50, mxC_1, mxC_2, mxC_p, mxC_i, mx_i]
theorem xl_MO_isQuestion {b s : am_M}  {x0 : Int32} : f_MO_isQuestion  (mx b s) x0 = f_MO_isQuestion  s x0 := by
  unfold f_MO_isQuestion
  simp only [mr_207, xl_MO_in, mxC_1, mxC_2, mxC_p, mxC_i, mx_i]
theorem xl_MO_laysTable_126 {b : am_M} {K26 : am_M → Int32 → Int32 → Int32 → am_M} (hK26 : ∀ (s : am_M) (a0 : Int32) (a1 : Int32) (a2 : Int32), K26 (mx b s) a0 a1 a2 = mx b (K26 s a0 a1 a2)) (s : am_M) (x0 : Int32) (x1 : Int32) (x2 : Int32)  : f_MO_laysTable_126 K26 (mx b s) x0 x1 x2 = mx b (f_MO_laysTable_126 K26 s x0 x1 x2) := by
  unfold f_MO_laysTable_126
  simp only [hK26, mxC_1, mxC_2, mxC_p, mxC_i, mx_i]
theorem xl_MO_laysTable_116 {b : am_M} {K26 : am_M → Int32 → Int32 → Int32 → am_M} (hK26 : ∀ (s : am_M) (a0 : Int32) (a1 : Int32) (a2 : Int32), K26 (mx b s) a0 a1 a2 = mx b (K26 s a0 a1 a2)) (s : am_M) (x0 : Int32) (x1 : Int32) (x2 : Int32) (x3 : Int32) (x4 : Int32)  : f_MO_laysTable_116 K26 (mx b s) x0 x1 x2 x3 x4 = mx b (f_MO_laysTable_116 K26 s x0 x1 x2 x3 x4) := by
  unfold f_MO_laysTable_116
  simp only [hK26, mr_248, ms_248, xl_MO_laysTable_126 hK26, mxC_1, mxC_2, mxC_p, mxC_i, mx_i]
theorem xl_MO_laysTable_70 {b : am_M} {K26 : am_M → Int32 → Int32 → Int32 → am_M} (hK26 : ∀ (s : am_M) (a0 : Int32) (a1 : Int32) (a2 : Int32), K26 (mx b s) a0 a1 a2 = mx b (K26 s a0 a1 a2)) : ∀ (n : Nat) (s : am_M) (x0 : Int32) (x1 : Int32) (x2 : Int32) (x3 : Int32) (x4 : Int32), f_MO_laysTable_70 K26 n (mx b s) x0 x1 x2 x3 x4 = mx b (f_MO_laysTable_70 K26 n s x0 x1 x2 x3 x4) := by
  intro n
  induction n with
  | zero => intro s x0 x1 x2 x3 x4 ; rfl
  | succ n ih =>
    intro s x0 x1 x2 x3 x4 
    unfold f_MO_laysTable_70
    simp only [ih, hK26, mr_230, mr_250, mr_251, ms_230, ms_250, ms_251, xl_MO_at, xl_MO_laysTable_116 hK26, mxC_1, mxC_2, mxC_p, mxC_i, mx_i]
theorem xl_MO_laysTable_26 {b : am_M}  : ∀ (n : Nat) (s : am_M) (x0 : Int32) (x1 : Int32) (x2 : Int32), f_MO_laysTable_26  n (mx b s) x0 x1 x2 = mx b (f_MO_laysTable_26  n s x0 x1 x2) := by
  intro n
  induction n with
  | zero => intro s x0 x1 x2 ; rfl
  | succ n ih =>
    intro s x0 x1 x2 
    unfold f_MO_laysTable_26
    simp only [ih, mr_228, mr_229, mr_248, xl_MO_laysTable_126 ih, xl_MO_laysTable_70 ih, mxC_1, mxC_2, mxC_p, mxC_i, mx_i]
theorem xl_MO_laysTable {b : am_M}  (s : am_M) (x0 : Int32)  : f_MO_laysTable  (mx b s) x0 = mx b (f_MO_laysTable  s x0) := by
  unfold f_MO_laysTable
  simp only [mr_208, mr_248, mr_249, ms_208, ms_248, ms_249, xl_MO_laysTable_26, mxC_1, mxC_2, mxC_p, mxC_i, mx_i]
theorem xl_MO_slotOf {b s : am_M}  {x0 : Int32} : f_MO_slotOf  (mx b s) x0 = f_MO_slotOf  s x0 := by
  unfold f_MO_slotOf
  rfl
theorem xl_MO_doesMeet_23 {b s : am_M}  {x0 : Int32} {x1 : Int32} {x2 : Int32} : f_MO_doesMeet_23  (mx b s) x0 x1 x2 = f_MO_doesMeet_23  s x0 x1 x2 := by
  unfold f_MO_doesMeet_23
  simp only [mr_246, mxC_1, mxC_2, mxC_p, mxC_i, mx_i]
theorem xl_MO_doesMeet {b s : am_M}  {x0 : Int32} {x1 : Int32} : f_MO_doesMeet  (mx b s) x0 x1 = f_MO_doesMeet  s x0 x1 := by
  unfold f_MO_doesMeet
  simp only [mr_246, mr_247, xl_MO_doesMeet_23, mxC_1, mxC_2, mxC_p, mxC_i, mx_i]
theorem xl_MO_doesCount_121 {b s : am_M} {K18 : Int32 → Int32 → Int32 → Int32 → Int32} {K36 : Int32 → Int32 → Int32 → Int32 → Int32 → Int32 → Int32 → Int32} {x0 : Int32} {x1 : Int32} {x2 : Int32} {x3 : Int32} {x4 : Int32} {x5 : Int32} {x6 : Int32} {x7 : Int32} : f_MO_doesCount_121 K18 K36 (mx b s) x0 x1 x2 x3 x4 x5 x6 x7 = f_MO_doesCount_121 K18 K36 s x0 x1 x2 x3 x4 x5 x6 x7 := by
  unfold f_MO_doesCount_121
  rfl
theorem xl_MO_doesCount_116 {b s : am_M} {K18 : Int32 → Int32 → Int32 → Int32 → Int32} {K36 : Int32 → Int32 → Int32 → Int32 → Int32 → Int32 → Int32 → Int32} {x0 : Int32} {x1 : Int32} {x2 : Int32} {x3 : Int32} {x4 : Int32} {x5 : Int32} {x6 : Int32} : f_MO_doesCount_116 K18 K36 (mx b s) x0 x1 x2 x3 x4 x5 x6 = f_MO_doesCount_116 K18 K36 s x0 x1 x2 x3 x4 x5 x6 := by
  unfold f_MO_doesCount_116
  simp only [xl_MO_doesCount_121, mxC_1, mxC_2, mxC_p, mxC_i, mx_i]
theorem xl_MO_doesCount_120 {b s : am_M} {K18 : Int32 → Int32 → Int32 → Int32 → Int32} {K36 : Int32 → Int32 → Int32 → Int32 → Int32 → Int32 → Int32 → Int32} {x0 : Int32} {x1 : Int32} {x2 : Int32} {x3 : Int32} {x4 : Int32} {x5 : Int32} {x6 : Int32} : f_MO_doesCount_120 K18 K36 (mx b s) x0 x1 x2 x3 x4 x5 x6 = f_MO_doesCount_120 K18 K36 s x0 x1 x2 x3 x4 x5 x6 := by
  unfold f_MO_doesCount_120
  simp only [xl_MO_doesCount_121, mxC_1, mxC_2, mxC_p, mxC_i, mx_i]
theorem xl_MO_doesCount_74 {b s : am_M} {K18 : Int32 → Int32 → Int32 → Int32 → Int32} {K36 : Int32 → Int32 → Int32 → Int32 → Int32 → Int32 → Int32 → Int32} {x0 : Int32} {x1 : Int32} {x2 : Int32} {x3 : Int32} {x4 : Int32} {x5 : Int32} {x6 : Int32} {x7 : Int32} : f_MO_doesCount_74 K18 K36 (mx b s) x0 x1 x2 x3 x4 x5 x6 x7 = f_MO_doesCount_74 K18 K36 s x0 x1 x2 x3 x4 x5 x6 x7 := by
  unfold f_MO_doesCount_74
  simp only [mr_244, mr_245, mr_250, xl_MO_doesCount_116, xl_MO_doesCount_120, xl_MO_doesMeet, mxC_1, mxC_2, mxC_p, mxC_i, mx_i]
theorem xl_MO_doesCount_69 {b s : am_M} {K18 : Int32 → Int32 → Int32 → Int32 → Int32} {K36 : Int32 → Int32 → Int32 → Int32 → Int32 → Int32 → Int32 → Int32} {x0 : Int32} {x1 : Int32} {x2 : Int32} {x3 : Int32} {x4 : Int32} {x5 : Int32} {x6 : Int32} : f_MO_doesCount_69 K18 K36 (mx b s) x0 x1 x2 x3 x4 x5 x6 = f_MO_doesCount_69 K18 K36 s x0 x1 x2 x3 x4 x5 x6 := by
  unfold f_MO_doesCount_69
  simp only [xl_MO_doesCount_74, mxC_1, mxC_2, mxC_p, mxC_i, mx_i]
theorem xl_MO_doesCount_148 {b s : am_M} {K18 : Int32 → Int32 → Int32 → Int32 → Int32} {x0 : Int32} {x1 : Int32} {x2 : Int32} {x3 : Int32} {x4 : Int32} {x5 : Int32} {x6 : Int32} {x7 : Int32} : f_MO_doesCount_148 K18 (mx b s) x0 x1 x2 x3 x4 x5 x6 x7 = f_MO_doesCount_148 K18 s x0 x1 x2 x3 x4 x5 x6 x7 := by
  unfold f_MO_doesCount_148
  rfl
theorem xl_MO_doesCount_143 {b s : am_M} {K18 : Int32 → Int32 → Int32 → Int32 → Int32} {x0 : Int32} {x1 : Int32} {x2 : Int32} {x3 : Int32} {x4 : Int32} {x5 : Int32} {x6 : Int32} : f_MO_doesCount_143 K18 (mx b s) x0 x1 x2 x3 x4 x5 x6 = f_MO_doesCount_143 K18 s x0 x1 x2 x3 x4 x5 x6 := by
  unfold f_MO_doesCount_143
  simp only [xl_MO_doesCount_148, mxC_1, mxC_2, mxC_p, mxC_i, mx_i]
theorem xl_MO_doesCount_147 {b s : am_M} {K18 : Int32 → Int32 → Int32 → Int32 → Int32} {x0 : Int32} {x1 : Int32} {x2 : Int32} {x3 : Int32} {x4 : Int32} {x5 : Int32} {x6 : Int32} : f_MO_doesCount_147 K18 (mx b s) x0 x1 x2 x3 x4 x5 x6 = f_MO_doesCount_147 K18 s x0 x1 x2 x3 x4 x5 x6 := by
  unfold f_MO_doesCount_147
  simp only [xl_MO_doesCount_148, mxC_1, mxC_2, mxC_p, mxC_i, mx_i]
theorem xl_MO_doesCount_129 {b s : am_M} {K18 : Int32 → Int32 → Int32 → Int32 → Int32} {x0 : Int32} {x1 : Int32} {x2 : Int32} {x3 : Int32} {x4 : Int32} {x5 : Int32} {x6 : Int32} : f_MO_doesCount_129 K18 (mx b s) x0 x1 x2 x3 x4 x5 x6 = f_MO_doesCount_129 K18 s x0 x1 x2 x3 x4 x5 x6 := by
  unfold f_MO_doesCount_129
  simp only [xl_MO_doesCount_143, xl_MO_doesCount_147, mxC_1, mxC_2, mxC_p, mxC_i, mx_i]
theorem xl_MO_doesCount_36 {b s : am_M} {K18 : Int32 → Int32 → Int32 → Int32 → Int32} : ∀ (n : Nat), f_MO_doesCount_36 K18 n (mx b s) = f_MO_doesCount_36 K18 n s := by
  intro n
  induction n with
  | zero => rfl
  | succ n ih =>
    funext x0 x1 x2 x3 x4 x5 x6
    unfold f_MO_doesCount_36
    simp only [ih, mr_243, mr_244, xl_MO_doesCount_129, xl_MO_doesCount_69, xl_MO_doesCount_74, mxC_1, mxC_2, mxC_p, mxC_i, mx_i]
theorem xl_MO_doesCount_18 {b s : am_M}  : ∀ (n : Nat), f_MO_doesCount_18  n (mx b s) = f_MO_doesCount_18  n s := by
  intro n
  induction n with
  | zero => rfl
  | succ n ih =>
    funext x0 x1 x2 x3
    unfold f_MO_doesCount_18
    simp only [ih, xl_MO_doesCount_36, mxC_1, mxC_2, mxC_p, mxC_i, mx_i]
theorem xl_MO_doesCount_14 {b s : am_M}  {x0 : Int32} {x1 : Int32} {x2 : Int32} : f_MO_doesCount_14  (mx b s) x0 x1 x2 = f_MO_doesCount_14  s x0 x1 x2 := by
  unfold f_MO_doesCount_14
  simp only [xl_MO_doesCount_18, mxC_1, mxC_2, mxC_p, mxC_i, mx_i]
theorem xl_MO_doesCount {b s : am_M}  {x0 : Int32} {x1 : Int32} : f_MO_doesCount  (mx b s) x0 x1 = f_MO_doesCount  s x0 x1 := by
  unfold f_MO_doesCount
  simp only [mr_243, xl_MO_doesCount_14, mxC_1, mxC_2, mxC_p, mxC_i, mx_i]
theorem xl_MO_originOf {b s : am_M}  {x0 : Int32} {x1 : Int32} : f_MO_originOf  (mx b s) x0 x1 = f_MO_originOf  s x0 x1 := by
  unfold f_MO_originOf
  simp only [mr_252, mxC_1, mxC_2, mxC_p, mxC_i, mx_i]
theorem xl_MO_laysAnswer_200 {b : am_M}  (s : am_M) (x0 : Int32) (x1 : Int32) (x2 : Int32) (x3 : Int32) (x4 : Int32) (x5 : Int32)  : f_MO_laysAnswer_200  (mx b s) x0 x1 x2 x3 x4 x5 = mxC b (f_MO_laysAnswer_200  s x0 x1 x2 x3 x4 x5) := by
  unfold f_MO_laysAnswer_200
  simp only [xl_MO_doesCount, mxC_1, mxC_2, mxC_p, mxC_i, mx_i]
theorem xl_MO_laysAnswer_135 {b : am_M}  : ∀ (n : Nat) (s : am_M) (x0 : Int32) (x1 : Int32) (x2 : Int32) (x3 : Int32) (x4 : Int32) (x5 : Int32), f_MO_laysAnswer_135  n (mx b s) x0 x1 x2 x3 x4 x5 = mxC b (f_MO_laysAnswer_135  n s x0 x1 x2 x3 x4 x5) := by
  intro n
  induction n with
  | zero => intro s x0 x1 x2 x3 x4 x5 ; rfl
  | succ n ih =>
    intro s x0 x1 x2 x3 x4 x5 
    unfold f_MO_laysAnswer_135
    simp only [ih, mr_230, mr_238, mr_249, mr_250, mr_251, ms_230, ms_238, ms_249, ms_250, ms_251, xl_MO_at, xl_MO_laysAnswer_200, mxC_1, mxC_2, mxC_p, mxC_i, mx_i]
theorem xl_MO_laysAnswer_72 {b : am_M}  (s : am_M) (x0 : Int32) (x1 : Int32) (x2 : Int32) (x3 : Int32)  : f_MO_laysAnswer_72  (mx b s) x0 x1 x2 x3 = mxC b (f_MO_laysAnswer_72  s x0 x1 x2 x3) := by
  unfold f_MO_laysAnswer_72
  simp only [mr_212, mr_237, mr_238, mr_239, mr_250, xl_MO_doesCount, xl_MO_laysAnswer_135, xl_MO_originOf, mxC_1, mxC_2, mxC_p, mxC_i, mx_i]
theorem xl_MO_laysAnswer_19 {b : am_M}  : ∀ (n : Nat) (s : am_M) (x0 : Int32) (x1 : Int32) (x2 : Int32) (x3 : Int32), f_MO_laysAnswer_19  n (mx b s) x0 x1 x2 x3 = mxC b (f_MO_laysAnswer_19  n s x0 x1 x2 x3) := by
  intro n
  induction n with
  | zero => intro s x0 x1 x2 x3 ; rfl
  | succ n ih =>
    intro s x0 x1 x2 x3 
    unfold f_MO_laysAnswer_19
    simp only [ih, mr_238, mr_250, mr_251, ms_238, ms_250, ms_251, xl_MO_laysAnswer_72, mxC_1, mxC_2, mxC_p, mxC_i, mx_i]
theorem xl_MO_laysAnswer {b : am_M}  (s : am_M) (x0 : Int32) (x1 : Int32)  : f_MO_laysAnswer  (mx b s) x0 x1 = mxC b (f_MO_laysAnswer  s x0 x1) := by
  unfold f_MO_laysAnswer
  simp only [mr_248, xl_MO_laysAnswer_19, mxC_1, mxC_2, mxC_p, mxC_i, mx_i]
theorem xl_MO_laysPlain_59 {b : am_M} {K19 : am_M → Int32 → Int32 → Int32 → am_M} (hK19 : ∀ (s : am_M) (a0 : Int32) (a1 : Int32) (a2 : Int32), K19 (mx b s) a0 a1 a2 = mx b (K19 s a0 a1 a2)) (s : am_M) (x0 : Int32) (x1 : Int32) (x2 : Int32) (x3 : Int32) (x4 : Int32) (x5 : Int32)  : f_MO_laysPlain_59 K19 (mx b s) x0 x1 x2 x3 x4 x5 = mx b (f_MO_laysPlain_59 K19 s x0 x1 x2 x3 x4 x5) := by
  unfold f_MO_laysPlain_59
  simp only [hK19, mr_248, ms_248, mxC_1, mxC_2, mxC_p, mxC_i, mx_i]
theorem xl_MO_laysPlain_19 {b : am_M}  : ∀ (n : Nat) (s : am_M) (x0 : Int32) (x1 : Int32) (x2 : Int32), f_MO_laysPlain_19  n (mx b s) x0 x1 x2 = mx b (f_MO_laysPlain_19  n s x0 x1 x2) := by
  intro n
  induction n with
  | zero => intro s x0 x1 x2 ; rfl
  | succ n ih =>
    intro s x0 x1 x2 
    unfold f_MO_laysPlain_19
    simp only [ih, mr_248, xl_MO_laysAnswer, xl_MO_laysPlain_59 ih, mxC_1, mxC_2, mxC_p, mxC_i, mx_i]
theorem xl_MO_laysPlain {b : am_M}  (s : am_M) (x0 : Int32)  : f_MO_laysPlain  (mx b s) x0 = mx b (f_MO_laysPlain  s x0) := by
  unfold f_MO_laysPlain
  simp only [mr_237, mr_248, ms_237, ms_248, xl_MO_laysPlain_19, xl_MO_slotOf, mxC_1, mxC_2, mxC_p, mxC_i, mx_i]
theorem xl_MO_laysKeys_142 {b : am_M} {K7 : am_M → Int32 → Int32 → Int32 → am_M} (hK7 : ∀ (s : am_M) (a0 : Int32) (a1 : Int32) (a2 : Int32), K7 (mx b s) a0 a1 a2 = mx b (K7 s a0 a1 a2)) (s : am_M) (x0 : Int32) (x1 : Int32) (x2 : Int32) (x3 : Int32) (x4 : Int32)  : f_MO_laysKeys_142 K7 (mx b s) x0 x1 x2 x3 x4 = mx b (f_MO_laysKeys_142 K7 s x0 x1 x2 x3 x4) := by
  unfold f_MO_laysKeys_142
  simp only [hK7, mxC_1, mxC_2, mxC_p, mxC_i, mx_i]
theorem xl_MO_laysKeys_123 {b : am_M} {K7 : am_M → Int32 → Int32 → Int32 → am_M} (hK7 : ∀ (s : am_M) (a0 : Int32) (a1 : Int32) (a2 : Int32), K7 (mx b s) a0 a1 a2 = mx b (K7 s a0 a1 a2)) (s : am_M) (x0 : Int32) (x1 : Int32) (x2 : Int32) (x3 : Int32) (x4 : Int32) (x5 : Int32)  : f_MO_laysKeys_123 K7 (mx b s) x0 x1 x2 x3 x4 x5 = mx b (f_MO_laysKeys_123 K7 s x0 x1 x2 x3 x4 x5) := by
  unfold f_MO_laysKeys_123
  simp only [hK7, mr_207, mr_254, ms_207, ms_254, xl_MO_laysKeys_142 hK7, mxC_1, mxC_2, mxC_p, mxC_i, mx_i]
theorem xl_MO_laysKeys_94 {b : am_M} {K7 : am_M → Int32 → Int32 → Int32 → am_M} (hK7 : ∀ (s : am_M) (a0 : Int32) (a1 : Int32) (a2 : Int32), K7 (mx b s) a0 a1 a2 = mx b (K7 s a0 a1 a2)) : ∀ (n : Nat) (s : am_M) (x0 : Int32) (x1 : Int32) (x2 : Int32) (x3 : Int32) (x4 : Int32) (x5 : Int32), f_MO_laysKeys_94 K7 n (mx b s) x0 x1 x2 x3 x4 x5 = mx b (f_MO_laysKeys_94 K7 n s x0 x1 x2 x3 x4 x5) := by
  intro n
  induction n with
  | zero => intro s x0 x1 x2 x3 x4 x5 ; rfl
  | succ n ih =>
    intro s x0 x1 x2 x3 x4 x5 
    unfold f_MO_laysKeys_94
    simp only [ih, hK7, mr_254, ms_254, xl_MO_laysKeys_123 hK7, mxC_1, mxC_2, mxC_p, mxC_i, mx_i]
theorem xl_MO_laysKeys_88 {b : am_M} {K7 : am_M → Int32 → Int32 → Int32 → am_M} (hK7 : ∀ (s : am_M) (a0 : Int32) (a1 : Int32) (a2 : Int32), K7 (mx b s) a0 a1 a2 = mx b (K7 s a0 a1 a2)) (s : am_M) (x0 : Int32) (x1 : Int32) (x2 : Int32) (x3 : Int32) (x4 : Int32)  : f_MO_laysKeys_88 K7 (mx b s) x0 x1 x2 x3 x4 = mx b (f_MO_laysKeys_88 K7 s x0 x1 x2 x3 x4) := by
  unfold f_MO_laysKeys_88
  simp only [hK7, mr_207, xl_MO_laysKeys_94 hK7, mxC_1, mxC_2, mxC_p, mxC_i, mx_i]
theorem xl_MO_laysKeys_67 {b : am_M} {K7 : am_M → Int32 → Int32 → Int32 → am_M} (hK7 : ∀ (s : am_M) (a0 : Int32) (a1 : Int32) (a2 : Int32), K7 (mx b s) a0 a1 a2 = mx b (K7 s a0 a1 a2)) (s : am_M) (x0 : Int32) (x1 : Int32) (x2 : Int32) (x3 : Int32) (x4 : Int32)  : f_MO_laysKeys_67 K7 (mx b s) x0 x1 x2 x3 x4 = mx b (f_MO_laysKeys_67 K7 s x0 x1 x2 x3 x4) := by
  unfold f_MO_laysKeys_67
  simp only [hK7, mr_207, mr_254, xl_MO_laysKeys_142 hK7, xl_MO_laysKeys_88 hK7, mxC_1, mxC_2, mxC_p, mxC_i, mx_i]
theorem xl_MO_laysKeys_42 {b : am_M} {K7 : am_M → Int32 → Int32 → Int32 → am_M} (hK7 : ∀ (s : am_M) (a0 : Int32) (a1 : Int32) (a2 : Int32), K7 (mx b s) a0 a1 a2 = mx b (K7 s a0 a1 a2)) : ∀ (n : Nat) (s : am_M) (x0 : Int32) (x1 : Int32) (x2 : Int32) (x3 : Int32) (x4 : Int32), f_MO_laysKeys_42 K7 n (mx b s) x0 x1 x2 x3 x4 = mx b (f_MO_laysKeys_42 K7 n s x0 x1 x2 x3 x4) := by
  intro n
  induction n with
  | zero => intro s x0 x1 x2 x3 x4 ; rfl
  | succ n ih =>
    intro s x0 x1 x2 x3 x4 
    unfold f_MO_laysKeys_42
    simp only [ih, hK7, mr_254, xl_MO_laysKeys_67 hK7, mxC_1, mxC_2, mxC_p, mxC_i, mx_i]
theorem xl_MO_laysKeys_7 {b : am_M}  : ∀ (n : Nat) (s : am_M) (x0 : Int32) (x1 : Int32) (x2 : Int32), f_MO_laysKeys_7  n (mx b s) x0 x1 x2 = mx b (f_MO_laysKeys_7  n s x0 x1 x2) := by
  intro n
  induction n with
  | zero => intro s x0 x1 x2 ; rfl
  | succ n ih =>
    intro s x0 x1 x2 
    unfold f_MO_laysKeys_7
    simp only [ih, mr_207, mr_248, mr_250, xl_MO_laysKeys_42 ih, mxC_1, mxC_2, mxC_p, mxC_i, mx_i]
theorem xl_MO_laysKeys {b : am_M}  (s : am_M) (x0 : Int32) (x1 : Int32)  : f_MO_laysKeys  (mx b s) x0 x1 = mx b (f_MO_laysKeys  s x0 x1) := by
  unfold f_MO_laysKeys
  simp only [mr_207, ms_207, xl_MO_laysKeys_7, mxC_1, mxC_2, mxC_p, mxC_i, mx_i]
theorem xl_MO_sumOf_140 {b s : am_M} {K9 : Int32 → Int32 → Int32 → Int32 → Int32 → Int32 → Int32 → Int32} {x0 : Int32} {x1 : Int32} {x2 : Int32} {x3 : Int32} {x4 : Int32} {x5 : Int32} {x6 : Int32} {x7 : Int32} {x8 : Int32} {x9 : Int32} {x10 : Int32} {x11 : Int32} : f_MO_sumOf_140 K9 (mx b s) x0 x1 x2 x3 x4 x5 x6 x7 x8 x9 x10 x11 = f_MO_sumOf_140 K9 s x0 x1 x2 x3 x4 x5 x6 x7 x8 x9 x10 x11 := by
  unfold f_MO_sumOf_140
  rfl
theorem xl_MO_sumOf_139 {b s : am_M} {K9 : Int32 → Int32 → Int32 → Int32 → Int32 → Int32 → Int32 → Int32} {x0 : Int32} {x1 : Int32} {x2 : Int32} {x3 : Int32} {x4 : Int32} {x5 : Int32} {x6 : Int32} {x7 : Int32} {x8 : Int32} {x9 : Int32} {x10 : Int32} : f_MO_sumOf_139 K9 (mx b s) x0 x1 x2 x3 x4 x5 x6 x7 x8 x9 x10 = f_MO_sumOf_139 K9 s x0 x1 x2 x3 x4 x5 x6 x7 x8 x9 x10 := by
  unfold f_MO_sumOf_139
  simp only [xl_MO_sumOf_140, mxC_1, mxC_2, mxC_p, mxC_i, mx_i]
theorem xl_MO_sumOf_118 {b s : am_M} {K9 : Int32 → Int32 → Int32 → Int32 → Int32 → Int32 → Int32 → Int32} {x0 : Int32} {x1 : Int32} {x2 : Int32} {x3 : Int32} {x4 : Int32} {x5 : Int32} {x6 : Int32} {x7 : Int32} {x8 : Int32} {x9 : Int32} {x10 : Int32} : f_MO_sumOf_118 K9 (mx b s) x0 x1 x2 x3 x4 x5 x6 x7 x8 x9 x10 = f_MO_sumOf_118 K9 s x0 x1 x2 x3 x4 x5 x6 x7 x8 x9 x10 := by
  unfold f_MO_sumOf_118
  simp only [xl_MO_sumOf_139, xl_MO_sumOf_140, mxC_1, mxC_2, mxC_p, mxC_i, mx_i]
theorem xl_MO_sumOf_113 {b s : am_M} {K9 : Int32 → Int32 → Int32 → Int32 → Int32 → Int32 → Int32 → Int32} {x0 : Int32} {x1 : Int32} {x2 : Int32} {x3 : Int32} {x4 : Int32} {x5 : Int32} {x6 : Int32} {x7 : Int32} {x8 : Int32} {x9 : Int32} : f_MO_sumOf_113 K9 (mx b s) x0 x1 x2 x3 x4 x5 x6 x7 x8 x9 = f_MO_sumOf_113 K9 s x0 x1 x2 x3 x4 x5 x6 x7 x8 x9 := by
  unfold f_MO_sumOf_113
  simp only [xl_MO_sumOf_118, mxC_1, mxC_2, mxC_p, mxC_i, mx_i]
theorem xl_MO_sumOf_85 {b s : am_M} {K9 : Int32 → Int32 → Int32 → Int32 → Int32 → Int32 → Int32 → Int32} {x0 : Int32} {x1 : Int32} {x2 : Int32} {x3 : Int32} {x4 : Int32} {x5 : Int32} {x6 : Int32} {x7 : Int32} {x8 : Int32} : f_MO_sumOf_85 K9 (mx b s) x0 x1 x2 x3 x4 x5 x6 x7 x8 = f_MO_sumOf_85 K9 s x0 x1 x2 x3 x4 x5 x6 x7 x8 := by
  unfold f_MO_sumOf_85
  simp only [mr_242, mr_250, xl_MO_sumOf_113, xl_MO_sumOf_118, mxC_1, mxC_2, mxC_p, mxC_i, mx_i]
theorem xl_MO_sumOf_80 {b s : am_M} {K9 : Int32 → Int32 → Int32 → Int32 → Int32 → Int32 → Int32 → Int32} {x0 : Int32} {x1 : Int32} {x2 : Int32} {x3 : Int32} {x4 : Int32} {x5 : Int32} {x6 : Int32} {x7 : Int32} : f_MO_sumOf_80 K9 (mx b s) x0 x1 x2 x3 x4 x5 x6 x7 = f_MO_sumOf_80 K9 s x0 x1 x2 x3 x4 x5 x6 x7 := by
  unfold f_MO_sumOf_80
  simp only [xl_MO_sumOf_85, mxC_1, mxC_2, mxC_p, mxC_i, mx_i]

theorem xl_MO_remove_15 {b : am_M}  (s : am_M) (x0 : Int32) (x1 : Int32) (x2 : Int32)  : f_MO_remove_15  (mx b s) x0 x1 x2 = mxC b (f_MO_remove_15  s x0 x1 x2) := by
  unfold f_MO_remove_15
  simp only [xl_MO_holds, xl_MO_isChanged, xl_MO_removesRow, mxC_1, mxC_2, mxC_p, mxC_i, mx_i]
theorem xl_MO_remove {b : am_M}  (s : am_M) (x0 : Int32) (x1 : Int32)  : f_MO_remove  (mx b s) x0 x1 = mxC b (f_MO_remove  s x0 x1) := by
  unfold f_MO_remove
  simp only [xl_MO_isRow, xl_MO_remove_15, mxC_1, mxC_2, mxC_p, mxC_i, mx_i]
theorem xl_MO_rows {b : am_M}  (s : am_M) (x0 : Int32)  : f_MO_rows  (mx b s) x0 = mxC b (f_MO_rows  s x0) := by
  unfold f_MO_rows
  simp only [mr_228, xl_MO_holds, xl_MO_isTable, mxC_1, mxC_2, mxC_p, mxC_i, mx_i]
theorem xl_MO_run_14 {b : am_M}  (s : am_M) (x0 : Int32) (x1 : Int32)  : f_MO_run_14  (mx b s) x0 x1 = mxC b (f_MO_run_14  s x0 x1) := by
  unfold f_MO_run_14
  simp only [mr_207, ms_207, xl_MO_doesAll, xl_MO_forgets, xl_MO_holds, xl_MO_restores, xl_MO_saves, xl_MO_told, mxC_1, mxC_2, mxC_p, mxC_i, mx_i]
theorem xl_MO_run {b : am_M}  (s : am_M) (x0 : Int32)  : f_MO_run  (mx b s) x0 = mxC b (f_MO_run  s x0) := by
  unfold f_MO_run
  simp only [xl_MO_isAct, xl_MO_run_14, mxC_1, mxC_2, mxC_p, mxC_i, mx_i]
theorem xl_MO_setRemoval_38 {b : am_M}  (s : am_M) (x0 : Int32) (x1 : Int32) (x2 : Int32) (x3 : Int32)  : f_MO_setRemoval_38  (mx b s) x0 x1 x2 x3 = mxC b (f_MO_setRemoval_38  s x0 x1 x2 x3) := by
  unfold f_MO_setRemoval_38
  simp only [mr_207, mr_213, ms_207, ms_213, xl_MO_holds, mxC_1, mxC_2, mxC_p, mxC_i, mx_i]
theorem xl_MO_setRemoval_37 {b : am_M}  (s : am_M) (x0 : Int32) (x1 : Int32) (x2 : Int32)  : f_MO_setRemoval_37  (mx b s) x0 x1 x2 = mxC b (f_MO_setRemoval_37  s x0 x1 x2) := by
  unfold f_MO_setRemoval_37
  simp only [xl_MO_setRemoval_38, mxC_1, mxC_2, mxC_p, mxC_i, mx_i]
theorem xl_MO_setRemoval {b : am_M}  (s : am_M) (x0 : Int32) (x1 : Int32) (x2 : Int32)  : f_MO_setRemoval  (mx b s) x0 x1 x2 = mxC b (f_MO_setRemoval  s x0 x1 x2) := by
  unfold f_MO_setRemoval
  simp only [xl_MO_in, xl_MO_isColumn, xl_MO_kindOf, xl_MO_setRemoval_37, xl_MO_setRemoval_38, mxC_1, mxC_2, mxC_p, mxC_i, mx_i]
theorem xl_MO_single {b : am_M}  (s : am_M) (x0 : Int32) (x1 : Int32) (x2 : Int32)  : f_MO_single  (mx b s) x0 x1 x2 = mxC b (f_MO_single  s x0 x1 x2) := by
  unfold f_MO_single
  simp only [mr_219, ms_219, xl_MO_errorOfStored, xl_MO_holds, xl_MO_isChanged, xl_MO_isKept, xl_MO_saves, mxC_1, mxC_2, mxC_p, mxC_i, mx_i]
theorem xl_MO_stepAdd_37 {b : am_M}  (s : am_M) (x0 : Int32) (x1 : Int32) (x2 : Int32)  : f_MO_stepAdd_37  (mx b s) x0 x1 x2 = mxC b (f_MO_stepAdd_37  s x0 x1 x2) := by
  unfold f_MO_stepAdd_37
  simp only [xl_MO_addsStep, xl_MO_holds, mxC_1, mxC_2, mxC_p, mxC_i, mx_i]
theorem xl_MO_stepAdd_17 {b : am_M}  (s : am_M) (x0 : Int32) (x1 : Int32)  : f_MO_stepAdd_17  (mx b s) x0 x1 = mxC b (f_MO_stepAdd_17  s x0 x1) := by
  unfold f_MO_stepAdd_17
  simp only [xl_MO_stepAdd_37, mxC_1, mxC_2, mxC_p, mxC_i, mx_i]
theorem xl_MO_stepAdd {b : am_M}  (s : am_M) (x0 : Int32) (x1 : Int32)  : f_MO_stepAdd  (mx b s) x0 x1 = mxC b (f_MO_stepAdd  s x0 x1) := by
  unfold f_MO_stepAdd
  simp only [mr_255, xl_MO_isAct, xl_MO_isTable, xl_MO_stepAdd_17, xl_MO_stepAdd_37, mxC_1, mxC_2, mxC_p, mxC_i, mx_i]
theorem xl_MO_stepIf_62 {b : am_M}  (s : am_M) (x0 : Int32) (x1 : Int32) (x2 : Int32) (x3 : Int32) (x4 : Int32)  : f_MO_stepIf_62  (mx b s) x0 x1 x2 x3 x4 = mxC b (f_MO_stepIf_62  s x0 x1 x2 x3 x4) := by
  unfold f_MO_stepIf_62
  simp only [xl_MO_addsStep, xl_MO_holds, mxC_1, mxC_2, mxC_p, mxC_i, mx_i]
theorem xl_MO_stepIf_21 {b : am_M}  (s : am_M) (x0 : Int32) (x1 : Int32) (x2 : Int32) (x3 : Int32)  : f_MO_stepIf_21  (mx b s) x0 x1 x2 x3 = mxC b (f_MO_stepIf_21  s x0 x1 x2 x3) := by
  unfold f_MO_stepIf_21
  simp only [mr_255, xl_MO_in, xl_MO_stepIf_62, mxC_1, mxC_2, mxC_p, mxC_i, mx_i]
theorem xl_MO_stepIf_20 {b : am_M}  (s : am_M) (x0 : Int32) (x1 : Int32) (x2 : Int32)  : f_MO_stepIf_20  (mx b s) x0 x1 x2 = mxC b (f_MO_stepIf_20  s x0 x1 x2) := by
  unfold f_MO_stepIf_20
  simp only [xl_MO_stepIf_21, mxC_1, mxC_2, mxC_p, mxC_i, mx_i]
theorem xl_MO_stepIf {b : am_M}  (s : am_M) (x0 : Int32) (x1 : Int32) (x2 : Int32)  : f_MO_stepIf  (mx b s) x0 x1 x2 = mxC b (f_MO_stepIf  s x0 x1 x2) := by
  unfold f_MO_stepIf
  simp only [xl_MO_isAct, xl_MO_isQuestion, xl_MO_stepIf_20, xl_MO_stepIf_21, mxC_1, mxC_2, mxC_p, mxC_i, mx_i]
theorem xl_MO_stepPut {b : am_M}  (s : am_M) (x0 : Int32) (x1 : Int32) (x2 : Int32) (x3 : Int32)  : f_MO_stepPut  (mx b s) x0 x1 x2 x3 = mxC b (f_MO_stepPut  s x0 x1 x2 x3) := by
  unfold f_MO_stepPut
  simp only [xl_MO_addsStep, xl_MO_errorOfStep, xl_MO_holds, mxC_1, mxC_2, mxC_p, mxC_i, mx_i]
theorem xl_MO_stepRemove {b : am_M}  (s : am_M) (x0 : Int32) (x1 : Int32) (x2 : Int32)  : f_MO_stepRemove  (mx b s) x0 x1 x2 = mxC b (f_MO_stepRemove  s x0 x1 x2) := by
  unfold f_MO_stepRemove
  simp only [xl_MO_addsStep, xl_MO_errorOfStep, xl_MO_holds, mxC_1, mxC_2, mxC_p, mxC_i, mx_i]
theorem xl_MO_target_16 {b : am_M}  (s : am_M) (x0 : Int32) (x1 : Int32) (x2 : Int32) (x3 : Int32)  : f_MO_target_16  (mx b s) x0 x1 x2 x3 = mxC b (f_MO_target_16  s x0 x1 x2 x3) := by
  unfold f_MO_target_16
  simp only [mr_251, xl_MO_holds, xl_MO_writable, mxC_1, mxC_2, mxC_p, mxC_i, mx_i]
theorem xl_MO_target {b : am_M}  (s : am_M) (x0 : Int32) (x1 : Int32) (x2 : Int32)  : f_MO_target  (mx b s) x0 x1 x2 = mxC b (f_MO_target  s x0 x1 x2) := by
  unfold f_MO_target
  simp only [xl_MO_isAnswer, xl_MO_target_16, mxC_1, mxC_2, mxC_p, mxC_i, mx_i]
theorem xl_MO_thrown {b s : am_M}   : f_MO_thrown  (mx b s)  = f_MO_thrown  s  := by
  unfold f_MO_thrown
  simp only [mr_207, mxC_1, mxC_2, mxC_p, mxC_i, mx_i]
theorem xl_MO_type_22 {b : am_M}  (s : am_M) (x0 : Int32) (x1 : Int32) (x2 : Int32)  : f_MO_type_22  (mx b s) x0 x1 x2 = mxC b (f_MO_type_22  s x0 x1 x2) := by
  unfold f_MO_type_22
  simp only [mr_231, ms_231, xl_MO_holds, mxC_1, mxC_2, mxC_p, mxC_i, mx_i]
theorem xl_MO_type_21 {b : am_M}  (s : am_M) (x0 : Int32) (x1 : Int32)  : f_MO_type_21  (mx b s) x0 x1 = mxC b (f_MO_type_21  s x0 x1) := by
  unfold f_MO_type_21
  simp only [xl_MO_type_22, mxC_1, mxC_2, mxC_p, mxC_i, mx_i]
theorem xl_MO_type {b : am_M}  (s : am_M) (x0 : Int32) (x1 : Int32)  : f_MO_type  (mx b s) x0 x1 = mxC b (f_MO_type  s x0 x1) := by
  unfold f_MO_type
  simp only [xl_MO_in, xl_MO_isNumber, xl_MO_type_21, xl_MO_type_22, mxC_1, mxC_2, mxC_p, mxC_i, mx_i]
theorem xl_MO_undo_13 {b : am_M}  (s : am_M) (x0 : Int32)  : f_MO_undo_13  (mx b s) x0 = mxC b (f_MO_undo_13  s x0) := by
  unfold f_MO_undo_13
  simp only [mr_207, mr_228, ms_207, ms_228, xl_MO_holds, xl_MO_restores, mxC_1, mxC_2, mxC_p, mxC_i, mx_i]
theorem xl_MO_undo {b : am_M}  (s : am_M)   : f_MO_undo  (mx b s)  = mxC b (f_MO_undo  s ) := by
  unfold f_MO_undo
  simp only [mr_207, xl_MO_undo_13, mxC_1, mxC_2, mxC_p, mxC_i, mx_i]
theorem xl_MO_undoable {b : am_M}  (s : am_M)   : f_MO_undoable  (mx b s)  = mxC b (f_MO_undoable  s ) := by
  unfold f_MO_undoable
  simp only [mr_207, ms_207, mxC_1, mxC_2, mxC_p, mxC_i, mx_i]
theorem xl_MO_whereColumn {b : am_M}  (s : am_M)   : f_MO_whereColumn  (mx b s)  = mxC b (f_MO_whereColumn  s ) := by
  unfold f_MO_whereColumn
  simp only [mr_207, ms_207, mxC_1, mxC_2, mxC_p, mxC_i, mx_i]
theorem xl_MO_whereRow {b : am_M}  (s : am_M)   : f_MO_whereRow  (mx b s)  = mxC b (f_MO_whereRow  s ) := by
  unfold f_MO_whereRow
  simp only [mr_207, ms_207, mxC_1, mxC_2, mxC_p, mxC_i, mx_i]
theorem xl_MO_whereTable {b : am_M}  (s : am_M)   : f_MO_whereTable  (mx b s)  = mxC b (f_MO_whereTable  s ) := by
  unfold f_MO_whereTable
  simp only [mr_207, ms_207, mxC_1, mxC_2, mxC_p, mxC_i, mx_i]
theorem xl_MO_wouldLose {b : am_M}  (s : am_M) (x0 : Int32) (x1 : Int32) (x2 : Int32) (x3 : Int32)  : f_MO_wouldLose  (mx b s) x0 x1 x2 x3 = mxC b (f_MO_wouldLose  s x0 x1 x2 x3) := by
  unfold f_MO_wouldLose
  simp only [xl_MO_beyond, xl_MO_errorOfNarrow, xl_MO_holds, mxC_1, mxC_2, mxC_p, mxC_i, mx_i]
theorem xl_MO_wouldLoseAll_15 {b : am_M}  (s : am_M) (x0 : Int32) (x1 : Int32) (x2 : Int32)  : f_MO_wouldLoseAll_15  (mx b s) x0 x1 x2 = mxC b (f_MO_wouldLoseAll_15  s x0 x1 x2) := by
  unfold f_MO_wouldLoseAll_15
  simp only [xl_MO_beyond, xl_MO_holds, mxC_1, mxC_2, mxC_p, mxC_i, mx_i]
theorem xl_MO_wouldLoseAll {b : am_M}  (s : am_M) (x0 : Int32) (x1 : Int32)  : f_MO_wouldLoseAll  (mx b s) x0 x1 = mxC b (f_MO_wouldLoseAll  s x0 x1) := by
  unfold f_MO_wouldLoseAll
  simp only [xl_MO_isColumn, xl_MO_wouldLoseAll_15, mxC_1, mxC_2, mxC_p, mxC_i, mx_i]
theorem xl_MO_write_28 {b : am_M}  (s : am_M) (x0 : Int32) (x1 : Int32) (x2 : Int32) (x3 : Int32) (x4 : Int32)  : f_MO_write_28  (mx b s) x0 x1 x2 x3 x4 = mxC b (f_MO_write_28  s x0 x1 x2 x3 x4) := by
  unfold f_MO_write_28
  simp only [mr_251, xl_MO_holds, xl_MO_isChanged, xl_MO_told, xl_MO_writable, xl_MO_writesCell, mxC_1, mxC_2, mxC_p, mxC_i, mx_i]
theorem xl_MO_write {b : am_M}  (s : am_M) (x0 : Int32) (x1 : Int32) (x2 : Int32) (x3 : Int32)  : f_MO_write  (mx b s) x0 x1 x2 x3 = mxC b (f_MO_write  s x0 x1 x2 x3) := by
  unfold f_MO_write
  simp only [xl_MO_isAnswer, xl_MO_isNumber, xl_MO_write_28, mxC_1, mxC_2, mxC_p, mxC_i, mx_i]

noncomputable section
def h_CB_addTable (s : am_M)  : Nat × Int32 × am_M := ((f_CB_addTable s ).1, (f_CB_addTable s ).2.1, if (f_CB_addTable s ).1 = 0 then lo (f_CB_addTable s ).2.2 (f_MO_addTable (f_LA_addTable s ).2 ).2 else (f_CB_addTable s ).2.2)
theorem ch_CB_addTable {l : Launch} {g : am_Gl} (hg : g.2.2.2.1 = true) {s : am_M}  : AC l g m_CB_addTable 207 s [.ref 0] (am_oE (h_CB_addTable s )) := by
  refine am_ghE hg (ct_CB_addTable hg) (fun a ha => ?_)
  by_cases q : (f_CB_addTable s ).1 = 0
  · rw [if_pos q]; exact lo_at ha
  · rw [if_neg q]
def h_CB_addNumber (s : am_M) (x1 : Int32) (x2 : Int32) (x3 : Int32) : Nat × Int32 × am_M := ((f_CB_addNumber s x1 x2 x3).1, (f_CB_addNumber s x1 x2 x3).2.1, if (f_CB_addNumber s x1 x2 x3).1 = 0 then lo (f_CB_addNumber s x1 x2 x3).2.2 (f_MO_addNumber (f_LA_addNumber s x1 x2 x3).2 x1 x2 x3).2 else (f_CB_addNumber s x1 x2 x3).2.2)
theorem ch_CB_addNumber {l : Launch} {g : am_Gl} (hg : g.2.2.2.1 = true) {s : am_M} {x1 : Int32} {x2 : Int32} {x3 : Int32} (h : p_CB_addNumber s x1 x2 x3) : AC l g m_CB_addNumber 207 s [.ref 0, .int x1, .int x2, .int x3] (am_oE (h_CB_addNumber s x1 x2 x3)) := by
  refine am_ghE hg (ct_CB_addNumber hg h) (fun a ha => ?_)
  by_cases q : (f_CB_addNumber s x1 x2 x3).1 = 0
  · rw [if_pos q]; exact lo_at ha
  · rw [if_neg q]
def h_CB_addLink (s : am_M) (x1 : Int32) (x2 : Int32) (x3 : Int32) : Nat × Int32 × am_M := ((f_CB_addLink s x1 x2 x3).1, (f_CB_addLink s x1 x2 x3).2.1, if (f_CB_addLink s x1 x2 x3).1 = 0 then lo (f_CB_addLink s x1 x2 x3).2.2 (f_MO_addLink (f_LA_addLink s x1 x2 x3).2 x1 x2 x3).2 else (f_CB_addLink s x1 x2 x3).2.2)
theorem ch_CB_addLink {l : Launch} {g : am_Gl} (hg : g.2.2.2.1 = true) {s : am_M} {x1 : Int32} {x2 : Int32} {x3 : Int32} (h : p_CB_addLink s x1 x2 x3) : AC l g m_CB_addLink 207 s [.ref 0, .int x1, .int x2, .int x3] (am_oE (h_CB_addLink s x1 x2 x3)) := by
  refine am_ghE hg (ct_CB_addLink hg h) (fun a ha => ?_)
  by_cases q : (f_CB_addLink s x1 x2 x3).1 = 0
  · rw [if_pos q]; exact lo_at ha
  · rw [if_neg q]
def h_CB_addReckoned (s : am_M) (x1 : Int32) (x2 : Int32) (x3 : Int32) (x4 : Int32) (x5 : Int32) : Nat × Int32 × am_M := ((f_CB_addReckoned s x1 x2 x3 x4 x5).1, (f_CB_addReckoned s x1 x2 x3 x4 x5).2.1, if (f_CB_addReckoned s x1 x2 x3 x4 x5).1 = 0 then lo (f_CB_addReckoned s x1 x2 x3 x4 x5).2.2 (f_MO_addReckoned (f_LA_addReckoned s x1 x2 x3 x4 x5).2 x1 x2 x3 x4 x5).2 else (f_CB_addReckoned s x1 x2 x3 x4 x5).2.2)
theorem ch_CB_addReckoned {l : Launch} {g : am_Gl} (hg : g.2.2.2.1 = true) {s : am_M} {x1 : Int32} {x2 : Int32} {x3 : Int32} {x4 : Int32} {x5 : Int32} (h : p_CB_addReckoned s x1 x2 x3 x4 x5) : AC l g m_CB_addReckoned 207 s [.ref 0, .int x1, .int x2, .int x3, .int x4, .int x5] (am_oE (h_CB_addReckoned s x1 x2 x3 x4 x5)) := by
  refine am_ghE hg (ct_CB_addReckoned hg h) (fun a ha => ?_)
  by_cases q : (f_CB_addReckoned s x1 x2 x3 x4 x5).1 = 0
  · rw [if_pos q]; exact lo_at ha
  · rw [if_neg q]
def h_CB_reckonAnew (s : am_M) (x1 : Int32) (x2 : Int32) (x3 : Int32) (x4 : Int32) (x5 : Int32) (x6 : Int32) : Nat × Int32 × am_M := ((f_CB_reckonAnew s x1 x2 x3 x4 x5 x6).1, (f_CB_reckonAnew s x1 x2 x3 x4 x5 x6).2.1, if (f_CB_reckonAnew s x1 x2 x3 x4 x5 x6).1 = 0 then lo (f_CB_reckonAnew s x1 x2 x3 x4 x5 x6).2.2 (f_MO_reckonAnew (f_LA_reckonAnew s x1 x2 x3 x4 x5 x6).2 x1 x2 x3 x4 x5 x6).2 else (f_CB_reckonAnew s x1 x2 x3 x4 x5 x6).2.2)
theorem ch_CB_reckonAnew {l : Launch} {g : am_Gl} (hg : g.2.2.2.1 = true) {s : am_M} {x1 : Int32} {x2 : Int32} {x3 : Int32} {x4 : Int32} {x5 : Int32} {x6 : Int32} (h : p_CB_reckonAnew s x1 x2 x3 x4 x5 x6) : AC l g m_CB_reckonAnew 207 s [.ref 0, .int x1, .int x2, .int x3, .int x4, .int x5, .int x6] (am_oE (h_CB_reckonAnew s x1 x2 x3 x4 x5 x6)) := by
  refine am_ghE hg (ct_CB_reckonAnew hg h) (fun a ha => ?_)
  by_cases q : (f_CB_reckonAnew s x1 x2 x3 x4 x5 x6).1 = 0
  · rw [if_pos q]; exact lo_at ha
  · rw [if_neg q]
def h_CB_need (s : am_M) (x1 : Int32) (x2 : Int32) (x3 : Int32) : Nat × Int32 × am_M := ((f_CB_need s x1 x2 x3).1, (f_CB_need s x1 x2 x3).2.1, if (f_CB_need s x1 x2 x3).1 = 0 then lo (f_CB_need s x1 x2 x3).2.2 (f_MO_need (f_LA_need s x1 x2 x3).2 x1 x2 x3).2 else (f_CB_need s x1 x2 x3).2.2)
theorem ch_CB_need {l : Launch} {g : am_Gl} (hg : g.2.2.2.1 = true) {s : am_M} {x1 : Int32} {x2 : Int32} {x3 : Int32} (h : p_CB_need s x1 x2 x3) : AC l g m_CB_need 207 s [.ref 0, .int x1, .int x2, .int x3] (am_oE (h_CB_need s x1 x2 x3)) := by
  refine am_ghE hg (ct_CB_need hg h) (fun a ha => ?_)
  by_cases q : (f_CB_need s x1 x2 x3).1 = 0
  · rw [if_pos q]; exact lo_at ha
  · rw [if_neg q]
def h_CB_single (s : am_M) (x1 : Int32) (x2 : Int32) (x3 : Int32) : Nat × Int32 × am_M := ((f_CB_single s x1 x2 x3).1, (f_CB_single s x1 x2 x3).2.1, if (f_CB_single s x1 x2 x3).1 = 0 then lo (f_CB_single s x1 x2 x3).2.2 (f_MO_single (f_LA_single s x1 x2 x3).2 x1 x2 x3).2 else (f_CB_single s x1 x2 x3).2.2)
theorem ch_CB_single {l : Launch} {g : am_Gl} (hg : g.2.2.2.1 = true) {s : am_M} {x1 : Int32} {x2 : Int32} {x3 : Int32} (h : p_CB_single s x1 x2 x3) : AC l g m_CB_single 207 s [.ref 0, .int x1, .int x2, .int x3] (am_oE (h_CB_single s x1 x2 x3)) := by
  refine am_ghE hg (ct_CB_single hg h) (fun a ha => ?_)
  by_cases q : (f_CB_single s x1 x2 x3).1 = 0
  · rw [if_pos q]; exact lo_at ha
  · rw [if_neg q]
def h_CB_narrow (s : am_M) (x1 : Int32) (x2 : Int32) (x3 : Int32) (x4 : Int32) : Nat × Int32 × am_M := ((f_CB_narrow s x1 x2 x3 x4).1, (f_CB_narrow s x1 x2 x3 x4).2.1, if (f_CB_narrow s x1 x2 x3 x4).1 = 0 then lo (f_CB_narrow s x1 x2 x3 x4).2.2 (f_MO_narrow (f_LA_narrow s x1 x2 x3 x4).2 x1 x2 x3 x4).2 else (f_CB_narrow s x1 x2 x3 x4).2.2)
theorem ch_CB_narrow {l : Launch} {g : am_Gl} (hg : g.2.2.2.1 = true) {s : am_M} {x1 : Int32} {x2 : Int32} {x3 : Int32} {x4 : Int32} (h : p_CB_narrow s x1 x2 x3 x4) : AC l g m_CB_narrow 207 s [.ref 0, .int x1, .int x2, .int x3, .int x4] (am_oE (h_CB_narrow s x1 x2 x3 x4)) := by
  refine am_ghE hg (ct_CB_narrow hg h) (fun a ha => ?_)
  by_cases q : (f_CB_narrow s x1 x2 x3 x4).1 = 0
  · rw [if_pos q]; exact lo_at ha
  · rw [if_neg q]
def h_CB_drop (s : am_M) (x1 : Int32) (x2 : Int32) : Nat × Int32 × am_M := ((f_CB_drop s x1 x2).1, (f_CB_drop s x1 x2).2.1, if (f_CB_drop s x1 x2).1 = 0 then lo (f_CB_drop s x1 x2).2.2 (f_MO_drop (f_LA_drop s x1 x2).2 x1 x2).2 else (f_CB_drop s x1 x2).2.2)
theorem ch_CB_drop {l : Launch} {g : am_Gl} (hg : g.2.2.2.1 = true) {s : am_M} {x1 : Int32} {x2 : Int32} (h : p_CB_drop s x1 x2) : AC l g m_CB_drop 207 s [.ref 0, .int x1, .int x2] (am_oE (h_CB_drop s x1 x2)) := by
  refine am_ghE hg (ct_CB_drop hg h) (fun a ha => ?_)
  by_cases q : (f_CB_drop s x1 x2).1 = 0
  · rw [if_pos q]; exact lo_at ha
  · rw [if_neg q]
def h_CB_setRemoval (s : am_M) (x1 : Int32) (x2 : Int32) (x3 : Int32) : Nat × Int32 × am_M := ((f_CB_setRemoval s x1 x2 x3).1, (f_CB_setRemoval s x1 x2 x3).2.1, if (f_CB_setRemoval s x1 x2 x3).1 = 0 then lo (f_CB_setRemoval s x1 x2 x3).2.2 (f_MO_setRemoval (f_LA_setRemoval s x1 x2 x3).2 x1 x2 x3).2 else (f_CB_setRemoval s x1 x2 x3).2.2)
theorem ch_CB_setRemoval {l : Launch} {g : am_Gl} (hg : g.2.2.2.1 = true) {s : am_M} {x1 : Int32} {x2 : Int32} {x3 : Int32} (h : p_CB_setRemoval s x1 x2 x3) : AC l g m_CB_setRemoval 207 s [.ref 0, .int x1, .int x2, .int x3] (am_oE (h_CB_setRemoval s x1 x2 x3)) := by
  refine am_ghE hg (ct_CB_setRemoval hg h) (fun a ha => ?_)
  by_cases q : (f_CB_setRemoval s x1 x2 x3).1 = 0
  · rw [if_pos q]; exact lo_at ha
  · rw [if_neg q]
def h_CB_addRule (s : am_M) (x1 : Int32) (x2 : Int32) (x3 : Int32) (x4 : Int32) (x5 : Int32) : Nat × Int32 × am_M := ((f_CB_addRule s x1 x2 x3 x4 x5).1, (f_CB_addRule s x1 x2 x3 x4 x5).2.1, if (f_CB_addRule s x1 x2 x3 x4 x5).1 = 0 then lo (f_CB_addRule s x1 x2 x3 x4 x5).2.2 (f_MO_addRule (f_LA_addRule s x1 x2 x3 x4 x5).2 x1 x2 x3 x4 x5).2 else (f_CB_addRule s x1 x2 x3 x4 x5).2.2)
theorem ch_CB_addRule {l : Launch} {g : am_Gl} (hg : g.2.2.2.1 = true) {s : am_M} {x1 : Int32} {x2 : Int32} {x3 : Int32} {x4 : Int32} {x5 : Int32} (h : p_CB_addRule s x1 x2 x3 x4 x5) : AC l g m_CB_addRule 207 s [.ref 0, .int x1, .int x2, .int x3, .int x4, .int x5] (am_oE (h_CB_addRule s x1 x2 x3 x4 x5)) := by
  refine am_ghE hg (ct_CB_addRule hg h) (fun a ha => ?_)
  by_cases q : (f_CB_addRule s x1 x2 x3 x4 x5).1 = 0
  · rw [if_pos q]; exact lo_at ha
  · rw [if_neg q]
def h_CB_type (s : am_M) (x1 : Int32) (x2 : Int32) : Nat × Int32 × am_M := ((f_CB_type s x1 x2).1, (f_CB_type s x1 x2).2.1, if (f_CB_type s x1 x2).1 = 0 then lo (f_CB_type s x1 x2).2.2 (f_MO_type (f_LA_type s x1 x2).2 x1 x2).2 else (f_CB_type s x1 x2).2.2)
theorem ch_CB_type {l : Launch} {g : am_Gl} (hg : g.2.2.2.1 = true) {s : am_M} {x1 : Int32} {x2 : Int32} (h : p_CB_type s x1 x2) : AC l g m_CB_type 207 s [.ref 0, .int x1, .int x2] (am_oE (h_CB_type s x1 x2)) := by
  refine am_ghE hg (ct_CB_type hg h) (fun a ha => ?_)
  by_cases q : (f_CB_type s x1 x2).1 = 0
  · rw [if_pos q]; exact lo_at ha
  · rw [if_neg q]
def h_CB_enter (s : am_M) (x1 : Int32) : Nat × Int32 × am_M := ((f_CB_enter s x1).1, (f_CB_enter s x1).2.1, if (f_CB_enter s x1).1 = 0 then lo (f_CB_enter s x1).2.2 (f_MO_enter (f_LA_enter s x1).2 x1).2 else (f_CB_enter s x1).2.2)
theorem ch_CB_enter {l : Launch} {g : am_Gl} (hg : g.2.2.2.1 = true) {s : am_M} {x1 : Int32} (h : p_CB_enter s x1) : AC l g m_CB_enter 207 s [.ref 0, .int x1] (am_oE (h_CB_enter s x1)) := by
  refine am_ghE hg (ct_CB_enter hg h) (fun a ha => ?_)
  by_cases q : (f_CB_enter s x1).1 = 0
  · rw [if_pos q]; exact lo_at ha
  · rw [if_neg q]
def h_CB_put (s : am_M) (x1 : Int32) (x2 : Int32) (x3 : Int32) (x4 : Int32) : Nat × Int32 × am_M := ((f_CB_put s x1 x2 x3 x4).1, (f_CB_put s x1 x2 x3 x4).2.1, if (f_CB_put s x1 x2 x3 x4).1 = 0 then lo (f_CB_put s x1 x2 x3 x4).2.2 (f_MO_put (f_LA_put s x1 x2 x3 x4).2 x1 x2 x3 x4).2 else (f_CB_put s x1 x2 x3 x4).2.2)
theorem ch_CB_put {l : Launch} {g : am_Gl} (hg : g.2.2.2.1 = true) {s : am_M} {x1 : Int32} {x2 : Int32} {x3 : Int32} {x4 : Int32} (h : p_CB_put s x1 x2 x3 x4) : AC l g m_CB_put 207 s [.ref 0, .int x1, .int x2, .int x3, .int x4] (am_oE (h_CB_put s x1 x2 x3 x4)) := by
  refine am_ghE hg (ct_CB_put hg h) (fun a ha => ?_)
  by_cases q : (f_CB_put s x1 x2 x3 x4).1 = 0
  · rw [if_pos q]; exact lo_at ha
  · rw [if_neg q]
def h_CB_remove (s : am_M) (x1 : Int32) (x2 : Int32) : Nat × Int32 × am_M := ((f_CB_remove s x1 x2).1, (f_CB_remove s x1 x2).2.1, if (f_CB_remove s x1 x2).1 = 0 then lo (f_CB_remove s x1 x2).2.2 (f_MO_remove (f_LA_remove s x1 x2).2 x1 x2).2 else (f_CB_remove s x1 x2).2.2)
theorem ch_CB_remove {l : Launch} {g : am_Gl} (hg : g.2.2.2.1 = true) {s : am_M} {x1 : Int32} {x2 : Int32} (h : p_CB_remove s x1 x2) : AC l g m_CB_remove 207 s [.ref 0, .int x1, .int x2] (am_oE (h_CB_remove s x1 x2)) := by
  refine am_ghE hg (ct_CB_remove hg h) (fun a ha => ?_)
  by_cases q : (f_CB_remove s x1 x2).1 = 0
  · rw [if_pos q]; exact lo_at ha
  · rw [if_neg q]
def h_CB_openForm (s : am_M) (x1 : Int32) (x2 : Int32) : Nat × am_M := ((f_CB_openForm s x1 x2).1, if (f_CB_openForm s x1 x2).1 = 0 then lo (f_CB_openForm s x1 x2).2 (f_MO_openForm (f_LA_openForm s x1 x2).2 x1 x2) else (f_CB_openForm s x1 x2).2)
theorem ch_CB_openForm {l : Launch} {g : am_Gl} (hg : g.2.2.2.1 = true) {s : am_M} {x1 : Int32} {x2 : Int32} (h : p_CB_openForm s x1 x2) : AC l g m_CB_openForm 207 s [.ref 0, .int x1, .int x2] (am_oV (h_CB_openForm s x1 x2)) := by
  refine am_ghV hg (ct_CB_openForm hg h) (fun a ha => ?_)
  by_cases q : (f_CB_openForm s x1 x2).1 = 0
  · rw [if_pos q]; exact lo_at ha
  · rw [if_neg q]
def h_CB_enterInside (s : am_M) (x1 : Int32) (x2 : Int32) : Nat × Int32 × am_M := ((f_CB_enterInside s x1 x2).1, (f_CB_enterInside s x1 x2).2.1, if (f_CB_enterInside s x1 x2).1 = 0 then lo (f_CB_enterInside s x1 x2).2.2 (f_MO_enterInside (f_LA_enterInside s x1 x2).2 x1 x2).2 else (f_CB_enterInside s x1 x2).2.2)
theorem ch_CB_enterInside {l : Launch} {g : am_Gl} (hg : g.2.2.2.1 = true) {s : am_M} {x1 : Int32} {x2 : Int32} (h : p_CB_enterInside s x1 x2) : AC l g m_CB_enterInside 207 s [.ref 0, .int x1, .int x2] (am_oE (h_CB_enterInside s x1 x2)) := by
  refine am_ghE hg (ct_CB_enterInside hg h) (fun a ha => ?_)
  by_cases q : (f_CB_enterInside s x1 x2).1 = 0
  · rw [if_pos q]; exact lo_at ha
  · rw [if_neg q]
def h_CB_choice (s : am_M) (x1 : Int32) (x2 : Int32) (x3 : Int32) (x4 : Int32) : Nat × Int32 × am_M := ((f_CB_choice s x1 x2 x3 x4).1, (f_CB_choice s x1 x2 x3 x4).2.1, if (f_CB_choice s x1 x2 x3 x4).1 = 0 then lo (f_CB_choice s x1 x2 x3 x4).2.2 (f_MO_choice (f_LA_choice s x1 x2 x3 x4).2 x1 x2 x3 x4).2 else (f_CB_choice s x1 x2 x3 x4).2.2)
theorem ch_CB_choice {l : Launch} {g : am_Gl} (hg : g.2.2.2.1 = true) {s : am_M} {x1 : Int32} {x2 : Int32} {x3 : Int32} {x4 : Int32} (h : p_CB_choice s x1 x2 x3 x4) : AC l g m_CB_choice 207 s [.ref 0, .int x1, .int x2, .int x3, .int x4] (am_oE (h_CB_choice s x1 x2 x3 x4)) := by
  refine am_ghE hg (ct_CB_choice hg h) (fun a ha => ?_)
  by_cases q : (f_CB_choice s x1 x2 x3 x4).1 = 0
  · rw [if_pos q]; exact lo_at ha
  · rw [if_neg q]
def h_CB_ask (s : am_M) (x1 : Int32) (x2 : Int32) : Nat × Int32 × am_M := ((f_CB_ask s x1 x2).1, (f_CB_ask s x1 x2).2.1, if (f_CB_ask s x1 x2).1 = 0 then lo (f_CB_ask s x1 x2).2.2 (f_MO_ask (f_LA_ask s x1 x2).2 x1 x2).2 else (f_CB_ask s x1 x2).2.2)
theorem ch_CB_ask {l : Launch} {g : am_Gl} (hg : g.2.2.2.1 = true) {s : am_M} {x1 : Int32} {x2 : Int32} (h : p_CB_ask s x1 x2) : AC l g m_CB_ask 207 s [.ref 0, .int x1, .int x2] (am_oE (h_CB_ask s x1 x2)) := by
  refine am_ghE hg (ct_CB_ask hg h) (fun a ha => ?_)
  by_cases q : (f_CB_ask s x1 x2).1 = 0
  · rw [if_pos q]; exact lo_at ha
  · rw [if_neg q]
def h_CB_condition (s : am_M) (x1 : Int32) (x2 : Int32) (x3 : Int32) (x4 : Int32) (x5 : Int32) : Nat × Int32 × am_M := ((f_CB_condition s x1 x2 x3 x4 x5).1, (f_CB_condition s x1 x2 x3 x4 x5).2.1, if (f_CB_condition s x1 x2 x3 x4 x5).1 = 0 then lo (f_CB_condition s x1 x2 x3 x4 x5).2.2 (f_MO_condition (f_LA_condition s x1 x2 x3 x4 x5).2 x1 x2 x3 x4 x5).2 else (f_CB_condition s x1 x2 x3 x4 x5).2.2)
theorem ch_CB_condition {l : Launch} {g : am_Gl} (hg : g.2.2.2.1 = true) {s : am_M} {x1 : Int32} {x2 : Int32} {x3 : Int32} {x4 : Int32} {x5 : Int32} (h : p_CB_condition s x1 x2 x3 x4 x5) : AC l g m_CB_condition 207 s [.ref 0, .int x1, .int x2, .int x3, .int x4, .int x5] (am_oE (h_CB_condition s x1 x2 x3 x4 x5)) := by
  refine am_ghE hg (ct_CB_condition hg h) (fun a ha => ?_)
  by_cases q : (f_CB_condition s x1 x2 x3 x4 x5).1 = 0
  · rw [if_pos q]; exact lo_at ha
  · rw [if_neg q]
def h_CB_askGroups (s : am_M) (x1 : Int32) (x2 : Int32) (x3 : Int32) : Nat × Int32 × am_M := ((f_CB_askGroups s x1 x2 x3).1, (f_CB_askGroups s x1 x2 x3).2.1, if (f_CB_askGroups s x1 x2 x3).1 = 0 then lo (f_CB_askGroups s x1 x2 x3).2.2 (f_MO_askGroups (f_LA_askGroups s x1 x2 x3).2 x1 x2 x3).2 else (f_CB_askGroups s x1 x2 x3).2.2)
theorem ch_CB_askGroups {l : Launch} {g : am_Gl} (hg : g.2.2.2.1 = true) {s : am_M} {x1 : Int32} {x2 : Int32} {x3 : Int32} (h : p_CB_askGroups s x1 x2 x3) : AC l g m_CB_askGroups 207 s [.ref 0, .int x1, .int x2, .int x3] (am_oE (h_CB_askGroups s x1 x2 x3)) := by
  refine am_ghE hg (ct_CB_askGroups hg h) (fun a ha => ?_)
  by_cases q : (f_CB_askGroups s x1 x2 x3).1 = 0
  · rw [if_pos q]; exact lo_at ha
  · rw [if_neg q]
def h_CB_askCross (s : am_M) (x1 : Int32) (x2 : Int32) (x3 : Int32) (x4 : Int32) : Nat × Int32 × am_M := ((f_CB_askCross s x1 x2 x3 x4).1, (f_CB_askCross s x1 x2 x3 x4).2.1, if (f_CB_askCross s x1 x2 x3 x4).1 = 0 then lo (f_CB_askCross s x1 x2 x3 x4).2.2 (f_MO_askCross (f_LA_askCross s x1 x2 x3 x4).2 x1 x2 x3 x4).2 else (f_CB_askCross s x1 x2 x3 x4).2.2)
theorem ch_CB_askCross {l : Launch} {g : am_Gl} (hg : g.2.2.2.1 = true) {s : am_M} {x1 : Int32} {x2 : Int32} {x3 : Int32} {x4 : Int32} (h : p_CB_askCross s x1 x2 x3 x4) : AC l g m_CB_askCross 207 s [.ref 0, .int x1, .int x2, .int x3, .int x4] (am_oE (h_CB_askCross s x1 x2 x3 x4)) := by
  refine am_ghE hg (ct_CB_askCross hg h) (fun a ha => ?_)
  by_cases q : (f_CB_askCross s x1 x2 x3 x4).1 = 0
  · rw [if_pos q]; exact lo_at ha
  · rw [if_neg q]
def h_CB_write (s : am_M) (x1 : Int32) (x2 : Int32) (x3 : Int32) (x4 : Int32) : Nat × Int32 × am_M := ((f_CB_write s x1 x2 x3 x4).1, (f_CB_write s x1 x2 x3 x4).2.1, if (f_CB_write s x1 x2 x3 x4).1 = 0 then lo (f_CB_write s x1 x2 x3 x4).2.2 (f_MO_write (f_LA_write s x1 x2 x3 x4).2 x1 x2 x3 x4).2 else (f_CB_write s x1 x2 x3 x4).2.2)
theorem ch_CB_write {l : Launch} {g : am_Gl} (hg : g.2.2.2.1 = true) {s : am_M} {x1 : Int32} {x2 : Int32} {x3 : Int32} {x4 : Int32} (h : p_CB_write s x1 x2 x3 x4) : AC l g m_CB_write 207 s [.ref 0, .int x1, .int x2, .int x3, .int x4] (am_oE (h_CB_write s x1 x2 x3 x4)) := by
  refine am_ghE hg (ct_CB_write hg h) (fun a ha => ?_)
  by_cases q : (f_CB_write s x1 x2 x3 x4).1 = 0
  · rw [if_pos q]; exact lo_at ha
  · rw [if_neg q]
def h_CB_addAct (s : am_M)  : Nat × Int32 × am_M := ((f_CB_addAct s ).1, (f_CB_addAct s ).2.1, if (f_CB_addAct s ).1 = 0 then lo (f_CB_addAct s ).2.2 (f_MO_addAct (f_LA_addAct s ).2 ).2 else (f_CB_addAct s ).2.2)
theorem ch_CB_addAct {l : Launch} {g : am_Gl} (hg : g.2.2.2.1 = true) {s : am_M}  : AC l g m_CB_addAct 207 s [.ref 0] (am_oE (h_CB_addAct s )) := by
  refine am_ghE hg (ct_CB_addAct hg) (fun a ha => ?_)
  by_cases q : (f_CB_addAct s ).1 = 0
  · rw [if_pos q]; exact lo_at ha
  · rw [if_neg q]
def h_CB_stepPut (s : am_M) (x1 : Int32) (x2 : Int32) (x3 : Int32) (x4 : Int32) : Nat × Int32 × am_M := ((f_CB_stepPut s x1 x2 x3 x4).1, (f_CB_stepPut s x1 x2 x3 x4).2.1, if (f_CB_stepPut s x1 x2 x3 x4).1 = 0 then lo (f_CB_stepPut s x1 x2 x3 x4).2.2 (f_MO_stepPut (f_LA_stepPut s x1 x2 x3 x4).2 x1 x2 x3 x4).2 else (f_CB_stepPut s x1 x2 x3 x4).2.2)
theorem ch_CB_stepPut {l : Launch} {g : am_Gl} (hg : g.2.2.2.1 = true) {s : am_M} {x1 : Int32} {x2 : Int32} {x3 : Int32} {x4 : Int32} (h : p_CB_stepPut s x1 x2 x3 x4) : AC l g m_CB_stepPut 207 s [.ref 0, .int x1, .int x2, .int x3, .int x4] (am_oE (h_CB_stepPut s x1 x2 x3 x4)) := by
  refine am_ghE hg (ct_CB_stepPut hg h) (fun a ha => ?_)
  by_cases q : (f_CB_stepPut s x1 x2 x3 x4).1 = 0
  · rw [if_pos q]; exact lo_at ha
  · rw [if_neg q]
def h_CB_stepAdd (s : am_M) (x1 : Int32) (x2 : Int32) : Nat × Int32 × am_M := ((f_CB_stepAdd s x1 x2).1, (f_CB_stepAdd s x1 x2).2.1, if (f_CB_stepAdd s x1 x2).1 = 0 then lo (f_CB_stepAdd s x1 x2).2.2 (f_MO_stepAdd (f_LA_stepAdd s x1 x2).2 x1 x2).2 else (f_CB_stepAdd s x1 x2).2.2)
theorem ch_CB_stepAdd {l : Launch} {g : am_Gl} (hg : g.2.2.2.1 = true) {s : am_M} {x1 : Int32} {x2 : Int32} (h : p_CB_stepAdd s x1 x2) : AC l g m_CB_stepAdd 207 s [.ref 0, .int x1, .int x2] (am_oE (h_CB_stepAdd s x1 x2)) := by
  refine am_ghE hg (ct_CB_stepAdd hg h) (fun a ha => ?_)
  by_cases q : (f_CB_stepAdd s x1 x2).1 = 0
  · rw [if_pos q]; exact lo_at ha
  · rw [if_neg q]
def h_CB_stepRemove (s : am_M) (x1 : Int32) (x2 : Int32) (x3 : Int32) : Nat × Int32 × am_M := ((f_CB_stepRemove s x1 x2 x3).1, (f_CB_stepRemove s x1 x2 x3).2.1, if (f_CB_stepRemove s x1 x2 x3).1 = 0 then lo (f_CB_stepRemove s x1 x2 x3).2.2 (f_MO_stepRemove (f_LA_stepRemove s x1 x2 x3).2 x1 x2 x3).2 else (f_CB_stepRemove s x1 x2 x3).2.2)
theorem ch_CB_stepRemove {l : Launch} {g : am_Gl} (hg : g.2.2.2.1 = true) {s : am_M} {x1 : Int32} {x2 : Int32} {x3 : Int32} (h : p_CB_stepRemove s x1 x2 x3) : AC l g m_CB_stepRemove 207 s [.ref 0, .int x1, .int x2, .int x3] (am_oE (h_CB_stepRemove s x1 x2 x3)) := by
  refine am_ghE hg (ct_CB_stepRemove hg h) (fun a ha => ?_)
  by_cases q : (f_CB_stepRemove s x1 x2 x3).1 = 0
  · rw [if_pos q]; exact lo_at ha
  · rw [if_neg q]
def h_CB_stepIf (s : am_M) (x1 : Int32) (x2 : Int32) (x3 : Int32) : Nat × Int32 × am_M := ((f_CB_stepIf s x1 x2 x3).1, (f_CB_stepIf s x1 x2 x3).2.1, if (f_CB_stepIf s x1 x2 x3).1 = 0 then lo (f_CB_stepIf s x1 x2 x3).2.2 (f_MO_stepIf (f_LA_stepIf s x1 x2 x3).2 x1 x2 x3).2 else (f_CB_stepIf s x1 x2 x3).2.2)
theorem ch_CB_stepIf {l : Launch} {g : am_Gl} (hg : g.2.2.2.1 = true) {s : am_M} {x1 : Int32} {x2 : Int32} {x3 : Int32} (h : p_CB_stepIf s x1 x2 x3) : AC l g m_CB_stepIf 207 s [.ref 0, .int x1, .int x2, .int x3] (am_oE (h_CB_stepIf s x1 x2 x3)) := by
  refine am_ghE hg (ct_CB_stepIf hg h) (fun a ha => ?_)
  by_cases q : (f_CB_stepIf s x1 x2 x3).1 = 0
  · rw [if_pos q]; exact lo_at ha
  · rw [if_neg q]
def h_CB_run (s : am_M) (x1 : Int32) : Nat × Int32 × am_M := ((f_CB_run s x1).1, (f_CB_run s x1).2.1, if (f_CB_run s x1).1 = 0 then lo (f_CB_run s x1).2.2 (f_MO_run (f_LA_run s x1).2 x1).2 else (f_CB_run s x1).2.2)
theorem ch_CB_run {l : Launch} {g : am_Gl} (hg : g.2.2.2.1 = true) {s : am_M} {x1 : Int32} (h : p_CB_run s x1) : AC l g m_CB_run 207 s [.ref 0, .int x1] (am_oE (h_CB_run s x1)) := by
  refine am_ghE hg (ct_CB_run hg h) (fun a ha => ?_)
  by_cases q : (f_CB_run s x1).1 = 0
  · rw [if_pos q]; exact lo_at ha
  · rw [if_neg q]
def h_CB_undo (s : am_M)  : Nat × Int32 × am_M := ((f_CB_undo s ).1, (f_CB_undo s ).2.1, if (f_CB_undo s ).1 = 0 then lo (f_CB_undo s ).2.2 (f_MO_undo (f_LA_undo s ).2 ).2 else (f_CB_undo s ).2.2)
theorem ch_CB_undo {l : Launch} {g : am_Gl} (hg : g.2.2.2.1 = true) {s : am_M}  (h : p_CB_undo s ) : AC l g m_CB_undo 207 s [.ref 0] (am_oE (h_CB_undo s )) := by
  refine am_ghE hg (ct_CB_undo hg h) (fun a ha => ?_)
  by_cases q : (f_CB_undo s ).1 = 0
  · rw [if_pos q]; exact lo_at ha
  · rw [if_neg q]
end

theorem wl_CB_addAct {a : Nat} (ha : 207 ≤ a)  {s : am_M}  : (f_CB_addAct  s ).2.2 a = s a := by
  have h : p_CB_addAct s  := by
    unfold p_CB_addAct
    first | exact trivial | simp
  unfold p_CB_addAct at h
  unfold f_CB_addAct
  by_cases c : (s 0 5) < (4 : Int32)
  · rewrite [if_pos c]
    have h := h.1 c
    exact (am_set_o (by omega))
  · rewrite [if_neg c]
    have h := h.2 c
    exact rfl
theorem wl_CB_addFrom {a : Nat} (ha : 207 ≤ a)  {s : am_M} {x1 : Nat} (h : p_CB_addFrom  s x1) : (f_CB_addFrom  s x1).2 a = s a := by
  unfold p_CB_addFrom at h
  unfold f_CB_addFrom
  obtain ⟨⟨b1, t1⟩, h⟩ := h
  obtain ⟨hc, h⟩ := h
  by_cases c : (f_RO_isFull s 8 (s x1 3)) = 0
  · rewrite [if_pos c]
    have h := h.1 c
    obtain ⟨⟨b2, t2⟩, h⟩ := h
    obtain ⟨hc, h⟩ := h
    have m1 := wl_BA_enterRow ha hc
    by_cases c : (f_BA_enterRow s (s x1 3) (am_lk x1 4) (-1 : Int32) (-1000000 : Int32)).1 < 0
    · rewrite [if_pos c]
      have h := h.1 c
      exact (m1)
    · rewrite [if_neg c]
      have h := h.2 c
      exact (m1)
  · rewrite [if_neg c]
    have h := h.2 c
    obtain ⟨hc, h⟩ := h
    have m2 := wl_BA_refuse ha hc
    obtain ⟨hz, h⟩ := h
    exact (m2)
theorem wl_CB_forgetActs {a : Nat} (ha : 207 ≤ a)  {s : am_M}  : (f_CB_forgetActs  s ) a = s a := by
  have h : p_CB_forgetActs s  := by
    unfold p_CB_forgetActs
    first | exact trivial | simp
  unfold p_CB_forgetActs at h
  unfold f_CB_forgetActs
  exact (am_set_o (by omega))
theorem wl_CB_addLink {a : Nat} (ha : 207 ≤ a)  {s : am_M} {x1 : Int32} {x2 : Int32} {x3 : Int32} (h : p_CB_addLink  s x1 x2 x3) : (f_CB_addLink  s x1 x2 x3).2.2 a = s a := by
  unfold p_CB_addLink at h
  unfold f_CB_addLink
  by_cases c : (f_CB_wantTable s x1) = 0
  rotate_left
  · rewrite [if_neg c]
    exact rfl
  rewrite [if_pos c]
  have h := h c
  by_cases c : (f_CB_wantTable s x2) = 0
  rotate_left
  · rewrite [if_neg c]
    exact rfl
  rewrite [if_pos c]
  have h := h c
  by_cases c : (f_CB_wantRemoval s x3) = 0
  rotate_left
  · rewrite [if_neg c]
    exact rfl
  rewrite [if_pos c]
  have h := h c
  obtain ⟨hc, h⟩ := h
  by_cases c : (f_CB_wantColumnPlace s x1) = 0
  rotate_left
  · rewrite [if_neg c]
    exact rfl
  rewrite [if_pos c]
  have h := h c
  obtain ⟨hc, h⟩ := h
  have m1 := wl_BA_makeLink ha hc
  exact ((m1).trans (wl_CB_forgetActs ha))
theorem wl_CB_addNumber {a : Nat} (ha : 207 ≤ a)  {s : am_M} {x1 : Int32} {x2 : Int32} {x3 : Int32} (h : p_CB_addNumber  s x1 x2 x3) : (f_CB_addNumber  s x1 x2 x3).2.2 a = s a := by
  unfold p_CB_addNumber at h
  unfold f_CB_addNumber
  by_cases c : (f_CB_wantTable s x1) = 0
  rotate_left
  · rewrite [if_neg c]
    exact rfl
  rewrite [if_pos c]
  have h := h c
  by_cases c : (f_CB_wantRange s x2 x3) = 0
  rotate_left
  · rewrite [if_neg c]
    exact rfl
  rewrite [if_pos c]
  have h := h c
  obtain ⟨hc, h⟩ := h
  by_cases c : (f_CB_wantColumnPlace s x1) = 0
  rotate_left
  · rewrite [if_neg c]
    exact rfl
  rewrite [if_pos c]
  have h := h c
  obtain ⟨hc, h⟩ := h
  have m1 := wl_BA_makeNumber ha hc
  exact ((m1).trans (wl_CB_forgetActs ha))
theorem wl_CB_addReckoned {a : Nat} (ha : 207 ≤ a)  {s : am_M} {x1 : Int32} {x2 : Int32} {x3 : Int32} {x4 : Int32} {x5 : Int32} (h : p_CB_addReckoned  s x1 x2 x3 x4 x5) : (f_CB_addReckoned  s x1 x2 x3 x4 x5).2.2 a = s a := by
  unfold p_CB_addReckoned at h
  unfold f_CB_addReckoned
  by_cases c : (f_CB_wantTable s x1) = 0
  rotate_left
  · rewrite [if_neg c]
    exact rfl
  rewrite [if_pos c]
  have h := h c
  obtain ⟨hc, h⟩ := h
  by_cases c : (f_CB_wantFormula s x1 x2 x3 x4 x5) = 0
  rotate_left
  · rewrite [if_neg c]
    exact rfl
  rewrite [if_pos c]
  have h := h c
  obtain ⟨hc, h⟩ := h
  by_cases c : (f_CB_wantColumnPlace s x1) = 0
  rotate_left
  · rewrite [if_neg c]
    exact rfl
  rewrite [if_pos c]
  have h := h c
  obtain ⟨hc, h⟩ := h
  have m1 := wl_BA_makeReckoned ha hc
  exact ((m1).trans (wl_CB_forgetActs ha))
theorem wl_CB_tell {a : Nat} (ha : 207 ≤ a)  {s : am_M} {x1 : Int32} (h : p_CB_tell  s x1) : (f_CB_tell  s x1).2 a = s a := by
  unfold p_CB_tell at h
  unfold f_CB_tell
  by_cases c : x1 = 0
  · rewrite [if_pos c]
    have h := h.1 c
    obtain ⟨hc, h⟩ := h
    have m1 := wl_RE_copyFrom ha hc
    obtain ⟨hz, h⟩ := h
    exact (m1)
  · rewrite [if_neg c]
    have h := h.2 c
    obtain ⟨hc, h⟩ := h
    have m2 := wl_RE_clear ha hc
    obtain ⟨hz, h⟩ := h
    exact ((wl_CB_forgetActs ha).trans (m2))
theorem wl_CB_addRule {a : Nat} (ha : 207 ≤ a)  {s : am_M} {x1 : Int32} {x2 : Int32} {x3 : Int32} {x4 : Int32} {x5 : Int32} (h : p_CB_addRule  s x1 x2 x3 x4 x5) : (f_CB_addRule  s x1 x2 x3 x4 x5).2.2 a = s a := by
  unfold p_CB_addRule at h
  unfold f_CB_addRule
  obtain ⟨hc, h⟩ := h
  by_cases c : (f_CB_wantColumn s x1 x2) = 0
  rotate_left
  · rewrite [if_neg c]
    exact rfl
  rewrite [if_pos c]
  have h := h c
  obtain ⟨hc, h⟩ := h
  by_cases c : (f_CB_wantColumn s x1 x4) = 0
  rotate_left
  · rewrite [if_neg c]
    exact rfl
  rewrite [if_pos c]
  have h := h c
  by_cases c : x3 < 0
  · rewrite [if_pos c]
    have h := h.1 c
    exact rfl
  · rewrite [if_neg c]
    have h := h.2 c
    by_cases c : (3 : Int32) < x3
    · rewrite [if_pos c]
      have h := h.1 c
      exact rfl
    · rewrite [if_neg c]
      have h := h.2 c
      by_cases c : x5 < (-9999 : Int32)
      · rewrite [if_pos c]
        have h := h.1 c
        exact rfl
      · rewrite [if_neg c]
        have h := h.2 c
        by_cases c : x5 ≤ (9999 : Int32)
        · rewrite [if_pos c]
          have h := h.1 c
          obtain ⟨hc, h⟩ := h
          by_cases c : (f_CB_wantNotDropped s x1 x2) = 0
          rotate_left
          · rewrite [if_neg c]
            exact rfl
          rewrite [if_pos c]
          have h := h c
          obtain ⟨hc, h⟩ := h
          by_cases c : (f_CB_wantNotDropped s x1 x4) = 0
          rotate_left
          · rewrite [if_neg c]
            exact rfl
          rewrite [if_pos c]
          have h := h c
          by_cases c : (s 1 6) < (8 : Int32)
          · rewrite [if_pos c]
            have h := h.1 c
            obtain ⟨hc, h⟩ := h
            have m1 := wl_BA_makeRule ha hc
            by_cases c : (f_BA_makeRule s x1 x2 x3 x4 x5).1 < 0
            · rewrite [if_pos c]
              have h := h.1 c
              obtain ⟨hc, h⟩ := h
              have m2 := wl_CB_tell ha hc
              exact ((m2).trans (m1))
            · rewrite [if_neg c]
              have h := h.2 c
              obtain ⟨hc, h⟩ := h
              have m3 := wl_CB_tell ha hc
              exact ((m3).trans (m1))
          · rewrite [if_neg c]
            have h := h.2 c
            exact rfl
        · rewrite [if_neg c]
          have h := h.2 c
          exact rfl
theorem wl_CB_addTable {a : Nat} (ha : 207 ≤ a)  {s : am_M}  : (f_CB_addTable  s ).2.2 a = s a := by
  have h : p_CB_addTable s  := by
    unfold p_CB_addTable
    first | exact trivial | simp
  unfold p_CB_addTable at h
  unfold f_CB_addTable
  by_cases c : (s 1 3) < (4 : Int32)
  · rewrite [if_pos c]
    have h := h.1 c
    exact ((am_set_o (by omega)).trans (wl_CB_forgetActs ha))
  · rewrite [if_neg c]
    have h := h.2 c
    exact rfl
theorem wl_CB_wantAnswer {a : Nat} (ha : 207 ≤ a)  {s : am_M} {x1 : Int32} {x2 : Int32} {x3 : Int32} (h : p_CB_wantAnswer  s x1 x2 x3) : (f_CB_wantAnswer  s x1 x2 x3).2 a = s a := by
  unfold p_CB_wantAnswer at h
  unfold f_CB_wantAnswer
  by_cases c : (f_CB_wantQuestion s x1) = 0
  rotate_left
  · rewrite [if_neg c]
    exact rfl
  rewrite [if_pos c]
  have h := h c
  by_cases c : x2 < 0
  · rewrite [if_pos c]
    have h := h.1 c
    exact rfl
  · rewrite [if_neg c]
    have h := h.2 c
    obtain ⟨hc, h⟩ := h
    have m1 := wl_AS_find ha hc
    by_cases c : (f_AS_find s x1).1 ≤ x2
    · rewrite [if_pos c]
      have h := h.1 c
      exact (m1)
    · rewrite [if_neg c]
      have h := h.2 c
      by_cases c : x3 < 0
      · rewrite [if_pos c]
        have h := h.1 c
        exact (m1)
      · rewrite [if_neg c]
        have h := h.2 c
        by_cases c : x3 < ((f_AS_find s x1).2 52 5)
        · rewrite [if_pos c]
          have h := h.1 c
          exact (m1)
        · rewrite [if_neg c]
          have h := h.2 c
          exact (m1)
theorem wl_CB_answer {a : Nat} (ha : 207 ≤ a)  {s : am_M} {x1 : Int32} {x2 : Int32} {x3 : Int32} (h : p_CB_answer  s x1 x2 x3) : (f_CB_answer  s x1 x2 x3).2.2 a = s a := by
  unfold p_CB_answer at h
  unfold f_CB_answer
  obtain ⟨hc, h⟩ := h
  have m1 := wl_CB_wantAnswer ha hc
  by_cases c : (f_CB_wantAnswer s x1 x2 x3).1 = 0
  rotate_left
  · rewrite [if_neg c]
    exact (m1)
  rewrite [if_pos c]
  have h := h c
  obtain ⟨hc, h⟩ := h
  exact (m1)
theorem wl_CB_answers {a : Nat} (ha : 207 ≤ a)  {s : am_M} {x1 : Int32} (h : p_CB_answers  s x1) : (f_CB_answers  s x1).2.2 a = s a := by
  unfold p_CB_answers at h
  unfold f_CB_answers
  by_cases c : (f_CB_wantQuestion s x1) = 0
  rotate_left
  · rewrite [if_neg c]
    exact rfl
  rewrite [if_pos c]
  have h := h c
  obtain ⟨hc, h⟩ := h
  have m1 := wl_AS_find ha hc
  exact (m1)
theorem wl_CB_wantSourceColumn {a : Nat} (ha : 207 ≤ a)  {s : am_M} {x1 : Int32} {x2 : Int32} (h : p_CB_wantSourceColumn  s x1 x2) : (f_CB_wantSourceColumn  s x1 x2).2 a = s a := by
  unfold p_CB_wantSourceColumn at h
  unfold f_CB_wantSourceColumn
  by_cases c : x1 < (10 : Int32)
  · rewrite [if_pos c]
    have h := h.1 c
    obtain ⟨hc, h⟩ := h
    by_cases c : x2 < 0
    · rewrite [if_pos c]
      have h := h.1 c
      exact rfl
    · rewrite [if_neg c]
      have h := h.2 c
      by_cases c : x2 < (f_BA_widthOf s x1)
      · rewrite [if_pos c]
        have h := h.1 c
        exact rfl
      · rewrite [if_neg c]
        have h := h.2 c
        exact rfl
  · rewrite [if_neg c]
    have h := h.2 c
    obtain ⟨hc, h⟩ := h
    have m1 := wl_AS_widthOf ha hc
    by_cases c : x2 < 0
    · rewrite [if_pos c]
      have h := h.1 c
      exact (m1)
    · rewrite [if_neg c]
      have h := h.2 c
      by_cases c : x2 < (f_AS_widthOf s (x1 - (10 : Int32))).1
      · rewrite [if_pos c]
        have h := h.1 c
        exact (m1)
      · rewrite [if_neg c]
        have h := h.2 c
        exact (m1)
theorem wl_CB_ask_16 {a : Nat} (ha : 207 ≤ a)  {s : am_M} {x1 : Int32} {x2 : Int32} (h : p_CB_ask_16  s x1 x2) : (f_CB_ask_16  s x1 x2).2.2 a = s a := by
  unfold p_CB_ask_16 at h
  unfold f_CB_ask_16
  obtain ⟨hc, h⟩ := h
  by_cases c : (f_CB_wantNoCross s x1) = 0
  rotate_left
  · rewrite [if_neg c]
    exact rfl
  rewrite [if_pos c]
  have h := h c
  by_cases c : x2 = (-1 : Int32)
  · rewrite [if_pos c]
    have h := h.1 c
    by_cases c : (f_CB_wantQuestionPlace s) = 0
    rotate_left
    · rewrite [if_neg c]
      exact rfl
    rewrite [if_pos c]
    have h := h c
    obtain ⟨hc, h⟩ := h
    have m1 := wl_AS_makePlain ha hc
    exact (m1)
  · rewrite [if_neg c]
    have h := h.2 c
    obtain ⟨hc, h⟩ := h
    obtain ⟨hc, h⟩ := h
    by_cases c : (f_CB_wantLinkCode s (f_AS_originOf s x1 x2)) = 0
    rotate_left
    · rewrite [if_neg c]
      exact rfl
    rewrite [if_pos c]
    have h := h c
    by_cases c : (f_CB_wantQuestionPlace s) = 0
    rotate_left
    · rewrite [if_neg c]
      exact rfl
    rewrite [if_pos c]
    have h := h c
    obtain ⟨hc, h⟩ := h
    have m2 := wl_AS_makePlain ha hc
    exact (m2)
theorem wl_CB_ask {a : Nat} (ha : 207 ≤ a)  {s : am_M} {x1 : Int32} {x2 : Int32} (h : p_CB_ask  s x1 x2) : (f_CB_ask  s x1 x2).2.2 a = s a := by
  unfold p_CB_ask at h
  unfold f_CB_ask
  by_cases c : (f_CB_wantSource s x1) = 0
  rotate_left
  · rewrite [if_neg c]
    exact rfl
  rewrite [if_pos c]
  have h := h c
  by_cases c : x2 = (-1 : Int32)
  · rewrite [if_pos c]
    have h := h.1 c
    exact (wl_CB_ask_16 ha h)
  · rewrite [if_neg c]
    have h := h.2 c
    obtain ⟨hc, h⟩ := h
    have m1 := wl_CB_wantSourceColumn ha hc
    by_cases c : (f_CB_wantSourceColumn s x1 x2).1 = 0
    rotate_left
    · rewrite [if_neg c]
      exact (m1)
    rewrite [if_pos c]
    have h := h c
    exact ((wl_CB_ask_16 ha h).trans (m1))
theorem wl_CB_askCross {a : Nat} (ha : 207 ≤ a)  {s : am_M} {x1 : Int32} {x2 : Int32} {x3 : Int32} {x4 : Int32} (h : p_CB_askCross  s x1 x2 x3 x4) : (f_CB_askCross  s x1 x2 x3 x4).2.2 a = s a := by
  unfold p_CB_askCross at h
  unfold f_CB_askCross
  by_cases c : (f_CB_wantSource s x1) = 0
  rotate_left
  · rewrite [if_neg c]
    exact rfl
  rewrite [if_pos c]
  have h := h c
  obtain ⟨hc, h⟩ := h
  have m1 := wl_CB_wantSourceColumn ha hc
  by_cases c : (f_CB_wantSourceColumn s x1 x2).1 = 0
  rotate_left
  · rewrite [if_neg c]
    exact (m1)
  rewrite [if_pos c]
  have h := h c
  obtain ⟨hc, h⟩ := h
  have m2 := wl_CB_wantSourceColumn ha hc
  by_cases c : (f_CB_wantSourceColumn (f_CB_wantSourceColumn s x1 x2).2 x1 x3).1 = 0
  rotate_left
  · rewrite [if_neg c]
    exact ((m2).trans (m1))
  rewrite [if_pos c]
  have h := h c
  obtain ⟨hc, h⟩ := h
  have m3 := wl_CB_wantSourceColumn ha hc
  by_cases c : (f_CB_wantSourceColumn (f_CB_wantSourceColumn (f_CB_wantSourceColumn s x1 x2).2 x1 x3).2 x1 x4).1 = 0
  rotate_left
  · rewrite [if_neg c]
    exact ((m3).trans ((m2).trans (m1)))
  rewrite [if_pos c]
  have h := h c
  obtain ⟨hc, h⟩ := h
  by_cases c : (f_CB_wantNoCross (f_CB_wantSourceColumn (f_CB_wantSourceColumn (f_CB_wantSourceColumn s x1 x2).2 x1 x3).2 x1 x4).2 x1) = 0
  rotate_left
  · rewrite [if_neg c]
    exact ((m3).trans ((m2).trans (m1)))
  rewrite [if_pos c]
  have h := h c
  by_cases c : (f_CB_wantQuestionPlace (f_CB_wantSourceColumn (f_CB_wantSourceColumn (f_CB_wantSourceColumn s x1 x2).2 x1 x3).2 x1 x4).2) = 0
  rotate_left
  · rewrite [if_neg c]
    exact ((m3).trans ((m2).trans (m1)))
  rewrite [if_pos c]
  have h := h c
  obtain ⟨hc, h⟩ := h
  have m4 := wl_AS_makeGathered ha hc
  exact ((m4).trans ((m3).trans ((m2).trans (m1))))
theorem wl_CB_askGroups {a : Nat} (ha : 207 ≤ a)  {s : am_M} {x1 : Int32} {x2 : Int32} {x3 : Int32} (h : p_CB_askGroups  s x1 x2 x3) : (f_CB_askGroups  s x1 x2 x3).2.2 a = s a := by
  unfold p_CB_askGroups at h
  unfold f_CB_askGroups
  by_cases c : (f_CB_wantSource s x1) = 0
  rotate_left
  · rewrite [if_neg c]
    exact rfl
  rewrite [if_pos c]
  have h := h c
  obtain ⟨hc, h⟩ := h
  have m1 := wl_CB_wantSourceColumn ha hc
  by_cases c : (f_CB_wantSourceColumn s x1 x2).1 = 0
  rotate_left
  · rewrite [if_neg c]
    exact (m1)
  rewrite [if_pos c]
  have h := h c
  obtain ⟨hc, h⟩ := h
  have m2 := wl_CB_wantSourceColumn ha hc
  by_cases c : (f_CB_wantSourceColumn (f_CB_wantSourceColumn s x1 x2).2 x1 x3).1 = 0
  rotate_left
  · rewrite [if_neg c]
    exact ((m2).trans (m1))
  rewrite [if_pos c]
  have h := h c
  obtain ⟨hc, h⟩ := h
  by_cases c : (f_CB_wantNoCross (f_CB_wantSourceColumn (f_CB_wantSourceColumn s x1 x2).2 x1 x3).2 x1) = 0
  rotate_left
  · rewrite [if_neg c]
    exact ((m2).trans (m1))
  rewrite [if_pos c]
  have h := h c
  by_cases c : (f_CB_wantQuestionPlace (f_CB_wantSourceColumn (f_CB_wantSourceColumn s x1 x2).2 x1 x3).2) = 0
  rotate_left
  · rewrite [if_neg c]
    exact ((m2).trans (m1))
  rewrite [if_pos c]
  have h := h c
  obtain ⟨hc, h⟩ := h
  have m3 := wl_AS_makeGathered ha hc
  exact ((m3).trans ((m2).trans (m1)))
theorem wl_CB_broken {a : Nat} (ha : 207 ≤ a)  {s : am_M}  (h : p_CB_broken  s ) : (f_CB_broken  s ).2 a = s a := by
  unfold p_CB_broken at h
  unfold f_CB_broken
  obtain ⟨hc, h⟩ := h
  have m1 := wl_BA_countBroken ha hc
  exact (m1)
theorem wl_CB_choice_95 {a : Nat} (ha : 207 ≤ a) {K49 : am_M → Int32 → Int32 → Int32 → Int32 → Int32 → Int32 → Nat × Int32 × am_M} {KP49 : am_M → Int32 → Int32 → Int32 → Int32 → Int32 → Int32 → Prop} (hK49 : ∀ (s : am_M) (x1 : Int32) (x2 : Int32) (x3 : Int32) (x4 : Int32) (x5 : Int32) (x6 : Int32), KP49 s x1 x2 x3 x4 x5 x6 → (K49 s x1 x2 x3 x4 x5 x6).2.2 a = s a) {s : am_M} {x1 : Int32} {x2 : Int32} {x3 : Int32} {x4 : Int32} {x5 : Int32} {x6 : Int32} (h : p_CB_choice_95 KP49 s x1 x2 x3 x4 x5 x6) : (f_CB_choice_95 K49 s x1 x2 x3 x4 x5 x6).2.2 a = s a := by
  unfold p_CB_choice_95 at h
  unfold f_CB_choice_95
  exact (hK49 _ _ _ _ _ _ _ h)
theorem wl_CB_choice_49 {a : Nat} (ha : 207 ≤ a)  : ∀ (n : Nat) (s : am_M) (x1 : Int32) (x2 : Int32) (x3 : Int32) (x4 : Int32) (x5 : Int32) (x6 : Int32), p_CB_choice_49  n s x1 x2 x3 x4 x5 x6 → (f_CB_choice_49  n s x1 x2 x3 x4 x5 x6).2.2 a = s a := by
  intro n
  induction n with
  | zero => intro s x1 x2 x3 x4 x5 x6 h; exact h.elim
  | succ n hK49 =>
    intro s x1 x2 x3 x4 x5 x6 h
    unfold p_CB_choice_49 at h
    unfold f_CB_choice_49
    by_cases c : (30 : Int32) ≤ x6
    · rewrite [if_pos c]
      have h := h.1 c
      exact rfl
    · rewrite [if_neg c]
      have h := h.2 c
      obtain ⟨hc, h⟩ := h
      by_cases c : (f_RO_has s 8 x5 x6) = 0
      · rewrite [if_pos c]
        have h := h.1 c
        exact (wl_CB_choice_95 ha hK49 h)
      · rewrite [if_neg c]
        have h := h.2 c
        obtain ⟨hc, h⟩ := h
        have m1 := wl_BA_couldPut ha hc
        by_cases c : (f_BA_couldPut s (((10 : Int32) * x1) + x3) x2 x6).1 = 0
        · rewrite [if_pos c]
          have h := h.1 c
          exact ((wl_CB_choice_95 ha hK49 h).trans (m1))
        · rewrite [if_neg c]
          have h := h.2 c
          exact (m1)
theorem wl_CB_choice {a : Nat} (ha : 207 ≤ a)  {s : am_M} {x1 : Int32} {x2 : Int32} {x3 : Int32} {x4 : Int32} (h : p_CB_choice  s x1 x2 x3 x4) : (f_CB_choice  s x1 x2 x3 x4).2.2 a = s a := by
  unfold p_CB_choice at h
  unfold f_CB_choice
  obtain ⟨hc, h⟩ := h
  by_cases c : (f_CB_wantRow s x1 x2) = 0
  rotate_left
  · rewrite [if_neg c]
    exact rfl
  rewrite [if_pos c]
  have h := h c
  obtain ⟨hc, h⟩ := h
  by_cases c : (f_CB_wantColumn s x1 x3) = 0
  rotate_left
  · rewrite [if_neg c]
    exact rfl
  rewrite [if_pos c]
  have h := h c
  obtain ⟨hc, h⟩ := h
  by_cases c : (f_CB_wantLink s x1 x3) = 0
  rotate_left
  · rewrite [if_neg c]
    exact rfl
  rewrite [if_pos c]
  have h := h c
  by_cases c : 0 ≤ x4
  · rewrite [if_pos c]
    have h := h.1 c
    obtain ⟨hc, h⟩ := h
    obtain ⟨⟨b1, t1⟩, h⟩ := h
    exact (wl_CB_choice_49 ha am_F _ _ _ _ _ _ _ h)
  · rewrite [if_neg c]
    have h := h.2 c
    exact rfl
theorem wl_CB_columns {a : Nat} (ha : 207 ≤ a)  {s : am_M} {x1 : Int32} (h : p_CB_columns  s x1) : (f_CB_columns  s x1).2.2 a = s a := by
  unfold p_CB_columns at h
  unfold f_CB_columns
  by_cases c : (f_CB_wantQuestion s x1) = 0
  rotate_left
  · rewrite [if_neg c]
    exact rfl
  rewrite [if_pos c]
  have h := h c
  obtain ⟨hc, h⟩ := h
  have m1 := wl_AS_widthOf ha hc
  exact (m1)
theorem wl_CB_wantQuestionColumn {a : Nat} (ha : 207 ≤ a)  {s : am_M} {x1 : Int32} {x2 : Int32} (h : p_CB_wantQuestionColumn  s x1 x2) : (f_CB_wantQuestionColumn  s x1 x2).2 a = s a := by
  unfold p_CB_wantQuestionColumn at h
  unfold f_CB_wantQuestionColumn
  by_cases c : (f_CB_wantQuestion s x1) = 0
  rotate_left
  · rewrite [if_neg c]
    exact rfl
  rewrite [if_pos c]
  have h := h c
  by_cases c : x2 < 0
  · rewrite [if_pos c]
    have h := h.1 c
    exact rfl
  · rewrite [if_neg c]
    have h := h.2 c
    obtain ⟨hc, h⟩ := h
    have m1 := wl_AS_widthOf ha hc
    by_cases c : x2 < (f_AS_widthOf s x1).1
    · rewrite [if_pos c]
      have h := h.1 c
      exact (m1)
    · rewrite [if_neg c]
      have h := h.2 c
      exact (m1)
theorem wl_CB_condition {a : Nat} (ha : 207 ≤ a)  {s : am_M} {x1 : Int32} {x2 : Int32} {x3 : Int32} {x4 : Int32} {x5 : Int32} (h : p_CB_condition  s x1 x2 x3 x4 x5) : (f_CB_condition  s x1 x2 x3 x4 x5).2.2 a = s a := by
  unfold p_CB_condition at h
  unfold f_CB_condition
  obtain ⟨hc, h⟩ := h
  have m1 := wl_CB_wantQuestionColumn ha hc
  by_cases c : (f_CB_wantQuestionColumn s x1 x3).1 = 0
  rotate_left
  · rewrite [if_neg c]
    exact (m1)
  rewrite [if_pos c]
  have h := h c
  obtain ⟨hc, h⟩ := h
  by_cases c : (f_CB_wantPlain (f_CB_wantQuestionColumn s x1 x3).2 x1) = 0
  rotate_left
  · rewrite [if_neg c]
    exact (m1)
  rewrite [if_pos c]
  have h := h c
  by_cases c : x2 < 0
  · rewrite [if_pos c]
    have h := h.1 c
    exact (m1)
  · rewrite [if_neg c]
    have h := h.2 c
    by_cases c : (3 : Int32) ≤ x2
    · rewrite [if_pos c]
      have h := h.1 c
      exact (m1)
    · rewrite [if_neg c]
      have h := h.2 c
      by_cases c : x4 < 0
      · rewrite [if_pos c]
        have h := h.1 c
        exact (m1)
      · rewrite [if_neg c]
        have h := h.2 c
        by_cases c : (3 : Int32) < x4
        · rewrite [if_pos c]
          have h := h.1 c
          exact (m1)
        · rewrite [if_neg c]
          have h := h.2 c
          by_cases c : x5 < (-999999 : Int32)
          · rewrite [if_pos c]
            have h := h.1 c
            exact (m1)
          · rewrite [if_neg c]
            have h := h.2 c
            by_cases c : x5 ≤ (999999 : Int32)
            · rewrite [if_pos c]
              have h := h.1 c
              obtain ⟨hc, h⟩ := h
              obtain ⟨⟨b1, t1⟩, h⟩ := h
              by_cases c : ((f_CB_wantQuestionColumn s x1 x3).2 (f_AS_question (f_CB_wantQuestionColumn s x1 x3).2 x1) 12) < (6 : Int32)
              · rewrite [if_pos c]
                have h := h.1 c
                obtain ⟨hc, h⟩ := h
                have m2 := wl_QU_addCondition ha hc
                exact ((m2).trans (m1))
              · rewrite [if_neg c]
                have h := h.2 c
                exact (m1)
            · rewrite [if_neg c]
              have h := h.2 c
              exact (m1)
theorem wl_CB_drop {a : Nat} (ha : 207 ≤ a)  {s : am_M} {x1 : Int32} {x2 : Int32} (h : p_CB_drop  s x1 x2) : (f_CB_drop  s x1 x2).2.2 a = s a := by
  unfold p_CB_drop at h
  unfold f_CB_drop
  obtain ⟨hc, h⟩ := h
  by_cases c : (f_CB_wantColumn s x1 x2) = 0
  rotate_left
  · rewrite [if_neg c]
    exact rfl
  rewrite [if_pos c]
  have h := h c
  obtain ⟨hc, h⟩ := h
  by_cases c : (f_CB_wantNotDropped s x1 x2) = 0
  rotate_left
  · rewrite [if_neg c]
    exact rfl
  rewrite [if_pos c]
  have h := h c
  obtain ⟨hc, h⟩ := h
  by_cases c : (f_BA_isUsed s x1 x2) = 0
  · rewrite [if_pos c]
    have h := h.1 c
    obtain ⟨hc, h⟩ := h
    by_cases c : (f_AS_isUsed s x1 x2) = 0
    · rewrite [if_pos c]
      have h := h.1 c
      obtain ⟨hc, h⟩ := h
      have m1 := wl_BA_dropColumn ha hc
      obtain ⟨hc, h⟩ := h
      have m2 := wl_CB_tell ha hc
      obtain ⟨hz, h⟩ := h
      exact ((m2).trans (m1))
    · rewrite [if_neg c]
      have h := h.2 c
      obtain ⟨hc, h⟩ := h
      have m3 := wl_BA_refuse ha hc
      obtain ⟨hc, h⟩ := h
      have m4 := wl_CB_tell ha hc
      obtain ⟨hz, h⟩ := h
      exact ((m4).trans (m3))
  · rewrite [if_neg c]
    have h := h.2 c
    obtain ⟨hc, h⟩ := h
    have m5 := wl_BA_refuse ha hc
    obtain ⟨hc, h⟩ := h
    have m6 := wl_CB_tell ha hc
    obtain ⟨hz, h⟩ := h
    exact ((m6).trans (m5))
theorem wl_CB_forgetOldest_38 {a : Nat} (ha : 207 ≤ a)  {s : am_M} {x1 : Nat} {x2 : Int32} (h : p_CB_forgetOldest_38  s x1 x2) : (f_CB_forgetOldest_38  s x1 x2) a = s a := by
  unfold p_CB_forgetOldest_38 at h
  unfold f_CB_forgetOldest_38
  obtain ⟨⟨b1, t1⟩, h⟩ := h
  obtain ⟨hv, h⟩ := h
  exact (am_set_o (by omega))
theorem wl_CB_forgetOldest_9 {a : Nat} (ha : 207 ≤ a)  : ∀ (n : Nat) (s : am_M) (x1 : Nat) (x2 : Int32), p_CB_forgetOldest_9  n s x1 x2 → (f_CB_forgetOldest_9  n s x1 x2) a = s a := by
  intro n
  induction n with
  | zero => intro s x1 x2 h; exact h.elim
  | succ n hK9 =>
    intro s x1 x2 h
    unfold p_CB_forgetOldest_9 at h
    unfold f_CB_forgetOldest_9
    by_cases c : (6 : Int32) ≤ x2
    · rewrite [if_pos c]
      have h := h.1 c
      exact (wl_CB_forgetOldest_38 ha h)
    · rewrite [if_neg c]
      have h := h.2 c
      obtain ⟨hv, h⟩ := h
      obtain ⟨h0, h⟩ := h
      obtain ⟨⟨b1, t1⟩, h⟩ := h
      obtain ⟨hv, h⟩ := h
      exact ((hK9 _ _ _ h).trans (am_set_o (by omega)))
theorem wl_CB_forgetOldest {a : Nat} (ha : 207 ≤ a)  {s : am_M}  (h : p_CB_forgetOldest  s ) : (f_CB_forgetOldest  s ) a = s a := by
  unfold p_CB_forgetOldest at h
  unfold f_CB_forgetOldest
  obtain ⟨hv, h⟩ := h
  obtain ⟨h0, h⟩ := h
  obtain ⟨⟨b1, t1⟩, h⟩ := h
  exact (wl_CB_forgetOldest_9 ha am_F _ _ _ h)
theorem wl_CB_endRun {a : Nat} (ha : 207 ≤ a)  {s : am_M} {x1 : Int32} (h : p_CB_endRun  s x1) : (f_CB_endRun  s x1).2 a = s a := by
  unfold p_CB_endRun at h
  unfold f_CB_endRun
  by_cases c : (s 0 7) < 0
  · rewrite [if_pos c]
    have h := h.1 c
    exact rfl
  · rewrite [if_neg c]
    have h := h.2 c
    by_cases c : (s 0 7) < (6 : Int32)
    · rewrite [if_pos c]
      have h := h.1 c
      by_cases c : x1 = 0
      · rewrite [if_pos c]
        have h := h.1 c
        obtain ⟨hv, h⟩ := h
        obtain ⟨h0, h⟩ := h
        obtain ⟨⟨b1, t1⟩, h⟩ := h
        obtain ⟨hc, h⟩ := h
        have m1 := wl_RO_copyFrom ha hc
        obtain ⟨hc, h⟩ := h
        have m2 := wl_RE_copyFrom ha hc
        exact ((m2).trans (m1))
      · rewrite [if_neg c]
        have h := h.2 c
        obtain ⟨hc, h⟩ := h
        have m3 := wl_RE_clear ha hc
        by_cases c : (5 : Int32) ≤ ((f_RE_clear s 123) 0 7)
        · rewrite [if_pos c]
          have h := h.1 c
          obtain ⟨hc, h⟩ := h
          have m4 := wl_CB_forgetOldest ha hc
          exact ((m4).trans (m3))
        · rewrite [if_neg c]
          have h := h.2 c
          exact ((am_set_o (by omega)).trans (m3))
    · rewrite [if_neg c]
      have h := h.2 c
      exact rfl
theorem wl_CB_tellEntry {a : Nat} (ha : 207 ≤ a)  {s : am_M} {x1 : Int32} (h : p_CB_tellEntry  s x1) : (f_CB_tellEntry  s x1).2 a = s a := by
  unfold p_CB_tellEntry at h
  unfold f_CB_tellEntry
  by_cases c : x1 < 0
  · rewrite [if_pos c]
    have h := h.1 c
    obtain ⟨hc, h⟩ := h
    have m1 := wl_CB_tell ha hc
    by_cases c : (f_CB_tell s (0 : Int32)).1 = 0
    · rewrite [if_pos c]
      have h := h.1 c
      exact (m1)
    · rewrite [if_neg c]
      have h := h.2 c
      obtain ⟨hc, h⟩ := h
      have m2 := wl_JF_fill ha hc
      exact ((m2).trans (m1))
  · rewrite [if_neg c]
    have h := h.2 c
    obtain ⟨hc, h⟩ := h
    have m3 := wl_CB_tell ha hc
    by_cases c : (f_CB_tell s (1 : Int32)).1 = 0
    · rewrite [if_pos c]
      have h := h.1 c
      exact (m3)
    · rewrite [if_neg c]
      have h := h.2 c
      obtain ⟨hc, h⟩ := h
      have m4 := wl_JF_fill ha hc
      exact ((m4).trans (m3))
theorem wl_CB_enter {a : Nat} (ha : 207 ≤ a)  {s : am_M} {x1 : Int32} (h : p_CB_enter  s x1) : (f_CB_enter  s x1).2.2 a = s a := by
  unfold p_CB_enter at h
  unfold f_CB_enter
  by_cases c : (f_CB_wantTable s x1) = 0
  rotate_left
  · rewrite [if_neg c]
    exact rfl
  rewrite [if_pos c]
  have h := h c
  obtain ⟨hc, h⟩ := h
  by_cases c : (f_RO_isFull s 8 x1) = 0
  · rewrite [if_pos c]
    have h := h.1 c
    obtain ⟨hc, h⟩ := h
    have m1 := wl_BA_enterRow ha hc
    obtain ⟨hc, h⟩ := h
    have m2 := wl_CB_tellEntry ha hc
    exact ((m2).trans (m1))
  · rewrite [if_neg c]
    have h := h.2 c
    exact rfl
theorem wl_CB_enterInside {a : Nat} (ha : 207 ≤ a)  {s : am_M} {x1 : Int32} {x2 : Int32} (h : p_CB_enterInside  s x1 x2) : (f_CB_enterInside  s x1 x2).2.2 a = s a := by
  unfold p_CB_enterInside at h
  unfold f_CB_enterInside
  obtain ⟨hc, h⟩ := h
  by_cases c : (f_CB_wantColumn s x1 x2) = 0
  rotate_left
  · rewrite [if_neg c]
    exact rfl
  rewrite [if_pos c]
  have h := h c
  obtain ⟨hc, h⟩ := h
  by_cases c : (f_CB_isFormGood s) = 0
  · rewrite [if_pos c]
    have h := h.1 c
    exact rfl
  · rewrite [if_neg c]
    have h := h.2 c
    obtain ⟨hc, h⟩ := h
    by_cases c : (f_RO_isFull s 8 x1) = 0
    · rewrite [if_pos c]
      have h := h.1 c
      obtain ⟨hc, h⟩ := h
      by_cases c : (f_CB_wantLinkTo s x1 x2 (s 0 8)) = 0
      rotate_left
      · rewrite [if_neg c]
        exact rfl
      rewrite [if_pos c]
      have h := h c
      obtain ⟨hc, h⟩ := h
      have m1 := wl_BA_enterRow ha hc
      obtain ⟨hc, h⟩ := h
      have m2 := wl_CB_tellEntry ha hc
      exact ((m2).trans (m1))
    · rewrite [if_neg c]
      have h := h.2 c
      exact rfl
theorem wl_CB_keepAhead {a : Nat} (ha : 207 ≤ a)  {s : am_M}  (h : p_CB_keepAhead  s ) : (f_CB_keepAhead  s ) a = s a := by
  unfold p_CB_keepAhead at h
  unfold f_CB_keepAhead
  by_cases c : (s 0 7) < 0
  · rewrite [if_pos c]
    have h := h.1 c
    exact rfl
  · rewrite [if_neg c]
    have h := h.2 c
    by_cases c : (6 : Int32) ≤ (s 0 7)
    · rewrite [if_pos c]
      have h := h.1 c
      exact rfl
    · rewrite [if_neg c]
      have h := h.2 c
      obtain ⟨hv, h⟩ := h
      obtain ⟨h0, h⟩ := h
      obtain ⟨⟨b1, t1⟩, h⟩ := h
      obtain ⟨hc, h⟩ := h
      have m1 := wl_RO_copyFrom ha hc
      exact (m1)
theorem wl_CB_keyOf {a : Nat} (ha : 207 ≤ a)  {s : am_M} {x1 : Int32} {x2 : Int32} (h : p_CB_keyOf  s x1 x2) : (f_CB_keyOf  s x1 x2).2.2 a = s a := by
  unfold p_CB_keyOf at h
  unfold f_CB_keyOf
  obtain ⟨hc, h⟩ := h
  have m1 := wl_CB_wantQuestionColumn ha hc
  by_cases c : (f_CB_wantQuestionColumn s x1 x2).1 = 0
  rotate_left
  · rewrite [if_neg c]
    exact (m1)
  rewrite [if_pos c]
  have h := h c
  by_cases c : x2 = 0
  · rewrite [if_pos c]
    have h := h.1 c
    exact (m1)
  · rewrite [if_neg c]
    have h := h.2 c
    obtain ⟨hc, h⟩ := h
    obtain ⟨⟨b1, t1⟩, h⟩ := h
    by_cases c : ((f_CB_wantQuestionColumn s x1 x2).2 (f_AS_question (f_CB_wantQuestionColumn s x1 x2).2 x1) 0) = (2 : Int32)
    · rewrite [if_pos c]
      have h := h.1 c
      obtain ⟨hc, h⟩ := h
      have m2 := wl_AS_find ha hc
      obtain ⟨hc, h⟩ := h
      exact ((m2).trans (m1))
    · rewrite [if_neg c]
      have h := h.2 c
      exact (m1)
theorem wl_CB_narrow {a : Nat} (ha : 207 ≤ a)  {s : am_M} {x1 : Int32} {x2 : Int32} {x3 : Int32} {x4 : Int32} (h : p_CB_narrow  s x1 x2 x3 x4) : (f_CB_narrow  s x1 x2 x3 x4).2.2 a = s a := by
  unfold p_CB_narrow at h
  unfold f_CB_narrow
  obtain ⟨hc, h⟩ := h
  by_cases c : (f_CB_wantColumn s x1 x2) = 0
  rotate_left
  · rewrite [if_neg c]
    exact rfl
  rewrite [if_pos c]
  have h := h c
  obtain ⟨hc, h⟩ := h
  by_cases c : (f_CB_wantNumberColumn s x1 x2) = 0
  rotate_left
  · rewrite [if_neg c]
    exact rfl
  rewrite [if_pos c]
  have h := h c
  by_cases c : (f_CB_wantRange s x3 x4) = 0
  rotate_left
  · rewrite [if_neg c]
    exact rfl
  rewrite [if_pos c]
  have h := h c
  obtain ⟨hc, h⟩ := h
  have m1 := wl_BA_changeRange ha hc
  obtain ⟨hc, h⟩ := h
  have m2 := wl_CB_tell ha hc
  obtain ⟨hz, h⟩ := h
  exact ((m2).trans (m1))
theorem wl_CB_need {a : Nat} (ha : 207 ≤ a)  {s : am_M} {x1 : Int32} {x2 : Int32} {x3 : Int32} (h : p_CB_need  s x1 x2 x3) : (f_CB_need  s x1 x2 x3).2.2 a = s a := by
  unfold p_CB_need at h
  unfold f_CB_need
  obtain ⟨hc, h⟩ := h
  by_cases c : (f_CB_wantColumn s x1 x2) = 0
  rotate_left
  · rewrite [if_neg c]
    exact rfl
  rewrite [if_pos c]
  have h := h c
  obtain ⟨hc, h⟩ := h
  by_cases c : (f_CB_wantStored s x1 x2) = 0
  rotate_left
  · rewrite [if_neg c]
    exact rfl
  rewrite [if_pos c]
  have h := h c
  obtain ⟨hc, h⟩ := h
  have m1 := wl_BA_changeNeeded ha hc
  obtain ⟨hc, h⟩ := h
  have m2 := wl_CB_tell ha hc
  obtain ⟨hz, h⟩ := h
  exact ((m2).trans (m1))
theorem wl_CB_openForm {a : Nat} (ha : 207 ≤ a)  {s : am_M} {x1 : Int32} {x2 : Int32} (h : p_CB_openForm  s x1 x2) : (f_CB_openForm  s x1 x2).2 a = s a := by
  unfold p_CB_openForm at h
  unfold f_CB_openForm
  obtain ⟨hc, h⟩ := h
  by_cases c : (f_CB_wantRow s x1 x2) = 0
  rotate_left
  · rewrite [if_neg c]
    exact rfl
  rewrite [if_pos c]
  have h := h c
  obtain ⟨hc, h⟩ := h
  exact ((am_set_o (by omega)).trans ((am_set_o (by omega)).trans (am_set_o (by omega))))
theorem wl_CB_put {a : Nat} (ha : 207 ≤ a)  {s : am_M} {x1 : Int32} {x2 : Int32} {x3 : Int32} {x4 : Int32} (h : p_CB_put  s x1 x2 x3 x4) : (f_CB_put  s x1 x2 x3 x4).2.2 a = s a := by
  unfold p_CB_put at h
  unfold f_CB_put
  obtain ⟨hc, h⟩ := h
  by_cases c : (f_CB_wantRow s x1 x2) = 0
  rotate_left
  · rewrite [if_neg c]
    exact rfl
  rewrite [if_pos c]
  have h := h c
  obtain ⟨hc, h⟩ := h
  by_cases c : (f_CB_wantColumn s x1 x3) = 0
  rotate_left
  · rewrite [if_neg c]
    exact rfl
  rewrite [if_pos c]
  have h := h c
  obtain ⟨hc, h⟩ := h
  by_cases c : (f_CB_wantStored s x1 x3) = 0
  rotate_left
  · rewrite [if_neg c]
    exact rfl
  rewrite [if_pos c]
  have h := h c
  by_cases c : (f_CB_wantValue s x4) = 0
  rotate_left
  · rewrite [if_neg c]
    exact rfl
  rewrite [if_pos c]
  have h := h c
  obtain ⟨hc, h⟩ := h
  have m1 := wl_BA_putThrough ha hc
  obtain ⟨hc, h⟩ := h
  have m2 := wl_CB_tell ha hc
  obtain ⟨hz, h⟩ := h
  exact ((m2).trans (m1))
theorem wl_CB_putInAll_34 {a : Nat} (ha : 207 ≤ a)  : ∀ (n : Nat) (s : am_M) (x1 : Nat) (x2 : Int32) (x3 : Int32) (x4 : Int32), p_CB_putInAll_34  n s x1 x2 x3 x4 → (f_CB_putInAll_34  n s x1 x2 x3 x4).2 a = s a := by
  intro n
  induction n with
  | zero => intro s x1 x2 x3 x4 h; exact h.elim
  | succ n hK34 =>
    intro s x1 x2 x3 x4 h
    unfold p_CB_putInAll_34 at h
    unfold f_CB_putInAll_34
    by_cases c : x2 ≤ x4
    · rewrite [if_pos c]
      have h := h.1 c
      exact rfl
    · rewrite [if_neg c]
      have h := h.2 c
      obtain ⟨⟨b1, t1⟩, h⟩ := h
      obtain ⟨hc, h⟩ := h
      obtain ⟨hc, h⟩ := h
      have m1 := wl_BA_putThrough ha hc
      by_cases c : (f_BA_putThrough s x3 (f_AS_rowOf s (s x1 1) x4 (s x1 2)) (s x1 3)).1 = 0
      · rewrite [if_pos c]
        have h := h.1 c
        exact (m1)
      · rewrite [if_neg c]
        have h := h.2 c
        exact ((hK34 _ _ _ _ _ h).trans (m1))
theorem wl_CB_putInAll {a : Nat} (ha : 207 ≤ a)  {s : am_M} {x1 : Nat} (h : p_CB_putInAll  s x1) : (f_CB_putInAll  s x1).2 a = s a := by
  unfold p_CB_putInAll at h
  unfold f_CB_putInAll
  obtain ⟨⟨b1, t1⟩, h⟩ := h
  obtain ⟨hc, h⟩ := h
  have m1 := wl_AS_find ha hc
  obtain ⟨hc, h⟩ := h
  obtain ⟨hc, h⟩ := h
  obtain ⟨⟨b2, t2⟩, h⟩ := h
  exact ((wl_CB_putInAll_34 ha am_F _ _ _ _ _ h).trans (m1))
theorem wl_CB_reckonAnew {a : Nat} (ha : 207 ≤ a)  {s : am_M} {x1 : Int32} {x2 : Int32} {x3 : Int32} {x4 : Int32} {x5 : Int32} {x6 : Int32} (h : p_CB_reckonAnew  s x1 x2 x3 x4 x5 x6) : (f_CB_reckonAnew  s x1 x2 x3 x4 x5 x6).2.2 a = s a := by
  unfold p_CB_reckonAnew at h
  unfold f_CB_reckonAnew
  obtain ⟨hc, h⟩ := h
  by_cases c : (f_CB_wantColumn s x1 x2) = 0
  rotate_left
  · rewrite [if_neg c]
    exact rfl
  rewrite [if_pos c]
  have h := h c
  obtain ⟨hc, h⟩ := h
  by_cases c : (f_CB_wantFormula s x1 x3 x4 x5 x6) = 0
  rotate_left
  · rewrite [if_neg c]
    exact rfl
  rewrite [if_pos c]
  have h := h c
  obtain ⟨hc, h⟩ := h
  obtain ⟨⟨b1, t1⟩, h⟩ := h
  by_cases c : (s (f_BA_column s x1 x2) 0) = (3 : Int32)
  · rewrite [if_pos c]
    have h := h.1 c
    obtain ⟨hc, h⟩ := h
    have m1 := wl_BA_changeFormula ha hc
    obtain ⟨hc, h⟩ := h
    have m2 := wl_CB_tell ha hc
    obtain ⟨hz, h⟩ := h
    exact ((m2).trans (m1))
  · rewrite [if_neg c]
    have h := h.2 c
    exact rfl
theorem wl_CB_remove {a : Nat} (ha : 207 ≤ a)  {s : am_M} {x1 : Int32} {x2 : Int32} (h : p_CB_remove  s x1 x2) : (f_CB_remove  s x1 x2).2.2 a = s a := by
  unfold p_CB_remove at h
  unfold f_CB_remove
  obtain ⟨hc, h⟩ := h
  by_cases c : (f_CB_wantRow s x1 x2) = 0
  rotate_left
  · rewrite [if_neg c]
    exact rfl
  rewrite [if_pos c]
  have h := h c
  obtain ⟨hc, h⟩ := h
  have m1 := wl_BA_takeOut ha hc
  obtain ⟨hc, h⟩ := h
  have m2 := wl_CB_tell ha hc
  obtain ⟨hz, h⟩ := h
  exact ((m2).trans (m1))
theorem wl_CB_removeAll_124 {a : Nat} (ha : 207 ≤ a) {K62 : am_M → Nat → Int32 → Int32 → Int32 → Int32 × am_M} {KP62 : am_M → Nat → Int32 → Int32 → Int32 → Prop} (hK62 : ∀ (s : am_M) (x1 : Nat) (x2 : Int32) (x3 : Int32) (x4 : Int32), KP62 s x1 x2 x3 x4 → (K62 s x1 x2 x3 x4).2 a = s a) {s : am_M} {x1 : Nat} {x2 : Int32} {x3 : Int32} {x4 : Int32} {x5 : Int32} (h : p_CB_removeAll_124 KP62 s x1 x2 x3 x4 x5) : (f_CB_removeAll_124 K62 s x1 x2 x3 x4 x5).2 a = s a := by
  unfold p_CB_removeAll_124 at h
  unfold f_CB_removeAll_124
  exact (hK62 _ _ _ _ _ h)
theorem wl_CB_removeAll_62 {a : Nat} (ha : 207 ≤ a)  : ∀ (n : Nat) (s : am_M) (x1 : Nat) (x2 : Int32) (x3 : Int32) (x4 : Int32), p_CB_removeAll_62  n s x1 x2 x3 x4 → (f_CB_removeAll_62  n s x1 x2 x3 x4).2 a = s a := by
  intro n
  induction n with
  | zero => intro s x1 x2 x3 x4 h; exact h.elim
  | succ n hK62 =>
    intro s x1 x2 x3 x4 h
    unfold p_CB_removeAll_62 at h
    unfold f_CB_removeAll_62
    by_cases c : x2 ≤ x4
    · rewrite [if_pos c]
      have h := h.1 c
      exact rfl
    · rewrite [if_neg c]
      have h := h.2 c
      obtain ⟨⟨b1, t1⟩, h⟩ := h
      obtain ⟨hc, h⟩ := h
      obtain ⟨hc, h⟩ := h
      by_cases c : (f_RO_has s 8 (x3 / (10 : Int32)) (f_AS_rowOf s (s x1 1) x4 (s x1 2))) = 0
      · rewrite [if_pos c]
        have h := h.1 c
        exact (wl_CB_removeAll_124 ha hK62 h)
      · rewrite [if_neg c]
        have h := h.2 c
        obtain ⟨hc, h⟩ := h
        have m1 := wl_BA_takeOut ha hc
        by_cases c : (f_BA_takeOut s (x3 / (10 : Int32)) (f_AS_rowOf s (s x1 1) x4 (s x1 2))).1 = 0
        · rewrite [if_pos c]
          have h := h.1 c
          exact (m1)
        · rewrite [if_neg c]
          have h := h.2 c
          exact ((wl_CB_removeAll_124 ha hK62 h).trans (m1))
theorem wl_CB_removeAll {a : Nat} (ha : 207 ≤ a)  {s : am_M} {x1 : Nat} (h : p_CB_removeAll  s x1) : (f_CB_removeAll  s x1).2 a = s a := by
  unfold p_CB_removeAll at h
  unfold f_CB_removeAll
  obtain ⟨⟨b1, t1⟩, h⟩ := h
  obtain ⟨hc, h⟩ := h
  have m1 := wl_AS_find ha hc
  obtain ⟨hc, h⟩ := h
  obtain ⟨hc, h⟩ := h
  obtain ⟨⟨b2, t2⟩, h⟩ := h
  by_cases c : 0 ≤ (f_QU_originOf (f_AS_find s (s x1 1)).2 (f_AS_question (f_AS_find s (s x1 1)).2 ((f_AS_find s (s x1 1)).2 x1 1)) ((f_AS_find s (s x1 1)).2 x1 2))
  · rewrite [if_pos c]
    have h := h.1 c
    exact ((wl_CB_removeAll_62 ha am_F _ _ _ _ _ h).trans (m1))
  · rewrite [if_neg c]
    have h := h.2 c
    by_cases c : (f_AS_find s (s x1 1)).1 = 0
    · rewrite [if_pos c]
      have h := h.1 c
      exact (m1)
    · rewrite [if_neg c]
      have h := h.2 c
      obtain ⟨hc, h⟩ := h
      have m2 := wl_BA_refuse ha hc
      by_cases c : (f_BA_refuse (f_AS_find s (s x1 1)).2 (7 : Int32) (-1 : Int32) (-1 : Int32)).1 = 0
      · rewrite [if_pos c]
        have h := h.1 c
        exact ((m2).trans (m1))
      · rewrite [if_neg c]
        have h := h.2 c
        exact ((m2).trans (m1))
theorem wl_CB_run_132 {a : Nat} (ha : 207 ≤ a) {K18 : am_M → Int32 → Nat → Int32 → Nat × Int32 × am_M} {KP18 : am_M → Int32 → Nat → Int32 → Prop} (hK18 : ∀ (s : am_M) (x1 : Int32) (x2 : Nat) (x3 : Int32), KP18 s x1 x2 x3 → (K18 s x1 x2 x3).2.2 a = s a) {s : am_M} {x1 : Int32} {x2 : Nat} {x3 : Int32} {x4 : Nat} {x5 : Int32} (h : p_CB_run_132 KP18 s x1 x2 x3 x4 x5) : (f_CB_run_132 K18 s x1 x2 x3 x4 x5).2.2 a = s a := by
  unfold p_CB_run_132 at h
  unfold f_CB_run_132
  by_cases c : x5 = 0
  · rewrite [if_pos c]
    have h := h.1 c
    obtain ⟨hc, h⟩ := h
    have m1 := wl_CB_endRun ha hc
    obtain ⟨hz, h⟩ := h
    exact (m1)
  · rewrite [if_neg c]
    have h := h.2 c
    exact (hK18 _ _ _ _ h)
theorem wl_CB_run_18 {a : Nat} (ha : 207 ≤ a)  : ∀ (n : Nat) (s : am_M) (x1 : Int32) (x2 : Nat) (x3 : Int32), p_CB_run_18  n s x1 x2 x3 → (f_CB_run_18  n s x1 x2 x3).2.2 a = s a := by
  intro n
  induction n with
  | zero => intro s x1 x2 x3 h; exact h.elim
  | succ n hK18 =>
    intro s x1 x2 x3 h
    unfold p_CB_run_18 at h
    unfold f_CB_run_18
    obtain ⟨⟨b1, t1⟩, h⟩ := h
    by_cases c : (s x2 1) ≤ x3
    · rewrite [if_pos c]
      have h := h.1 c
      obtain ⟨hc, h⟩ := h
      have m1 := wl_CB_endRun ha hc
      obtain ⟨hz, h⟩ := h
      exact (m1)
    · rewrite [if_neg c]
      have h := h.2 c
      by_cases c : (6 : Int32) ≤ x3
      · rewrite [if_pos c]
        have h := h.1 c
        obtain ⟨hc, h⟩ := h
        have m2 := wl_CB_endRun ha hc
        obtain ⟨hz, h⟩ := h
        exact (m2)
      · rewrite [if_neg c]
        have h := h.2 c
        obtain ⟨⟨b2, t2⟩, h⟩ := h
        obtain ⟨hv, h⟩ := h
        obtain ⟨⟨b3, t3⟩, h⟩ := h
        by_cases c : (s (am_lk (am_lk x2 0) (x3).toNatClampNeg) 0) = (0 : Int32)
        · rewrite [if_pos c]
          have h := h.1 c
          obtain ⟨hc, h⟩ := h
          have m3 := wl_CB_putInAll ha hc
          exact ((wl_CB_run_132 ha hK18 h).trans (m3))
        · rewrite [if_neg c]
          have h := h.2 c
          have n0 := c
          by_cases c : (s (am_lk (am_lk x2 0) (x3).toNatClampNeg) 0) = (1 : Int32)
          · rewrite [if_pos c]
            have h := h.1 c
            obtain ⟨hc, h⟩ := h
            have m4 := wl_CB_addFrom ha hc
            exact ((wl_CB_run_132 ha hK18 h).trans (m4))
          · rewrite [if_neg c]
            have h := h.2 c
            have n1 := c
            by_cases c : (s (am_lk (am_lk x2 0) (x3).toNatClampNeg) 0) = (2 : Int32)
            · rewrite [if_pos c]
              have h := h.1 c
              obtain ⟨hc, h⟩ := h
              have m5 := wl_CB_removeAll ha hc
              exact ((wl_CB_run_132 ha hK18 h).trans (m5))
            · rewrite [if_neg c]
              have h := h.2 c
              have n2 := c
              obtain ⟨hc, h⟩ := h
              have m6 := wl_AS_find ha hc
              by_cases c : (f_AS_find s (s (am_lk (am_lk x2 0) (x3).toNatClampNeg) 1)).1 = 0
              · rewrite [if_pos c]
                have h := h.1 c
                exact ((wl_CB_run_132 ha hK18 h).trans (m6))
              · rewrite [if_neg c]
                have h := h.2 c
                exact ((wl_CB_run_132 ha hK18 h).trans (m6))
theorem wl_CB_run {a : Nat} (ha : 207 ≤ a)  {s : am_M} {x1 : Int32} (h : p_CB_run  s x1) : (f_CB_run  s x1).2.2 a = s a := by
  unfold p_CB_run at h
  unfold f_CB_run
  by_cases c : (f_CB_wantAct s x1) = 0
  rotate_left
  · rewrite [if_neg c]
    exact rfl
  rewrite [if_pos c]
  have h := h c
  obtain ⟨hc, h⟩ := h
  have m1 := wl_CB_keepAhead ha hc
  obtain ⟨hv, h⟩ := h
  obtain ⟨⟨b1, t1⟩, h⟩ := h
  exact ((wl_CB_run_18 ha am_F _ _ _ _ h).trans (m1))
theorem wl_CB_setRemoval {a : Nat} (ha : 207 ≤ a)  {s : am_M} {x1 : Int32} {x2 : Int32} {x3 : Int32} (h : p_CB_setRemoval  s x1 x2 x3) : (f_CB_setRemoval  s x1 x2 x3).2.2 a = s a := by
  unfold p_CB_setRemoval at h
  unfold f_CB_setRemoval
  obtain ⟨hc, h⟩ := h
  by_cases c : (f_CB_wantColumn s x1 x2) = 0
  rotate_left
  · rewrite [if_neg c]
    exact rfl
  rewrite [if_pos c]
  have h := h c
  obtain ⟨hc, h⟩ := h
  by_cases c : (f_CB_wantLink s x1 x2) = 0
  rotate_left
  · rewrite [if_neg c]
    exact rfl
  rewrite [if_pos c]
  have h := h c
  by_cases c : (f_CB_wantRemoval s x3) = 0
  rotate_left
  · rewrite [if_neg c]
    exact rfl
  rewrite [if_pos c]
  have h := h c
  obtain ⟨hc, h⟩ := h
  obtain ⟨⟨b1, t1⟩, h⟩ := h
  exact ((am_set_o (by omega)).trans (wl_CB_forgetActs ha))
theorem wl_CB_single {a : Nat} (ha : 207 ≤ a)  {s : am_M} {x1 : Int32} {x2 : Int32} {x3 : Int32} (h : p_CB_single  s x1 x2 x3) : (f_CB_single  s x1 x2 x3).2.2 a = s a := by
  unfold p_CB_single at h
  unfold f_CB_single
  obtain ⟨hc, h⟩ := h
  by_cases c : (f_CB_wantColumn s x1 x2) = 0
  rotate_left
  · rewrite [if_neg c]
    exact rfl
  rewrite [if_pos c]
  have h := h c
  obtain ⟨hc, h⟩ := h
  by_cases c : (f_CB_wantStored s x1 x2) = 0
  rotate_left
  · rewrite [if_neg c]
    exact rfl
  rewrite [if_pos c]
  have h := h c
  obtain ⟨hc, h⟩ := h
  have m1 := wl_BA_changeSingle ha hc
  obtain ⟨hc, h⟩ := h
  have m2 := wl_CB_tell ha hc
  obtain ⟨hz, h⟩ := h
  exact ((m2).trans (m1))
theorem wl_CB_stepAdd {a : Nat} (ha : 207 ≤ a)  {s : am_M} {x1 : Int32} {x2 : Int32} (h : p_CB_stepAdd  s x1 x2) : (f_CB_stepAdd  s x1 x2).2.2 a = s a := by
  unfold p_CB_stepAdd at h
  unfold f_CB_stepAdd
  by_cases c : (f_CB_wantAct s x1) = 0
  rotate_left
  · rewrite [if_neg c]
    exact rfl
  rewrite [if_pos c]
  have h := h c
  by_cases c : (f_CB_wantTable s x2) = 0
  rotate_left
  · rewrite [if_neg c]
    exact rfl
  rewrite [if_pos c]
  have h := h c
  obtain ⟨hc, h⟩ := h
  by_cases c : (f_CB_wantStepPlace s x1) = 0
  rotate_left
  · rewrite [if_neg c]
    exact rfl
  rewrite [if_pos c]
  have h := h c
  obtain ⟨hv, h⟩ := h
  obtain ⟨⟨b1, t1⟩, h⟩ := h
  obtain ⟨hc, h⟩ := h
  have m1 := wl_AC_keepDraft ha hc
  obtain ⟨hv, h⟩ := h
  obtain ⟨hc, h⟩ := h
  have m2 := wl_AC_addStep ha hc
  exact ((m2).trans (m1))
theorem wl_CB_stepIf {a : Nat} (ha : 207 ≤ a)  {s : am_M} {x1 : Int32} {x2 : Int32} {x3 : Int32} (h : p_CB_stepIf  s x1 x2 x3) : (f_CB_stepIf  s x1 x2 x3).2.2 a = s a := by
  unfold p_CB_stepIf at h
  unfold f_CB_stepIf
  by_cases c : (f_CB_wantAct s x1) = 0
  rotate_left
  · rewrite [if_neg c]
    exact rfl
  rewrite [if_pos c]
  have h := h c
  by_cases c : (f_CB_wantQuestion s x2) = 0
  rotate_left
  · rewrite [if_neg c]
    exact rfl
  rewrite [if_pos c]
  have h := h c
  by_cases c : x3 < (1 : Int32)
  · rewrite [if_pos c]
    have h := h.1 c
    exact rfl
  · rewrite [if_neg c]
    have h := h.2 c
    by_cases c : x3 < (6 : Int32)
    · rewrite [if_pos c]
      have h := h.1 c
      obtain ⟨hc, h⟩ := h
      by_cases c : (f_CB_wantStepPlace s x1) = 0
      rotate_left
      · rewrite [if_neg c]
        exact rfl
      rewrite [if_pos c]
      have h := h c
      obtain ⟨hv, h⟩ := h
      obtain ⟨⟨b1, t1⟩, h⟩ := h
      obtain ⟨hc, h⟩ := h
      have m1 := wl_AC_addStep ha hc
      exact (m1)
    · rewrite [if_neg c]
      have h := h.2 c
      exact rfl
theorem wl_CB_stepPut {a : Nat} (ha : 207 ≤ a)  {s : am_M} {x1 : Int32} {x2 : Int32} {x3 : Int32} {x4 : Int32} (h : p_CB_stepPut  s x1 x2 x3 x4) : (f_CB_stepPut  s x1 x2 x3 x4).2.2 a = s a := by
  unfold p_CB_stepPut at h
  unfold f_CB_stepPut
  by_cases c : (f_CB_wantAct s x1) = 0
  rotate_left
  · rewrite [if_neg c]
    exact rfl
  rewrite [if_pos c]
  have h := h c
  obtain ⟨hc, h⟩ := h
  have m1 := wl_CB_wantQuestionColumn ha hc
  by_cases c : (f_CB_wantQuestionColumn s x2 x3).1 = 0
  rotate_left
  · rewrite [if_neg c]
    exact (m1)
  rewrite [if_pos c]
  have h := h c
  obtain ⟨hc, h⟩ := h
  by_cases c : (f_CB_wantPlain (f_CB_wantQuestionColumn s x2 x3).2 x2) = 0
  rotate_left
  · rewrite [if_neg c]
    exact (m1)
  rewrite [if_pos c]
  have h := h c
  by_cases c : (f_CB_wantValue (f_CB_wantQuestionColumn s x2 x3).2 x4) = 0
  rotate_left
  · rewrite [if_neg c]
    exact (m1)
  rewrite [if_pos c]
  have h := h c
  obtain ⟨hc, h⟩ := h
  by_cases c : (f_CB_wantStepPlace (f_CB_wantQuestionColumn s x2 x3).2 x1) = 0
  rotate_left
  · rewrite [if_neg c]
    exact (m1)
  rewrite [if_pos c]
  have h := h c
  obtain ⟨hv, h⟩ := h
  obtain ⟨⟨b1, t1⟩, h⟩ := h
  obtain ⟨hc, h⟩ := h
  have m2 := wl_AC_addStep ha hc
  exact ((m2).trans (m1))
theorem wl_CB_stepRemove {a : Nat} (ha : 207 ≤ a)  {s : am_M} {x1 : Int32} {x2 : Int32} {x3 : Int32} (h : p_CB_stepRemove  s x1 x2 x3) : (f_CB_stepRemove  s x1 x2 x3).2.2 a = s a := by
  unfold p_CB_stepRemove at h
  unfold f_CB_stepRemove
  by_cases c : (f_CB_wantAct s x1) = 0
  rotate_left
  · rewrite [if_neg c]
    exact rfl
  rewrite [if_pos c]
  have h := h c
  obtain ⟨hc, h⟩ := h
  have m1 := wl_CB_wantQuestionColumn ha hc
  by_cases c : (f_CB_wantQuestionColumn s x2 x3).1 = 0
  rotate_left
  · rewrite [if_neg c]
    exact (m1)
  rewrite [if_pos c]
  have h := h c
  obtain ⟨hc, h⟩ := h
  by_cases c : (f_CB_wantPlain (f_CB_wantQuestionColumn s x2 x3).2 x2) = 0
  rotate_left
  · rewrite [if_neg c]
    exact (m1)
  rewrite [if_pos c]
  have h := h c
  obtain ⟨hc, h⟩ := h
  by_cases c : (f_CB_wantStepPlace (f_CB_wantQuestionColumn s x2 x3).2 x1) = 0
  rotate_left
  · rewrite [if_neg c]
    exact (m1)
  rewrite [if_pos c]
  have h := h c
  obtain ⟨hv, h⟩ := h
  obtain ⟨⟨b1, t1⟩, h⟩ := h
  obtain ⟨hc, h⟩ := h
  have m2 := wl_AC_addStep ha hc
  exact ((m2).trans (m1))
theorem wl_CB_target {a : Nat} (ha : 207 ≤ a)  {s : am_M} {x1 : Int32} {x2 : Int32} {x3 : Int32} (h : p_CB_target  s x1 x2 x3) : (f_CB_target  s x1 x2 x3).2.2 a = s a := by
  unfold p_CB_target at h
  unfold f_CB_target
  obtain ⟨hc, h⟩ := h
  have m1 := wl_CB_wantAnswer ha hc
  by_cases c : (f_CB_wantAnswer s x1 x2 x3).1 = 0
  rotate_left
  · rewrite [if_neg c]
    exact (m1)
  rewrite [if_pos c]
  have h := h c
  obtain ⟨hc, h⟩ := h
  obtain ⟨hc, h⟩ := h
  obtain ⟨⟨b1, t1⟩, h⟩ := h
  obtain ⟨hc, h⟩ := h
  by_cases c : (f_BA_isStored (f_CB_wantAnswer s x1 x2 x3).2 (f_QU_originOf (f_CB_wantAnswer s x1 x2 x3).2 (f_AS_question (f_CB_wantAnswer s x1 x2 x3).2 x1) x3)) = 0
  · rewrite [if_pos c]
    have h := h.1 c
    exact (m1)
  · rewrite [if_neg c]
    have h := h.2 c
    obtain ⟨hc, h⟩ := h
    exact (m1)
theorem wl_CB_type {a : Nat} (ha : 207 ≤ a)  {s : am_M} {x1 : Int32} {x2 : Int32} (h : p_CB_type  s x1 x2) : (f_CB_type  s x1 x2).2.2 a = s a := by
  unfold p_CB_type at h
  unfold f_CB_type
  by_cases c : x1 < 0
  · rewrite [if_pos c]
    have h := h.1 c
    exact rfl
  · rewrite [if_neg c]
    have h := h.2 c
    by_cases c : x1 < (6 : Int32)
    · rewrite [if_pos c]
      have h := h.1 c
      by_cases c : (f_CB_wantValue s x2) = 0
      rotate_left
      · rewrite [if_neg c]
        exact rfl
      rewrite [if_pos c]
      have h := h c
      obtain ⟨hv, h⟩ := h
      obtain ⟨hv, h⟩ := h
      exact (am_set_o (by omega))
    · rewrite [if_neg c]
      have h := h.2 c
      exact rfl
theorem wl_CB_undo {a : Nat} (ha : 207 ≤ a)  {s : am_M}  (h : p_CB_undo  s ) : (f_CB_undo  s ).2.2 a = s a := by
  unfold p_CB_undo at h
  unfold f_CB_undo
  by_cases c : (s 0 7) < (1 : Int32)
  · rewrite [if_pos c]
    have h := h.1 c
    exact rfl
  · rewrite [if_neg c]
    have h := h.2 c
    by_cases c : (s 0 7) ≤ (5 : Int32)
    · rewrite [if_pos c]
      have h := h.1 c
      obtain ⟨hv, h⟩ := h
      obtain ⟨h0, h⟩ := h
      obtain ⟨⟨b1, t1⟩, h⟩ := h
      obtain ⟨hc, h⟩ := h
      have m1 := wl_RO_copyFrom ha hc
      exact ((m1).trans (am_set_o (by omega)))
    · rewrite [if_neg c]
      have h := h.2 c
      exact rfl
theorem wl_CB_write {a : Nat} (ha : 207 ≤ a)  {s : am_M} {x1 : Int32} {x2 : Int32} {x3 : Int32} {x4 : Int32} (h : p_CB_write  s x1 x2 x3 x4) : (f_CB_write  s x1 x2 x3 x4).2.2 a = s a := by
  unfold p_CB_write at h
  unfold f_CB_write
  obtain ⟨hc, h⟩ := h
  have m1 := wl_CB_wantAnswer ha hc
  by_cases c : (f_CB_wantAnswer s x1 x2 x3).1 = 0
  rotate_left
  · rewrite [if_neg c]
    exact (m1)
  rewrite [if_pos c]
  have h := h c
  by_cases c : (f_CB_wantValue (f_CB_wantAnswer s x1 x2 x3).2 x4) = 0
  rotate_left
  · rewrite [if_neg c]
    exact (m1)
  rewrite [if_pos c]
  have h := h c
  obtain ⟨hc, h⟩ := h
  obtain ⟨hc, h⟩ := h
  obtain ⟨⟨b1, t1⟩, h⟩ := h
  obtain ⟨hc, h⟩ := h
  obtain ⟨hc, h⟩ := h
  have m2 := wl_BA_putThrough ha hc
  obtain ⟨hc, h⟩ := h
  have m3 := wl_CB_tell ha hc
  obtain ⟨hz, h⟩ := h
  exact ((m3).trans ((m2).trans (m1)))

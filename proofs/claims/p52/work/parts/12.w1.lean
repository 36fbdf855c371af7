theorem wl_JF_fill_5 {a : Nat} (ha : 207 ≤ a)  : ∀ (n : Nat) (s : am_M) (x0 : Nat) (x1 : Int32) (x2 : Int32) (x3 : Int32), p_JF_fill_5  n s x0 x1 x2 x3 → (f_JF_fill_5  n s x0 x1 x2 x3) a = s a := by
  intro n
  induction n with
  | zero => intro s x0 x1 x2 x3 h; exact h.elim
  | succ n hK5 =>
    intro s x0 x1 x2 x3 h
    unfold p_JF_fill_5 at h
    unfold f_JF_fill_5
    by_cases c : x3 ≤ x2
    · rewrite [if_pos c]
      have h := h.1 c
      exact rfl
    · rewrite [if_neg c]
      have h := h.2 c
      obtain ⟨⟨b1, t1⟩, h⟩ := h
      obtain ⟨hv, h⟩ := h
      exact ((hK5 _ _ _ _ _ h).trans (am_set_o (by omega)))
theorem wl_JF_fill {a : Nat} (ha : 207 ≤ a)  {s : am_M} {x0 : Nat} {x1 : Int32} (h : p_JF_fill  s x0 x1) : (f_JF_fill  s x0 x1) a = s a := by
  unfold p_JF_fill at h
  unfold f_JF_fill
  obtain ⟨⟨b1, t1⟩, h⟩ := h
  exact (wl_JF_fill_5 ha am_F _ _ _ _ _ h)
theorem wl_RE_setFirst {a : Nat} (ha : 207 ≤ a)  {s : am_M} {i : Nat} {x1 : Int32} {x2 : Int32} {x3 : Int32} {x4 : Int32} (h : p_RE_setFirst  s i x1 x2 x3 x4) : (f_RE_setFirst  s i x1 x2 x3 x4) a = s a := by
  unfold p_RE_setFirst at h
  unfold f_RE_setFirst
  obtain ⟨⟨b1, t1⟩, h⟩ := h
  by_cases c : (s i 0) = 0
  · rewrite [if_pos c]
    have h := h.1 c
    exact ((am_set_o (by omega)).trans ((am_set_o (by omega)).trans ((am_set_o (by omega)).trans (am_set_o (by omega)))))
  · rewrite [if_neg c]
    have h := h.2 c
    exact rfl
theorem wl_RE_set {a : Nat} (ha : 207 ≤ a)  {s : am_M} {i : Nat} {x1 : Int32} {x2 : Int32} {x3 : Int32} {x4 : Int32} (h : p_RE_set  s i x1 x2 x3 x4) : (f_RE_set  s i x1 x2 x3 x4) a = s a := by
  unfold p_RE_set at h
  unfold f_RE_set
  obtain ⟨⟨b1, t1⟩, h⟩ := h
  obtain ⟨hc, h⟩ := h
  have m1 := wl_RE_setFirst ha hc
  exact ((m1).trans (am_set_o (by omega)))
theorem wl_RO_copyFrom {a : Nat} (ha : 207 ≤ a)  {s : am_M} {i : Nat} {x1 : Nat} (h : p_RO_copyFrom  s i x1) : (f_RO_copyFrom  s i x1) a = s a := by
  unfold p_RO_copyFrom at h
  unfold f_RO_copyFrom
  obtain ⟨⟨b1, t1⟩, h⟩ := h
  obtain ⟨⟨b2, t2⟩, h⟩ := h
  obtain ⟨⟨b3, t3⟩, h⟩ := h
  obtain ⟨⟨b4, t4⟩, h⟩ := h
  obtain ⟨⟨q1, q2, q3, q4, q5⟩, h⟩ := h
  obtain ⟨⟨b5, t5⟩, h⟩ := h
  obtain ⟨⟨b6, t6⟩, h⟩ := h
  obtain ⟨⟨q1, q2, q3, q4, q5⟩, h⟩ := h
  obtain ⟨⟨b7, t7⟩, h⟩ := h
  obtain ⟨⟨b8, t8⟩, h⟩ := h
  obtain ⟨⟨q1, q2, q3, q4, q5⟩, h⟩ := h
  exact ((am_put_o (by omega)).trans ((am_put_o (by omega)).trans (am_put_o (by omega))))
theorem wl_RO_make {a : Nat} (ha : 207 ≤ a)  {s : am_M} {i : Nat} {x1 : Int32} {x2 : Int32} (h : p_RO_make  s i x1 x2) : (f_RO_make  s i x1 x2).2 a = s a := by
  unfold p_RO_make at h
  unfold f_RO_make
  obtain ⟨hc, h⟩ := h
  obtain ⟨⟨b1, t1⟩, h⟩ := h
  by_cases c : x1 < 0
  · rewrite [if_pos c]
    have h := h.1 c
    exact rfl
  · rewrite [if_neg c]
    have h := h.2 c
    by_cases c : (4 : Int32) ≤ x1
    · rewrite [if_pos c]
      have h := h.1 c
      exact rfl
    · rewrite [if_neg c]
      have h := h.2 c
      by_cases c : (30 : Int32) ≤ (f_RO_madeIn s i x1)
      · rewrite [if_pos c]
        have h := h.1 c
        exact rfl
      · rewrite [if_neg c]
        have h := h.2 c
        obtain ⟨⟨b2, t2⟩, h⟩ := h
        obtain ⟨hv, h⟩ := h
        obtain ⟨⟨b3, t3⟩, h⟩ := h
        obtain ⟨hv, h⟩ := h
        exact ((am_set_o (by omega)).trans (am_set_o (by omega)))
theorem wl_RO_set {a : Nat} (ha : 207 ≤ a)  {s : am_M} {i : Nat} {x1 : Int32} {x2 : Int32} {x3 : Int32} {x4 : Int32} (h : p_RO_set  s i x1 x2 x3 x4) : (f_RO_set  s i x1 x2 x3 x4) a = s a := by
  unfold p_RO_set at h
  unfold f_RO_set
  by_cases c : x1 < 0
  · rewrite [if_pos c]
    have h := h.1 c
    exact rfl
  · rewrite [if_neg c]
    have h := h.2 c
    by_cases c : (4 : Int32) ≤ x1
    · rewrite [if_pos c]
      have h := h.1 c
      exact rfl
    · rewrite [if_neg c]
      have h := h.2 c
      by_cases c : x2 < 0
      · rewrite [if_pos c]
        have h := h.1 c
        exact rfl
      · rewrite [if_neg c]
        have h := h.2 c
        by_cases c : (30 : Int32) ≤ x2
        · rewrite [if_pos c]
          have h := h.1 c
          exact rfl
        · rewrite [if_neg c]
          have h := h.2 c
          by_cases c : x3 < 0
          · rewrite [if_pos c]
            have h := h.1 c
            exact rfl
          · rewrite [if_neg c]
            have h := h.2 c
            by_cases c : (6 : Int32) ≤ x3
            · rewrite [if_pos c]
              have h := h.1 c
              exact rfl
            · rewrite [if_neg c]
              have h := h.2 c
              obtain ⟨⟨b1, t1⟩, h⟩ := h
              obtain ⟨⟨b2, t2⟩, h⟩ := h
              obtain ⟨hv, h⟩ := h
              exact (am_set_o (by omega))
theorem wl_RE_clear {a : Nat} (ha : 207 ≤ a)  {s : am_M} {i : Nat} (h : p_RE_clear  s i) : (f_RE_clear  s i) a = s a := by
  unfold p_RE_clear at h
  unfold f_RE_clear
  obtain ⟨hc, h⟩ := h
  have m1 := wl_RE_set ha hc
  obtain ⟨⟨b1, t1⟩, h⟩ := h
  exact (m1)
theorem wl_CO_setFormula {a : Nat} (ha : 207 ≤ a)  {s : am_M} {i : Nat} {x1 : Int32} {x2 : Int32} {x3 : Int32} {x4 : Int32} (h : p_CO_setFormula  s i x1 x2 x3 x4) : (f_CO_setFormula  s i x1 x2 x3 x4) a = s a := by
  unfold p_CO_setFormula at h
  unfold f_CO_setFormula
  obtain ⟨⟨b1, t1⟩, h⟩ := h
  exact ((am_set_o (by omega)).trans ((am_set_o (by omega)).trans ((am_set_o (by omega)).trans (am_set_o (by omega)))))
theorem wl_RE_copyFrom {a : Nat} (ha : 207 ≤ a)  {s : am_M} {i : Nat} {x1 : Nat} (h : p_RE_copyFrom  s i x1) : (f_RE_copyFrom  s i x1) a = s a := by
  unfold p_RE_copyFrom at h
  unfold f_RE_copyFrom
  obtain ⟨⟨b1, t1⟩, h⟩ := h
  obtain ⟨hc, h⟩ := h
  have m1 := wl_RE_set ha hc
  obtain ⟨⟨b2, t2⟩, h⟩ := h
  exact (m1)
theorem wl_QU_addTableColumns_2 {a : Nat} (ha : 207 ≤ a)  : ∀ (n : Nat) (s : am_M) (i : Nat) (x1 : Int32) (x2 : Int32) (x3 : Int32), p_QU_addTableColumns_2  n s i x1 x2 x3 → (f_QU_addTableColumns_2  n s i x1 x2 x3) a = s a := by
  intro n
  induction n with
  | zero => intro s i x1 x2 x3 h; exact h.elim
  | succ n hK2 =>
    intro s i x1 x2 x3 h
    unfold p_QU_addTableColumns_2 at h
    unfold f_QU_addTableColumns_2
    by_cases c : x2 ≤ x3
    · rewrite [if_pos c]
      have h := h.1 c
      obtain ⟨⟨b1, t1⟩, h⟩ := h
      exact (am_set_o (by omega))
    · rewrite [if_neg c]
      have h := h.2 c
      obtain ⟨⟨b2, t2⟩, h⟩ := h
      by_cases c : (54 : Int32) ≤ (s i 7)
      · rewrite [if_pos c]
        have h := h.1 c
        exact (am_set_o (by omega))
      · rewrite [if_neg c]
        have h := h.2 c
        obtain ⟨⟨b3, t3⟩, h⟩ := h
        obtain ⟨hv, h⟩ := h
        obtain ⟨⟨b4, t4⟩, h⟩ := h
        obtain ⟨hv, h⟩ := h
        exact ((hK2 _ _ _ _ _ h).trans ((am_set_o (by omega)).trans ((am_set_o (by omega)).trans (am_set_o (by omega)))))
theorem wl_QU_addTableColumns {a : Nat} (ha : 207 ≤ a)  {s : am_M} {i : Nat} {x1 : Int32} {x2 : Int32} (h : p_QU_addTableColumns  s i x1 x2) : (f_QU_addTableColumns  s i x1 x2) a = s a := by
  unfold p_QU_addTableColumns at h
  unfold f_QU_addTableColumns
  exact (wl_QU_addTableColumns_2 ha am_F _ _ _ _ _ h)
theorem wl_QU_addColumnsOf_23 {a : Nat} (ha : 207 ≤ a)  : ∀ (n : Nat) (s : am_M) (i : Nat) (x1 : Nat) (x2 : Int32), p_QU_addColumnsOf_23  n s i x1 x2 → (f_QU_addColumnsOf_23  n s i x1 x2) a = s a := by
  intro n
  induction n with
  | zero => intro s i x1 x2 h; exact h.elim
  | succ n hK23 =>
    intro s i x1 x2 h
    unfold p_QU_addColumnsOf_23 at h
    unfold f_QU_addColumnsOf_23
    obtain ⟨⟨b1, t1⟩, h⟩ := h
    by_cases c : (s i 7) ≤ x2
    · rewrite [if_pos c]
      have h := h.1 c
      exact rfl
    · rewrite [if_neg c]
      have h := h.2 c
      obtain ⟨⟨b2, t2⟩, h⟩ := h
      obtain ⟨⟨b3, t3⟩, h⟩ := h
      obtain ⟨⟨b4, t4⟩, h⟩ := h
      obtain ⟨hv, h⟩ := h
      obtain ⟨hv, h⟩ := h
      obtain ⟨⟨b5, t5⟩, h⟩ := h
      obtain ⟨⟨b6, t6⟩, h⟩ := h
      obtain ⟨hv, h⟩ := h
      obtain ⟨hv, h⟩ := h
      exact ((hK23 _ _ _ _ h).trans ((am_set_o (by omega)).trans (am_set_o (by omega))))
theorem wl_QU_addColumnsOf {a : Nat} (ha : 207 ≤ a)  {s : am_M} {i : Nat} {x1 : Nat} (h : p_QU_addColumnsOf  s i x1) : (f_QU_addColumnsOf  s i x1) a = s a := by
  unfold p_QU_addColumnsOf at h
  unfold f_QU_addColumnsOf
  obtain ⟨⟨b1, t1⟩, h⟩ := h
  obtain ⟨⟨b2, t2⟩, h⟩ := h
  exact ((wl_QU_addColumnsOf_23 ha am_F _ _ _ _ h).trans ((am_set_o (by omega)).trans (am_set_o (by omega))))
theorem wl_QU_addCondition {a : Nat} (ha : 207 ≤ a)  {s : am_M} {i : Nat} {x1 : Int32} {x2 : Int32} {x3 : Int32} {x4 : Int32} (h : p_QU_addCondition  s i x1 x2 x3 x4) : (f_QU_addCondition  s i x1 x2 x3 x4).2 a = s a := by
  unfold p_QU_addCondition at h
  unfold f_QU_addCondition
  obtain ⟨⟨b1, t1⟩, h⟩ := h
  by_cases c : (6 : Int32) ≤ (s i 12)
  · rewrite [if_pos c]
    have h := h.1 c
    exact rfl
  · rewrite [if_neg c]
    have h := h.2 c
    obtain ⟨⟨b2, t2⟩, h⟩ := h
    obtain ⟨hv, h⟩ := h
    obtain ⟨⟨b3, t3⟩, h⟩ := h
    obtain ⟨hv, h⟩ := h
    obtain ⟨⟨b4, t4⟩, h⟩ := h
    obtain ⟨hv, h⟩ := h
    obtain ⟨⟨b5, t5⟩, h⟩ := h
    obtain ⟨hv, h⟩ := h
    exact ((am_set_o (by omega)).trans ((am_set_o (by omega)).trans ((am_set_o (by omega)).trans ((am_set_o (by omega)).trans (am_set_o (by omega))))))
theorem wl_RO_setSerial {a : Nat} (ha : 207 ≤ a)  {s : am_M} {i : Nat} {x1 : Int32} {x2 : Int32} {x3 : Int32} (h : p_RO_setSerial  s i x1 x2 x3) : (f_RO_setSerial  s i x1 x2 x3) a = s a := by
  unfold p_RO_setSerial at h
  unfold f_RO_setSerial
  by_cases c : x1 < 0
  · rewrite [if_pos c]
    have h := h.1 c
    exact rfl
  · rewrite [if_neg c]
    have h := h.2 c
    by_cases c : (4 : Int32) ≤ x1
    · rewrite [if_pos c]
      have h := h.1 c
      exact rfl
    · rewrite [if_neg c]
      have h := h.2 c
      by_cases c : x2 < 0
      · rewrite [if_pos c]
        have h := h.1 c
        exact rfl
      · rewrite [if_neg c]
        have h := h.2 c
        by_cases c : (30 : Int32) ≤ x2
        · rewrite [if_pos c]
          have h := h.1 c
          exact rfl
        · rewrite [if_neg c]
          have h := h.2 c
          obtain ⟨⟨b1, t1⟩, h⟩ := h
          obtain ⟨⟨b2, t2⟩, h⟩ := h
          obtain ⟨hv, h⟩ := h
          exact (am_set_o (by omega))
theorem wl_AC_keepDraft {a : Nat} (ha : 207 ≤ a)  {s : am_M} {i : Nat} {x1 : Nat} (h : p_AC_keepDraft  s i x1) : (f_AC_keepDraft  s i x1) a = s a := by
  unfold p_AC_keepDraft at h
  unfold f_AC_keepDraft
  obtain ⟨⟨b1, t1⟩, h⟩ := h
  by_cases c : (6 : Int32) ≤ (s i 1)
  · rewrite [if_pos c]
    have h := h.1 c
    exact rfl
  · rewrite [if_neg c]
    have h := h.2 c
    obtain ⟨⟨b2, t2⟩, h⟩ := h
    obtain ⟨hv, h⟩ := h
    obtain ⟨⟨b3, t3⟩, h⟩ := h
    obtain ⟨⟨b4, t4⟩, h⟩ := h
    obtain ⟨⟨b5, t5⟩, h⟩ := h
    obtain ⟨⟨q1, q2, q3, q4, q5⟩, h⟩ := h
    exact (am_put_o (by omega))
theorem wl_AC_addStep {a : Nat} (ha : 207 ≤ a)  {s : am_M} {i : Nat} {x1 : Int32} {x2 : Int32} {x3 : Int32} {x4 : Int32} (h : p_AC_addStep  s i x1 x2 x3 x4) : (f_AC_addStep  s i x1 x2 x3 x4).2 a = s a := by
  unfold p_AC_addStep at h
  unfold f_AC_addStep
  obtain ⟨⟨b1, t1⟩, h⟩ := h
  by_cases c : (6 : Int32) ≤ (s i 1)
  · rewrite [if_pos c]
    have h := h.1 c
    exact rfl
  · rewrite [if_neg c]
    have h := h.2 c
    obtain ⟨⟨b2, t2⟩, h⟩ := h
    obtain ⟨hv, h⟩ := h
    obtain ⟨⟨b3, t3⟩, h⟩ := h
    exact ((am_set_o (by omega)).trans ((am_set_o (by omega)).trans ((am_set_o (by omega)).trans ((am_set_o (by omega)).trans (am_set_o (by omega))))))

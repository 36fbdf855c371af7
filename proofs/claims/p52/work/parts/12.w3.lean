theorem wl_AS_set {a : Nat} (ha : 207 ≤ a)  {s : am_M} {x1 : Int32} {x2 : Int32} {x3 : Int32} (h : p_AS_set  s x1 x2 x3) : (f_AS_set  s x1 x2 x3) a = s a := by
  unfold p_AS_set at h
  unfold f_AS_set
  by_cases c : x1 < 0
  · rewrite [if_pos c]
    have h := h.1 c
    exact rfl
  · rewrite [if_neg c]
    have h := h.2 c
    by_cases c : (30 : Int32) ≤ x1
    · rewrite [if_pos c]
      have h := h.1 c
      exact rfl
    · rewrite [if_neg c]
      have h := h.2 c
      by_cases c : x2 < 0
      · rewrite [if_pos c]
        have h := h.1 c
        exact rfl
      · rewrite [if_neg c]
        have h := h.2 c
        by_cases c : (54 : Int32) ≤ x2
        · rewrite [if_pos c]
          have h := h.1 c
          exact rfl
        · rewrite [if_neg c]
          have h := h.2 c
          obtain ⟨hv, h⟩ := h
          exact (am_set_o (by omega))
theorem wl_AS_setRow {a : Nat} (ha : 207 ≤ a)  {s : am_M} {x1 : Int32} {x2 : Int32} {x3 : Int32} (h : p_AS_setRow  s x1 x2 x3) : (f_AS_setRow  s x1 x2 x3) a = s a := by
  unfold p_AS_setRow at h
  unfold f_AS_setRow
  by_cases c : x1 < 0
  · rewrite [if_pos c]
    have h := h.1 c
    exact rfl
  · rewrite [if_neg c]
    have h := h.2 c
    by_cases c : (30 : Int32) ≤ x1
    · rewrite [if_pos c]
      have h := h.1 c
      exact rfl
    · rewrite [if_neg c]
      have h := h.2 c
      by_cases c : x2 < 0
      · rewrite [if_pos c]
        have h := h.1 c
        exact rfl
      · rewrite [if_neg c]
        have h := h.2 c
        by_cases c : (9 : Int32) ≤ x2
        · rewrite [if_pos c]
          have h := h.1 c
          exact rfl
        · rewrite [if_neg c]
          have h := h.2 c
          obtain ⟨hv, h⟩ := h
          exact (am_set_o (by omega))
theorem wl_AS_findRows_98 {a : Nat} (ha : 207 ≤ a) {K19 : am_M → Int32 → Int32 → am_M} {KP19 : am_M → Int32 → Int32 → Prop} (hK19 : ∀ (s : am_M) (x1 : Int32) (x2 : Int32), KP19 s x1 x2 → (K19 s x1 x2) a = s a) {s : am_M} {x1 : Int32} {x2 : Int32} (h : p_AS_findRows_98 KP19 s x1 x2) : (f_AS_findRows_98 K19 s x1 x2) a = s a := by
  unfold p_AS_findRows_98 at h
  unfold f_AS_findRows_98
  exact (hK19 _ _ _ h)
theorem wl_AS_findRows_78 {a : Nat} (ha : 207 ≤ a) {K19 : am_M → Int32 → Int32 → am_M} {KP19 : am_M → Int32 → Int32 → Prop} (hK19 : ∀ (s : am_M) (x1 : Int32) (x2 : Int32), KP19 s x1 x2 → (K19 s x1 x2) a = s a) {s : am_M} {x1 : Int32} {x2 : Int32} {x3 : Int32} (h : p_AS_findRows_78 KP19 s x1 x2 x3) : (f_AS_findRows_78 K19 s x1 x2 x3) a = s a := by
  unfold p_AS_findRows_78 at h
  unfold f_AS_findRows_78
  obtain ⟨hc, h⟩ := h
  have m1 := wl_AS_setRow ha hc
  exact ((wl_AS_findRows_98 ha hK19 h).trans ((am_set_o (by omega)).trans (m1)))
theorem wl_AS_findRows_42 {a : Nat} (ha : 207 ≤ a) {K19 : am_M → Int32 → Int32 → am_M} {KP19 : am_M → Int32 → Int32 → Prop} (hK19 : ∀ (s : am_M) (x1 : Int32) (x2 : Int32), KP19 s x1 x2 → (K19 s x1 x2) a = s a) : ∀ (n : Nat) (s : am_M) (x1 : Int32) (x2 : Int32) (x3 : Int32), p_AS_findRows_42 KP19 n s x1 x2 x3 → (f_AS_findRows_42 K19 n s x1 x2 x3) a = s a := by
  intro n
  induction n with
  | zero => intro s x1 x2 x3 h; exact h.elim
  | succ n hK42 =>
    intro s x1 x2 x3 h
    unfold p_AS_findRows_42 at h
    unfold f_AS_findRows_42
    by_cases c : (s 52 5) ≤ x3
    · rewrite [if_pos c]
      have h := h.1 c
      exact (wl_AS_findRows_78 ha hK19 h)
    · rewrite [if_neg c]
      have h := h.2 c
      obtain ⟨hc, h⟩ := h
      obtain ⟨hc, h⟩ := h
      have m1 := wl_AS_set ha hc
      exact ((hK42 _ _ _ _ h).trans (m1))
theorem wl_AS_findRows_19 {a : Nat} (ha : 207 ≤ a)  : ∀ (n : Nat) (s : am_M) (x1 : Int32) (x2 : Int32), p_AS_findRows_19  n s x1 x2 → (f_AS_findRows_19  n s x1 x2) a = s a := by
  intro n
  induction n with
  | zero => intro s x1 x2 h; exact h.elim
  | succ n hK19 =>
    intro s x1 x2 h
    unfold p_AS_findRows_19 at h
    unfold f_AS_findRows_19
    by_cases c : (30 : Int32) ≤ x2
    · rewrite [if_pos c]
      have h := h.1 c
      exact rfl
    · rewrite [if_neg c]
      have h := h.2 c
      obtain ⟨hc, h⟩ := h
      by_cases c : (f_RO_has s 8 x1 x2) = 0
      · rewrite [if_pos c]
        have h := h.1 c
        exact (wl_AS_findRows_98 ha hK19 h)
      · rewrite [if_neg c]
        have h := h.2 c
        exact (wl_AS_findRows_42 ha hK19 am_F _ _ _ _ h)
theorem wl_AS_findRows {a : Nat} (ha : 207 ≤ a)  {s : am_M} {x1 : Int32} (h : p_AS_findRows  s x1) : (f_AS_findRows  s x1) a = s a := by
  unfold p_AS_findRows at h
  unfold f_AS_findRows
  obtain ⟨hc, h⟩ := h
  exact ((wl_AS_findRows_19 ha am_F _ _ _ h).trans ((am_set_o (by omega)).trans (am_set_o (by omega))))
theorem wl_AS_joinTo_89 {a : Nat} (ha : 207 ≤ a)  {s : am_M} {x2 : Nat} {x1 : Int32} {x3 : Int32} {x4 : Int32} (h : p_AS_joinTo_89  s x2 x1 x3 x4) : (f_AS_joinTo_89  s x2 x1 x3 x4).2 a = s a := by
  unfold p_AS_joinTo_89 at h
  unfold f_AS_joinTo_89
  obtain ⟨⟨b1, t1⟩, h⟩ := h
  obtain ⟨hc, h⟩ := h
  have m1 := wl_AS_setRow ha hc
  exact (m1)
theorem wl_AS_joinTo_45 {a : Nat} (ha : 207 ≤ a)  : ∀ (n : Nat) (s : am_M) (x2 : Nat) (x1 : Int32) (x3 : Int32) (x4 : Int32), p_AS_joinTo_45  n s x2 x1 x3 x4 → (f_AS_joinTo_45  n s x2 x1 x3 x4).2 a = s a := by
  intro n
  induction n with
  | zero => intro s x2 x1 x3 x4 h; exact h.elim
  | succ n hK45 =>
    intro s x2 x1 x3 x4 h
    unfold p_AS_joinTo_45 at h
    unfold f_AS_joinTo_45
    obtain ⟨⟨b1, t1⟩, h⟩ := h
    by_cases c : (s x2 7) ≤ x4
    · rewrite [if_pos c]
      have h := h.1 c
      exact (wl_AS_joinTo_89 ha h)
    · rewrite [if_neg c]
      have h := h.2 c
      obtain ⟨hc, h⟩ := h
      obtain ⟨hc, h⟩ := h
      have m1 := wl_AS_set ha hc
      exact ((hK45 _ _ _ _ _ h).trans (m1))
theorem wl_AS_joinTo {a : Nat} (ha : 207 ≤ a)  {s : am_M} {x1 : Int32} {x2 : Nat} (h : p_AS_joinTo  s x1 x2) : (f_AS_joinTo  s x1 x2).2 a = s a := by
  unfold p_AS_joinTo at h
  unfold f_AS_joinTo
  obtain ⟨⟨b1, t1⟩, h⟩ := h
  by_cases c : 0 ≤ (s x2 2)
  · rewrite [if_pos c]
    have h := h.1 c
    obtain ⟨hc, h⟩ := h
    obtain ⟨hc, h⟩ := h
    by_cases c : (f_RO_has s 8 (s x2 3) (f_AS_get s x1 (s x2 2))) = 0
    · rewrite [if_pos c]
      have h := h.1 c
      exact rfl
    · rewrite [if_neg c]
      have h := h.2 c
      exact (wl_AS_joinTo_45 ha am_F _ _ _ _ _ h)
  · rewrite [if_neg c]
    have h := h.2 c
    exact rfl
theorem wl_AS_findPlain_86 {a : Nat} (ha : 207 ≤ a) {K4 : am_M → Nat → Int32 → Int32 → am_M} {KP4 : am_M → Nat → Int32 → Int32 → Prop} (hK4 : ∀ (s : am_M) (x1 : Nat) (x2 : Int32) (x3 : Int32), KP4 s x1 x2 x3 → (K4 s x1 x2 x3) a = s a) {s : am_M} {x1 : Nat} {x2 : Int32} {x3 : Int32} (h : p_AS_findPlain_86 KP4 s x1 x2 x3) : (f_AS_findPlain_86 K4 s x1 x2 x3) a = s a := by
  unfold p_AS_findPlain_86 at h
  unfold f_AS_findPlain_86
  exact (hK4 _ _ _ _ h)
theorem wl_AS_findPlain_65 {a : Nat} (ha : 207 ≤ a) {K4 : am_M → Nat → Int32 → Int32 → am_M} {KP4 : am_M → Nat → Int32 → Int32 → Prop} (hK4 : ∀ (s : am_M) (x1 : Nat) (x2 : Int32) (x3 : Int32), KP4 s x1 x2 x3 → (K4 s x1 x2 x3) a = s a) {s : am_M} {x1 : Nat} {x2 : Int32} {x3 : Int32} (h : p_AS_findPlain_65 KP4 s x1 x2 x3) : (f_AS_findPlain_65 K4 s x1 x2 x3) a = s a := by
  unfold p_AS_findPlain_65 at h
  unfold f_AS_findPlain_65
  obtain ⟨hc, h⟩ := h
  have m1 := wl_AS_joinTo ha hc
  by_cases c : (f_AS_joinTo s x2 x1).1 = 0
  · rewrite [if_pos c]
    have h := h.1 c
    exact ((wl_AS_findPlain_86 ha hK4 h).trans (m1))
  · rewrite [if_neg c]
    have h := h.2 c
    obtain ⟨hc, h⟩ := h
    by_cases c : (f_AS_counts (f_AS_joinTo s x2 x1).2 x2 x1) = 0
    · rewrite [if_pos c]
      have h := h.1 c
      exact ((wl_AS_findPlain_86 ha hK4 h).trans (m1))
    · rewrite [if_neg c]
      have h := h.2 c
      exact ((wl_AS_findPlain_86 ha hK4 h).trans (m1))
theorem wl_AS_findPlain_4 {a : Nat} (ha : 207 ≤ a)  : ∀ (n : Nat) (s : am_M) (x1 : Nat) (x2 : Int32) (x3 : Int32), p_AS_findPlain_4  n s x1 x2 x3 → (f_AS_findPlain_4  n s x1 x2 x3) a = s a := by
  intro n
  induction n with
  | zero => intro s x1 x2 x3 h; exact h.elim
  | succ n hK4 =>
    intro s x1 x2 x3 h
    unfold p_AS_findPlain_4 at h
    unfold f_AS_findPlain_4
    by_cases c : (s 52 4) ≤ x3
    · rewrite [if_pos c]
      have h := h.1 c
      obtain ⟨⟨b1, t1⟩, h⟩ := h
      exact ((am_set_o (by omega)).trans (am_set_o (by omega)))
    · rewrite [if_neg c]
      have h := h.2 c
      by_cases c : (30 : Int32) ≤ x3
      · rewrite [if_pos c]
        have h := h.1 c
        obtain ⟨⟨b2, t2⟩, h⟩ := h
        exact ((am_set_o (by omega)).trans (am_set_o (by omega)))
      · rewrite [if_neg c]
        have h := h.2 c
        by_cases c : x3 ≤ x2
        · rewrite [if_pos c]
          have h := h.1 c
          exact (wl_AS_findPlain_65 ha hK4 h)
        · rewrite [if_neg c]
          have h := h.2 c
          obtain ⟨⟨q1, q2, q3, q4, q5⟩, h⟩ := h
          obtain ⟨⟨q1, q2, q3, q4, q5⟩, h⟩ := h
          exact ((wl_AS_findPlain_65 ha hK4 h).trans ((am_put_o (by omega)).trans (am_put_o (by omega))))
theorem wl_AS_findPlain {a : Nat} (ha : 207 ≤ a)  {s : am_M} {x1 : Nat} (h : p_AS_findPlain  s x1) : (f_AS_findPlain  s x1) a = s a := by
  unfold p_AS_findPlain at h
  unfold f_AS_findPlain
  exact (wl_AS_findPlain_4 ha am_F _ _ _ _ h)
theorem wl_AS_gather_89 {a : Nat} (ha : 207 ≤ a) {K5 : am_M → Nat → Int32 → Int32 → Int32 → Int32 × am_M} {KP5 : am_M → Nat → Int32 → Int32 → Int32 → Prop} (hK5 : ∀ (s : am_M) (x2 : Nat) (x1 : Int32) (x3 : Int32) (x4 : Int32), KP5 s x2 x1 x3 x4 → (K5 s x2 x1 x3 x4).2 a = s a) {s : am_M} {x2 : Nat} {x1 : Int32} {x3 : Int32} {x4 : Int32} {x5 : Int32} {x6 : Int32} (h : p_AS_gather_89 KP5 s x2 x1 x3 x4 x5 x6) : (f_AS_gather_89 K5 s x2 x1 x3 x4 x5 x6).2 a = s a := by
  unfold p_AS_gather_89 at h
  unfold f_AS_gather_89
  exact (hK5 _ _ _ _ _ h)
theorem wl_AS_gather_5 {a : Nat} (ha : 207 ≤ a)  : ∀ (n : Nat) (s : am_M) (x2 : Nat) (x1 : Int32) (x3 : Int32) (x4 : Int32), p_AS_gather_5  n s x2 x1 x3 x4 → (f_AS_gather_5  n s x2 x1 x3 x4).2 a = s a := by
  intro n
  induction n with
  | zero => intro s x2 x1 x3 x4 h; exact h.elim
  | succ n hK5 =>
    intro s x2 x1 x3 x4 h
    unfold p_AS_gather_5 at h
    unfold f_AS_gather_5
    by_cases c : (s 52 4) ≤ x4
    · rewrite [if_pos c]
      have h := h.1 c
      exact rfl
    · rewrite [if_neg c]
      have h := h.2 c
      obtain ⟨⟨b1, t1⟩, h⟩ := h
      by_cases c : (Int32.ofNat (am_sh x2).2.2) ≤ x3
      · rewrite [if_pos c]
        have h := h.1 c
        exact rfl
      · rewrite [if_neg c]
        have h := h.2 c
        obtain ⟨hc, h⟩ := h
        obtain ⟨hc, h⟩ := h
        by_cases c : (f_AS_placeIn s x2 x3 (f_AS_get s x4 x1)) = x3
        · rewrite [if_pos c]
          have h := h.1 c
          obtain ⟨hv, h⟩ := h
          exact ((wl_AS_gather_89 ha hK5 h).trans (am_set_o (by omega)))
        · rewrite [if_neg c]
          have h := h.2 c
          obtain ⟨hv, h⟩ := h
          by_cases c : (s x2 ((f_AS_placeIn s x2 x3 (f_AS_get s x4 x1))).toNatClampNeg) = (f_AS_get s x4 x1)
          · rewrite [if_pos c]
            have h := h.1 c
            exact (wl_AS_gather_89 ha hK5 h)
          · rewrite [if_neg c]
            have h := h.2 c
            obtain ⟨⟨q1, q2, q3, q4, q5⟩, h⟩ := h
            obtain ⟨hv, h⟩ := h
            exact ((wl_AS_gather_89 ha hK5 h).trans ((am_set_o (by omega)).trans (am_put_o (by omega))))
theorem wl_AS_gather {a : Nat} (ha : 207 ≤ a)  {s : am_M} {x1 : Int32} {x2 : Nat} (h : p_AS_gather  s x1 x2) : (f_AS_gather  s x1 x2).2 a = s a := by
  unfold p_AS_gather at h
  unfold f_AS_gather
  exact (wl_AS_gather_5 ha am_F _ _ _ _ _ h)
theorem wl_AS_findGroup_108 {a : Nat} (ha : 207 ≤ a) {K16 : am_M → Nat → Int32 → Int32 → Int32 → Int32 → Int32 → Int32 → am_M} {KP16 : am_M → Nat → Int32 → Int32 → Int32 → Int32 → Int32 → Int32 → Prop} (hK16 : ∀ (s : am_M) (x1 : Nat) (x2 : Int32) (x3 : Int32) (x4 : Int32) (x5 : Int32) (x6 : Int32) (x7 : Int32), KP16 s x1 x2 x3 x4 x5 x6 x7 → (K16 s x1 x2 x3 x4 x5 x6 x7) a = s a) {s : am_M} {x1 : Nat} {x2 : Int32} {x3 : Int32} {x4 : Int32} {x5 : Int32} {x6 : Int32} {x7 : Int32} (h : p_AS_findGroup_108 KP16 s x1 x2 x3 x4 x5 x6 x7) : (f_AS_findGroup_108 K16 s x1 x2 x3 x4 x5 x6 x7) a = s a := by
  unfold p_AS_findGroup_108 at h
  unfold f_AS_findGroup_108
  exact (hK16 _ _ _ _ _ _ _ _ h)
theorem wl_AS_findGroup_97 {a : Nat} (ha : 207 ≤ a) {K16 : am_M → Nat → Int32 → Int32 → Int32 → Int32 → Int32 → Int32 → am_M} {KP16 : am_M → Nat → Int32 → Int32 → Int32 → Int32 → Int32 → Int32 → Prop} (hK16 : ∀ (s : am_M) (x1 : Nat) (x2 : Int32) (x3 : Int32) (x4 : Int32) (x5 : Int32) (x6 : Int32) (x7 : Int32), KP16 s x1 x2 x3 x4 x5 x6 x7 → (K16 s x1 x2 x3 x4 x5 x6 x7) a = s a) {s : am_M} {x1 : Nat} {x2 : Int32} {x3 : Int32} {x4 : Int32} {x5 : Int32} {x6 : Int32} {x7 : Int32} {x8 : Int32} {y0 : Int32} (h : p_AS_findGroup_97 KP16 s x1 x2 x3 x4 x5 x6 x7 x8 y0) : (f_AS_findGroup_97 K16 s x1 x2 x3 x4 x5 x6 x7 x8 y0) a = s a := by
  unfold p_AS_findGroup_97 at h
  unfold f_AS_findGroup_97
  exact (wl_AS_findGroup_108 ha hK16 h)
theorem wl_AS_findGroup_90 {a : Nat} (ha : 207 ≤ a) {K16 : am_M → Nat → Int32 → Int32 → Int32 → Int32 → Int32 → Int32 → am_M} {KP16 : am_M → Nat → Int32 → Int32 → Int32 → Int32 → Int32 → Int32 → Prop} (hK16 : ∀ (s : am_M) (x1 : Nat) (x2 : Int32) (x3 : Int32) (x4 : Int32) (x5 : Int32) (x6 : Int32) (x7 : Int32), KP16 s x1 x2 x3 x4 x5 x6 x7 → (K16 s x1 x2 x3 x4 x5 x6 x7) a = s a) {s : am_M} {x1 : Nat} {x2 : Int32} {x3 : Int32} {x4 : Int32} {x5 : Int32} {x6 : Int32} {x7 : Int32} {x8 : Int32} (h : p_AS_findGroup_90 KP16 s x1 x2 x3 x4 x5 x6 x7 x8) : (f_AS_findGroup_90 K16 s x1 x2 x3 x4 x5 x6 x7 x8) a = s a := by
  unfold p_AS_findGroup_90 at h
  unfold f_AS_findGroup_90
  exact (wl_AS_findGroup_97 ha hK16 h)
theorem wl_AS_findGroup_95 {a : Nat} (ha : 207 ≤ a) {K16 : am_M → Nat → Int32 → Int32 → Int32 → Int32 → Int32 → Int32 → am_M} {KP16 : am_M → Nat → Int32 → Int32 → Int32 → Int32 → Int32 → Int32 → Prop} (hK16 : ∀ (s : am_M) (x1 : Nat) (x2 : Int32) (x3 : Int32) (x4 : Int32) (x5 : Int32) (x6 : Int32) (x7 : Int32), KP16 s x1 x2 x3 x4 x5 x6 x7 → (K16 s x1 x2 x3 x4 x5 x6 x7) a = s a) {s : am_M} {x1 : Nat} {x2 : Int32} {x3 : Int32} {x4 : Int32} {x5 : Int32} {x6 : Int32} {x7 : Int32} {x8 : Int32} (h : p_AS_findGroup_95 KP16 s x1 x2 x3 x4 x5 x6 x7 x8) : (f_AS_findGroup_95 K16 s x1 x2 x3 x4 x5 x6 x7 x8) a = s a := by
  unfold p_AS_findGroup_95 at h
  unfold f_AS_findGroup_95
  exact (wl_AS_findGroup_97 ha hK16 h)
theorem wl_AS_findGroup_114 {a : Nat} (ha : 207 ≤ a)  {s : am_M} {x1 : Nat} {x2 : Int32} {x3 : Int32} {x4 : Int32} {x5 : Int32} {x6 : Int32} {x7 : Int32} (h : p_AS_findGroup_114  s x1 x2 x3 x4 x5 x6 x7) : (f_AS_findGroup_114  s x1 x2 x3 x4 x5 x6 x7) a = s a := by
  unfold p_AS_findGroup_114 at h
  unfold f_AS_findGroup_114
  obtain ⟨hv, h⟩ := h
  obtain ⟨hv, h⟩ := h
  obtain ⟨hv, h⟩ := h
  obtain ⟨hv, h⟩ := h
  obtain ⟨hv, h⟩ := h
  obtain ⟨hv, h⟩ := h
  exact ((am_set_o (by omega)).trans ((am_set_o (by omega)).trans ((am_set_o (by omega)).trans ((am_set_o (by omega)).trans (am_set_o (by omega))))))
theorem wl_AS_findGroup_16 {a : Nat} (ha : 207 ≤ a)  : ∀ (n : Nat) (s : am_M) (x1 : Nat) (x2 : Int32) (x3 : Int32) (x4 : Int32) (x5 : Int32) (x6 : Int32) (x7 : Int32), p_AS_findGroup_16  n s x1 x2 x3 x4 x5 x6 x7 → (f_AS_findGroup_16  n s x1 x2 x3 x4 x5 x6 x7) a = s a := by
  intro n
  induction n with
  | zero => intro s x1 x2 x3 x4 x5 x6 x7 h; exact h.elim
  | succ n hK16 =>
    intro s x1 x2 x3 x4 x5 x6 x7 h
    unfold p_AS_findGroup_16 at h
    unfold f_AS_findGroup_16
    by_cases c : (s 52 4) ≤ x7
    · rewrite [if_pos c]
      have h := h.1 c
      exact (wl_AS_findGroup_114 ha h)
    · rewrite [if_neg c]
      have h := h.2 c
      obtain ⟨⟨b1, t1⟩, h⟩ := h
      obtain ⟨hc, h⟩ := h
      obtain ⟨hv, h⟩ := h
      by_cases c : (f_AS_get s x7 (s x1 4)) = (s 63 (x2).toNatClampNeg)
      · rewrite [if_pos c]
        have h := h.1 c
        obtain ⟨hc, h⟩ := h
        by_cases c : x5 = (-1000000 : Int32)
        · rewrite [if_pos c]
          have h := h.1 c
          exact (wl_AS_findGroup_90 ha hK16 h)
        · rewrite [if_neg c]
          have h := h.2 c
          by_cases c : (f_AS_get s x7 (s x1 6)) = (-1000000 : Int32)
          · rewrite [if_pos c]
            have h := h.1 c
            exact (wl_AS_findGroup_95 ha hK16 h)
          · rewrite [if_neg c]
            have h := h.2 c
            by_cases c : x5 ≤ (f_AS_get s x7 (s x1 6))
            · rewrite [if_pos c]
              have h := h.1 c
              exact (wl_AS_findGroup_95 ha hK16 h)
            · rewrite [if_neg c]
              have h := h.2 c
              exact (wl_AS_findGroup_90 ha hK16 h)
      · rewrite [if_neg c]
        have h := h.2 c
        exact (wl_AS_findGroup_108 ha hK16 h)
theorem wl_AS_findGroup {a : Nat} (ha : 207 ≤ a)  {s : am_M} {x1 : Nat} {x2 : Int32} (h : p_AS_findGroup  s x1 x2) : (f_AS_findGroup  s x1 x2) a = s a := by
  unfold p_AS_findGroup at h
  unfold f_AS_findGroup
  exact (wl_AS_findGroup_16 ha am_F _ _ _ _ _ _ _ _ h)
theorem wl_AS_takeSpare_54 {a : Nat} (ha : 207 ≤ a) {K2 : am_M → Int32 → Int32 → Int32 → am_M} {KP2 : am_M → Int32 → Int32 → Int32 → Prop} (hK2 : ∀ (s : am_M) (x1 : Int32) (x2 : Int32) (x3 : Int32), KP2 s x1 x2 x3 → (K2 s x1 x2 x3) a = s a) {s : am_M} {x1 : Int32} {x2 : Int32} {x3 : Int32} {x4 : Int32} (h : p_AS_takeSpare_54 KP2 s x1 x2 x3 x4) : (f_AS_takeSpare_54 K2 s x1 x2 x3 x4) a = s a := by
  unfold p_AS_takeSpare_54 at h
  unfold f_AS_takeSpare_54
  exact (hK2 _ _ _ _ h)
theorem wl_AS_takeSpare_16 {a : Nat} (ha : 207 ≤ a) {K2 : am_M → Int32 → Int32 → Int32 → am_M} {KP2 : am_M → Int32 → Int32 → Int32 → Prop} (hK2 : ∀ (s : am_M) (x1 : Int32) (x2 : Int32) (x3 : Int32), KP2 s x1 x2 x3 → (K2 s x1 x2 x3) a = s a) : ∀ (n : Nat) (s : am_M) (x1 : Int32) (x2 : Int32) (x3 : Int32) (x4 : Int32), p_AS_takeSpare_16 KP2 n s x1 x2 x3 x4 → (f_AS_takeSpare_16 K2 n s x1 x2 x3 x4) a = s a := by
  intro n
  induction n with
  | zero => intro s x1 x2 x3 x4 h; exact h.elim
  | succ n hK16 =>
    intro s x1 x2 x3 x4 h
    unfold p_AS_takeSpare_16 at h
    unfold f_AS_takeSpare_16
    by_cases c : x2 ≤ x4
    · rewrite [if_pos c]
      have h := h.1 c
      exact (wl_AS_takeSpare_54 ha hK2 h)
    · rewrite [if_neg c]
      have h := h.2 c
      by_cases c : (31 : Int32) ≤ x4
      · rewrite [if_pos c]
        have h := h.1 c
        exact (wl_AS_takeSpare_54 ha hK2 h)
      · rewrite [if_neg c]
        have h := h.2 c
        obtain ⟨hv, h⟩ := h
        obtain ⟨hc, h⟩ := h
        have m1 := wl_AS_set ha hc
        exact ((hK16 _ _ _ _ _ h).trans (m1))
theorem wl_AS_takeSpare_2 {a : Nat} (ha : 207 ≤ a)  : ∀ (n : Nat) (s : am_M) (x1 : Int32) (x2 : Int32) (x3 : Int32), p_AS_takeSpare_2  n s x1 x2 x3 → (f_AS_takeSpare_2  n s x1 x2 x3) a = s a := by
  intro n
  induction n with
  | zero => intro s x1 x2 x3 h; exact h.elim
  | succ n hK2 =>
    intro s x1 x2 x3 h
    unfold p_AS_takeSpare_2 at h
    unfold f_AS_takeSpare_2
    by_cases c : x1 ≤ x3
    · rewrite [if_pos c]
      have h := h.1 c
      exact ((am_set_o (by omega)).trans (am_set_o (by omega)))
    · rewrite [if_neg c]
      have h := h.2 c
      by_cases c : (30 : Int32) ≤ x3
      · rewrite [if_pos c]
        have h := h.1 c
        exact ((am_set_o (by omega)).trans (am_set_o (by omega)))
      · rewrite [if_neg c]
        have h := h.2 c
        exact (wl_AS_takeSpare_16 ha hK2 am_F _ _ _ _ _ h)
theorem wl_AS_takeSpare {a : Nat} (ha : 207 ≤ a)  {s : am_M} {x1 : Int32} {x2 : Int32} (h : p_AS_takeSpare  s x1 x2) : (f_AS_takeSpare  s x1 x2) a = s a := by
  unfold p_AS_takeSpare at h
  unfold f_AS_takeSpare
  exact (wl_AS_takeSpare_2 ha am_F _ _ _ _ h)
theorem wl_AS_findGroups_15 {a : Nat} (ha : 207 ≤ a)  : ∀ (n : Nat) (s : am_M) (x1 : Nat) (x2 : Int32) (x3 : Int32), p_AS_findGroups_15  n s x1 x2 x3 → (f_AS_findGroups_15  n s x1 x2 x3) a = s a := by
  intro n
  induction n with
  | zero => intro s x1 x2 x3 h; exact h.elim
  | succ n hK15 =>
    intro s x1 x2 x3 h
    unfold p_AS_findGroups_15 at h
    unfold f_AS_findGroups_15
    by_cases c : x2 ≤ x3
    · rewrite [if_pos c]
      have h := h.1 c
      obtain ⟨hc, h⟩ := h
      have m1 := wl_AS_takeSpare ha hc
      exact (m1)
    · rewrite [if_neg c]
      have h := h.2 c
      by_cases c : (30 : Int32) ≤ x3
      · rewrite [if_pos c]
        have h := h.1 c
        obtain ⟨hc, h⟩ := h
        have m2 := wl_AS_takeSpare ha hc
        exact (m2)
      · rewrite [if_neg c]
        have h := h.2 c
        obtain ⟨hc, h⟩ := h
        have m3 := wl_AS_findGroup ha hc
        exact ((hK15 _ _ _ _ h).trans (m3))
theorem wl_AS_findGroups {a : Nat} (ha : 207 ≤ a)  {s : am_M} {x1 : Nat} (h : p_AS_findGroups  s x1) : (f_AS_findGroups  s x1) a = s a := by
  unfold p_AS_findGroups at h
  unfold f_AS_findGroups
  obtain ⟨⟨b1, t1⟩, h⟩ := h
  obtain ⟨hc, h⟩ := h
  have m1 := wl_AS_gather ha hc
  exact ((wl_AS_findGroups_15 ha am_F _ _ _ _ h).trans (m1))
theorem wl_AS_findCross_151 {a : Nat} (ha : 207 ≤ a) {K38 : am_M → Nat → Int32 → Int32 → Int32 → am_M} {KP38 : am_M → Nat → Int32 → Int32 → Int32 → Prop} (hK38 : ∀ (s : am_M) (x1 : Nat) (x2 : Int32) (x3 : Int32) (x4 : Int32), KP38 s x1 x2 x3 x4 → (K38 s x1 x2 x3 x4) a = s a) {s : am_M} {x1 : Nat} {x2 : Int32} {x3 : Int32} {x4 : Int32} {x5 : Int32} (h : p_AS_findCross_151 KP38 s x1 x2 x3 x4 x5) : (f_AS_findCross_151 K38 s x1 x2 x3 x4 x5) a = s a := by
  unfold p_AS_findCross_151 at h
  unfold f_AS_findCross_151
  exact (hK38 _ _ _ _ _ h)
theorem wl_AS_findCross_126 {a : Nat} (ha : 207 ≤ a) {K38 : am_M → Nat → Int32 → Int32 → Int32 → am_M} {KP38 : am_M → Nat → Int32 → Int32 → Int32 → Prop} (hK38 : ∀ (s : am_M) (x1 : Nat) (x2 : Int32) (x3 : Int32) (x4 : Int32), KP38 s x1 x2 x3 x4 → (K38 s x1 x2 x3 x4) a = s a) {s : am_M} {x1 : Nat} {x2 : Int32} {x3 : Int32} {x4 : Int32} {x5 : Int32} {y0 : Int32} (h : p_AS_findCross_126 KP38 s x1 x2 x3 x4 x5 y0) : (f_AS_findCross_126 K38 s x1 x2 x3 x4 x5 y0) a = s a := by
  unfold p_AS_findCross_126 at h
  unfold f_AS_findCross_126
  obtain ⟨⟨b1, t1⟩, h⟩ := h
  obtain ⟨hc, h⟩ := h
  obtain ⟨hv, h⟩ := h
  exact ((wl_AS_findCross_151 ha hK38 h).trans (am_set_o (by omega)))
theorem wl_AS_findCross_208 {a : Nat} (ha : 207 ≤ a) {K160 : am_M → Nat → Int32 → Int32 → Int32 → am_M} {KP160 : am_M → Nat → Int32 → Int32 → Int32 → Prop} (hK160 : ∀ (s : am_M) (x1 : Nat) (x2 : Int32) (x3 : Int32) (x4 : Int32), KP160 s x1 x2 x3 x4 → (K160 s x1 x2 x3 x4) a = s a) {s : am_M} {x1 : Nat} {x2 : Int32} {x3 : Int32} {x4 : Int32} {y1 : Int32} {y2 : Int32} (h : p_AS_findCross_208 KP160 s x1 x2 x3 x4 y1 y2) : (f_AS_findCross_208 K160 s x1 x2 x3 x4 y1 y2) a = s a := by
  unfold p_AS_findCross_208 at h
  unfold f_AS_findCross_208
  obtain ⟨hv, h⟩ := h
  exact ((hK160 _ _ _ _ _ h).trans (am_set_o (by omega)))
theorem wl_AS_findCross_160 {a : Nat} (ha : 207 ≤ a)  : ∀ (n : Nat) (s : am_M) (x1 : Nat) (x2 : Int32) (x3 : Int32) (x4 : Int32), p_AS_findCross_160  n s x1 x2 x3 x4 → (f_AS_findCross_160  n s x1 x2 x3 x4) a = s a := by
  intro n
  induction n with
  | zero => intro s x1 x2 x3 x4 h; exact h.elim
  | succ n hK160 =>
    intro s x1 x2 x3 x4 h
    unfold p_AS_findCross_160 at h
    unfold f_AS_findCross_160
    by_cases c : (930 : Int32) ≤ x4
    · rewrite [if_pos c]
      have h := h.1 c
      obtain ⟨hc, h⟩ := h
      have m1 := wl_AS_takeSpare ha hc
      exact (m1)
    · rewrite [if_neg c]
      have h := h.2 c
      by_cases c : (x4 - x4 / (31 : Int32) * (31 : Int32)) = 0
      · rewrite [if_pos c]
        have h := h.1 c
        obtain ⟨hv, h⟩ := h
        exact (wl_AS_findCross_208 ha hK160 h)
      · rewrite [if_neg c]
        have h := h.2 c
        obtain ⟨hv, h⟩ := h
        exact (wl_AS_findCross_208 ha hK160 h)
theorem wl_AS_findCross_157 {a : Nat} (ha : 207 ≤ a)  {s : am_M} {x1 : Nat} {x2 : Int32} {x3 : Int32} {x4 : Int32} (h : p_AS_findCross_157  s x1 x2 x3 x4) : (f_AS_findCross_157  s x1 x2 x3 x4) a = s a := by
  unfold p_AS_findCross_157 at h
  unfold f_AS_findCross_157
  exact (wl_AS_findCross_160 ha am_F _ _ _ _ _ h)
theorem wl_AS_findCross_38 {a : Nat} (ha : 207 ≤ a)  : ∀ (n : Nat) (s : am_M) (x1 : Nat) (x2 : Int32) (x3 : Int32) (x4 : Int32), p_AS_findCross_38  n s x1 x2 x3 x4 → (f_AS_findCross_38  n s x1 x2 x3 x4) a = s a := by
  intro n
  induction n with
  | zero => intro s x1 x2 x3 x4 h; exact h.elim
  | succ n hK38 =>
    intro s x1 x2 x3 x4 h
    unfold p_AS_findCross_38 at h
    unfold f_AS_findCross_38
    by_cases c : (s 52 4) ≤ x4
    · rewrite [if_pos c]
      have h := h.1 c
      exact (wl_AS_findCross_157 ha h)
    · rewrite [if_neg c]
      have h := h.2 c
      obtain ⟨⟨b1, t1⟩, h⟩ := h
      obtain ⟨hc, h⟩ := h
      obtain ⟨hc, h⟩ := h
      obtain ⟨hc, h⟩ := h
      obtain ⟨hc, h⟩ := h
      by_cases c : (930 : Int32) ≤ ((((f_AS_placeIn s 63 x2 (f_AS_get s x4 (s x1 4))) * (31 : Int32)) + (1 : Int32)) + (f_AS_placeIn s 64 x3 (f_AS_get s x4 (s x1 5))))
      · rewrite [if_pos c]
        have h := h.1 c
        exact (wl_AS_findCross_151 ha hK38 h)
      · rewrite [if_neg c]
        have h := h.2 c
        obtain ⟨hv, h⟩ := h
        by_cases c : (s 65 (((((f_AS_placeIn s 63 x2 (f_AS_get s x4 (s x1 4))) * (31 : Int32)) + (1 : Int32)) + (f_AS_placeIn s 64 x3 (f_AS_get s x4 (s x1 5))))).toNatClampNeg) = (-1000000000 : Int32)
        · rewrite [if_pos c]
          have h := h.1 c
          exact (wl_AS_findCross_126 ha hK38 h)
        · rewrite [if_neg c]
          have h := h.2 c
          obtain ⟨hv, h⟩ := h
          exact (wl_AS_findCross_126 ha hK38 h)
theorem wl_AS_findCross {a : Nat} (ha : 207 ≤ a)  {s : am_M} {x1 : Nat} (h : p_AS_findCross  s x1) : (f_AS_findCross  s x1) a = s a := by
  unfold p_AS_findCross at h
  unfold f_AS_findCross
  obtain ⟨⟨b1, t1⟩, h⟩ := h
  obtain ⟨hc, h⟩ := h
  have m1 := wl_AS_gather ha hc
  obtain ⟨hc, h⟩ := h
  have m2 := wl_AS_gather ha hc
  obtain ⟨hc, h⟩ := h
  have m3 := wl_JF_fill ha hc
  exact ((wl_AS_findCross_38 ha am_F _ _ _ _ _ h).trans ((m3).trans ((m2).trans (m1))))
theorem wl_AS_find_121 {a : Nat} (ha : 207 ≤ a) {K62 : am_M → Int32 → Int32 → Int32 → Int32 → Int32 × am_M} {KP62 : am_M → Int32 → Int32 → Int32 → Int32 → Prop} (hK62 : ∀ (s : am_M) (x1 : Int32) (x2 : Int32) (x3 : Int32) (x4 : Int32), KP62 s x1 x2 x3 x4 → (K62 s x1 x2 x3 x4).2 a = s a) {s : am_M} {x1 : Int32} {x2 : Int32} {x3 : Int32} {x4 : Int32} {x5 : Nat} (h : p_AS_find_121 KP62 s x1 x2 x3 x4 x5) : (f_AS_find_121 K62 s x1 x2 x3 x4 x5).2 a = s a := by
  unfold p_AS_find_121 at h
  unfold f_AS_find_121
  exact (hK62 _ _ _ _ _ h)
theorem wl_AS_find_62 {a : Nat} (ha : 207 ≤ a)  : ∀ (n : Nat) (s : am_M) (x1 : Int32) (x2 : Int32) (x3 : Int32) (x4 : Int32), p_AS_find_62  n s x1 x2 x3 x4 → (f_AS_find_62  n s x1 x2 x3 x4).2 a = s a := by
  intro n
  induction n with
  | zero => intro s x1 x2 x3 x4 h; exact h.elim
  | succ n hK62 =>
    intro s x1 x2 x3 x4 h
    unfold p_AS_find_62 at h
    unfold f_AS_find_62
    by_cases c : x4 < 0
    · rewrite [if_pos c]
      have h := h.1 c
      exact rfl
    · rewrite [if_neg c]
      have h := h.2 c
      obtain ⟨hv, h⟩ := h
      obtain ⟨hc, h⟩ := h
      obtain ⟨⟨b1, t1⟩, h⟩ := h
      by_cases c : (s (f_AS_question s (s 66 (x4).toNatClampNeg)) 0) = 0
      · rewrite [if_pos c]
        have h := h.1 c
        obtain ⟨hc, h⟩ := h
        have m1 := wl_AS_findPlain ha hc
        exact ((wl_AS_find_121 ha hK62 h).trans (m1))
      · rewrite [if_neg c]
        have h := h.2 c
        by_cases c : (s (f_AS_question s (s 66 (x4).toNatClampNeg)) 0) = (1 : Int32)
        · rewrite [if_pos c]
          have h := h.1 c
          obtain ⟨hc, h⟩ := h
          have m2 := wl_AS_findGroups ha hc
          exact ((wl_AS_find_121 ha hK62 h).trans (m2))
        · rewrite [if_neg c]
          have h := h.2 c
          obtain ⟨hc, h⟩ := h
          have m3 := wl_AS_findCross ha hc
          exact ((wl_AS_find_121 ha hK62 h).trans (m3))
theorem wl_AS_find_52 {a : Nat} (ha : 207 ≤ a)  {s : am_M} {x1 : Int32} {x2 : Int32} {x3 : Int32} (h : p_AS_find_52  s x1 x2 x3) : (f_AS_find_52  s x1 x2 x3).2 a = s a := by
  unfold p_AS_find_52 at h
  unfold f_AS_find_52
  obtain ⟨hc, h⟩ := h
  have m1 := wl_AS_findRows ha hc
  exact ((wl_AS_find_62 ha am_F _ _ _ _ _ h).trans (m1))
theorem wl_AS_find_7 {a : Nat} (ha : 207 ≤ a)  : ∀ (n : Nat) (s : am_M) (x1 : Int32) (x2 : Int32) (x3 : Int32), p_AS_find_7  n s x1 x2 x3 → (f_AS_find_7  n s x1 x2 x3).2 a = s a := by
  intro n
  induction n with
  | zero => intro s x1 x2 x3 h; exact h.elim
  | succ n hK7 =>
    intro s x1 x2 x3 h
    unfold p_AS_find_7 at h
    unfold f_AS_find_7
    by_cases c : (8 : Int32) ≤ x2
    · rewrite [if_pos c]
      have h := h.1 c
      exact (wl_AS_find_52 ha h)
    · rewrite [if_neg c]
      have h := h.2 c
      by_cases c : x3 < (10 : Int32)
      · rewrite [if_pos c]
        have h := h.1 c
        exact (wl_AS_find_52 ha h)
      · rewrite [if_neg c]
        have h := h.2 c
        obtain ⟨hv, h⟩ := h
        obtain ⟨hv, h⟩ := h
        obtain ⟨hc, h⟩ := h
        obtain ⟨⟨b1, t1⟩, h⟩ := h
        exact ((hK7 _ _ _ _ h).trans (am_set_o (by omega)))
theorem wl_AS_find {a : Nat} (ha : 207 ≤ a)  {s : am_M} {x1 : Int32} (h : p_AS_find  s x1) : (f_AS_find  s x1).2 a = s a := by
  unfold p_AS_find at h
  unfold f_AS_find
  exact (wl_AS_find_7 ha am_F _ _ _ _ h)
theorem wl_AS_widthOf {a : Nat} (ha : 207 ≤ a)  {s : am_M} {x1 : Int32} (h : p_AS_widthOf  s x1) : (f_AS_widthOf  s x1).2 a = s a := by
  unfold p_AS_widthOf at h
  unfold f_AS_widthOf
  obtain ⟨hc, h⟩ := h
  obtain ⟨⟨b1, t1⟩, h⟩ := h
  by_cases c : (s (f_AS_question s x1) 0) = (2 : Int32)
  · rewrite [if_pos c]
    have h := h.1 c
    obtain ⟨hc, h⟩ := h
    have m1 := wl_AS_find ha hc
    exact (m1)
  · rewrite [if_neg c]
    have h := h.2 c
    exact rfl
theorem wl_AS_makePlain_53 {a : Nat} (ha : 207 ≤ a)  {s : am_M} {x1 : Int32} {x2 : Int32} {x3 : Nat} (h : p_AS_makePlain_53  s x1 x2 x3) : (f_AS_makePlain_53  s x1 x2 x3).2 a = s a := by
  unfold p_AS_makePlain_53 at h
  unfold f_AS_makePlain_53
  obtain ⟨⟨b1, t1⟩, h⟩ := h
  obtain ⟨hc, h⟩ := h
  by_cases c : (f_AS_originOf (am_set s x3 8 (s x3 7)) x1 x2) < 0
  · rewrite [if_pos c]
    have h := h.1 c
    exact ((am_set_o (by omega)).trans (am_set_o (by omega)))
  · rewrite [if_neg c]
    have h := h.2 c
    obtain ⟨hc, h⟩ := h
    obtain ⟨⟨b2, t2⟩, h⟩ := h
    obtain ⟨hc, h⟩ := h
    obtain ⟨hc, h⟩ := h
    have m1 := wl_QU_addTableColumns ha hc
    exact ((am_set_o (by omega)).trans ((m1).trans ((am_set_o (by omega)).trans ((am_set_o (by omega)).trans (am_set_o (by omega))))))
theorem wl_AS_makePlain {a : Nat} (ha : 207 ≤ a)  {s : am_M} {x1 : Int32} {x2 : Int32} (h : p_AS_makePlain  s x1 x2) : (f_AS_makePlain  s x1 x2).2 a = s a := by
  unfold p_AS_makePlain at h
  unfold f_AS_makePlain
  obtain ⟨hc, h⟩ := h
  obtain ⟨⟨b1, t1⟩, h⟩ := h
  by_cases c : (10 : Int32) ≤ x1
  · rewrite [if_pos c]
    have h := h.1 c
    obtain ⟨hc, h⟩ := h
    obtain ⟨hc, h⟩ := h
    have m1 := wl_QU_addColumnsOf ha hc
    exact ((wl_AS_makePlain_53 ha h).trans ((m1).trans ((am_set_o (by omega)).trans (am_set_o (by omega)))))
  · rewrite [if_neg c]
    have h := h.2 c
    obtain ⟨hc, h⟩ := h
    obtain ⟨hc, h⟩ := h
    have m2 := wl_QU_addTableColumns ha hc
    exact ((wl_AS_makePlain_53 ha h).trans ((m2).trans ((am_set_o (by omega)).trans (am_set_o (by omega)))))
theorem wl_AS_makeGathered {a : Nat} (ha : 207 ≤ a)  {s : am_M} {x1 : Int32} {x2 : Int32} {x3 : Int32} {x4 : Int32} {x5 : Int32} (h : p_AS_makeGathered  s x1 x2 x3 x4 x5) : (f_AS_makeGathered  s x1 x2 x3 x4 x5).2 a = s a := by
  unfold p_AS_makeGathered at h
  unfold f_AS_makeGathered
  obtain ⟨hc, h⟩ := h
  obtain ⟨⟨b1, t1⟩, h⟩ := h
  exact ((am_set_o (by omega)).trans ((am_set_o (by omega)).trans ((am_set_o (by omega)).trans ((am_set_o (by omega)).trans ((am_set_o (by omega)).trans ((am_set_o (by omega)).trans (am_set_o (by omega))))))))

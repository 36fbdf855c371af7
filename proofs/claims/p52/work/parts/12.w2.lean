theorem wl_BA_refuse {a : Nat} (ha : 207 ≤ a)  {s : am_M} {x1 : Int32} {x2 : Int32} {x3 : Int32} (h : p_BA_refuse  s x1 x2 x3) : (f_BA_refuse  s x1 x2 x3).2 a = s a := by
  unfold p_BA_refuse at h
  unfold f_BA_refuse
  obtain ⟨hc, h⟩ := h
  have m1 := wl_RE_set ha hc
  exact (m1)
theorem wl_BA_keep {a : Nat} (ha : 207 ≤ a)  {s : am_M}  (h : p_BA_keep  s ) : (f_BA_keep  s ) a = s a := by
  unfold p_BA_keep at h
  unfold f_BA_keep
  obtain ⟨hc, h⟩ := h
  have m1 := wl_RO_copyFrom ha hc
  exact (m1)
theorem wl_BA_reckonSums_110 {a : Nat} (ha : 207 ≤ a) {K11 : am_M → Nat → Int32 → Int32 → Int32 → am_M} {KP11 : am_M → Nat → Int32 → Int32 → Int32 → Prop} (hK11 : ∀ (s : am_M) (x3 : Nat) (x1 : Int32) (x2 : Int32) (x4 : Int32), KP11 s x3 x1 x2 x4 → (K11 s x3 x1 x2 x4) a = s a) {s : am_M} {x3 : Nat} {x1 : Int32} {x2 : Int32} {x4 : Int32} {x5 : Int32} (h : p_BA_reckonSums_110 KP11 s x3 x1 x2 x4 x5) : (f_BA_reckonSums_110 K11 s x3 x1 x2 x4 x5) a = s a := by
  unfold p_BA_reckonSums_110 at h
  unfold f_BA_reckonSums_110
  exact (hK11 _ _ _ _ _ h)
theorem wl_BA_reckonSums_108 {a : Nat} (ha : 207 ≤ a) {K11 : am_M → Nat → Int32 → Int32 → Int32 → am_M} {KP11 : am_M → Nat → Int32 → Int32 → Int32 → Prop} (hK11 : ∀ (s : am_M) (x3 : Nat) (x1 : Int32) (x2 : Int32) (x4 : Int32), KP11 s x3 x1 x2 x4 → (K11 s x3 x1 x2 x4) a = s a) {s : am_M} {x3 : Nat} {x1 : Int32} {x2 : Int32} {x4 : Int32} {x5 : Int32} {y1 : Int32} {y2 : Int32} {y3 : Int32} (h : p_BA_reckonSums_108 KP11 s x3 x1 x2 x4 x5 y1 y2 y3) : (f_BA_reckonSums_108 K11 s x3 x1 x2 x4 x5 y1 y2 y3) a = s a := by
  unfold p_BA_reckonSums_108 at h
  unfold f_BA_reckonSums_108
  obtain ⟨hv, h⟩ := h
  exact ((wl_BA_reckonSums_110 ha hK11 h).trans (am_set_o (by omega)))
theorem wl_BA_reckonSums_164 {a : Nat} (ha : 207 ≤ a) {K119 : am_M → Nat → Int32 → Int32 → Int32 → am_M} {KP119 : am_M → Nat → Int32 → Int32 → Int32 → Prop} (hK119 : ∀ (s : am_M) (x3 : Nat) (x1 : Int32) (x2 : Int32) (x4 : Int32), KP119 s x3 x1 x2 x4 → (K119 s x3 x1 x2 x4) a = s a) {s : am_M} {x3 : Nat} {x1 : Int32} {x2 : Int32} {x4 : Int32} (h : p_BA_reckonSums_164 KP119 s x3 x1 x2 x4) : (f_BA_reckonSums_164 K119 s x3 x1 x2 x4) a = s a := by
  unfold p_BA_reckonSums_164 at h
  unfold f_BA_reckonSums_164
  exact (hK119 _ _ _ _ _ h)
theorem wl_BA_reckonSums_119 {a : Nat} (ha : 207 ≤ a)  : ∀ (n : Nat) (s : am_M) (x3 : Nat) (x1 : Int32) (x2 : Int32) (x4 : Int32), p_BA_reckonSums_119  n s x3 x1 x2 x4 → (f_BA_reckonSums_119  n s x3 x1 x2 x4) a = s a := by
  intro n
  induction n with
  | zero => intro s x3 x1 x2 x4 h; exact h.elim
  | succ n hK119 =>
    intro s x3 x1 x2 x4 h
    unfold p_BA_reckonSums_119 at h
    unfold f_BA_reckonSums_119
    by_cases c : (30 : Int32) ≤ x4
    · rewrite [if_pos c]
      have h := h.1 c
      exact rfl
    · rewrite [if_neg c]
      have h := h.2 c
      obtain ⟨hc, h⟩ := h
      by_cases c : (f_RO_has s 8 x1 x4) = 0
      · rewrite [if_pos c]
        have h := h.1 c
        exact (wl_BA_reckonSums_164 ha hK119 h)
      · rewrite [if_neg c]
        have h := h.2 c
        obtain ⟨hv, h⟩ := h
        obtain ⟨hc, h⟩ := h
        have m1 := wl_RO_set ha hc
        exact ((wl_BA_reckonSums_164 ha hK119 h).trans (m1))
theorem wl_BA_reckonSums_116 {a : Nat} (ha : 207 ≤ a)  {s : am_M} {x3 : Nat} {x1 : Int32} {x2 : Int32} {x4 : Int32} (h : p_BA_reckonSums_116  s x3 x1 x2 x4) : (f_BA_reckonSums_116  s x3 x1 x2 x4) a = s a := by
  unfold p_BA_reckonSums_116 at h
  unfold f_BA_reckonSums_116
  exact (wl_BA_reckonSums_119 ha am_F _ _ _ _ _ h)
theorem wl_BA_reckonSums_11 {a : Nat} (ha : 207 ≤ a)  : ∀ (n : Nat) (s : am_M) (x3 : Nat) (x1 : Int32) (x2 : Int32) (x4 : Int32), p_BA_reckonSums_11  n s x3 x1 x2 x4 → (f_BA_reckonSums_11  n s x3 x1 x2 x4) a = s a := by
  intro n
  induction n with
  | zero => intro s x3 x1 x2 x4 h; exact h.elim
  | succ n hK11 =>
    intro s x3 x1 x2 x4 h
    unfold p_BA_reckonSums_11 at h
    unfold f_BA_reckonSums_11
    by_cases c : (30 : Int32) ≤ x4
    · rewrite [if_pos c]
      have h := h.1 c
      exact (wl_BA_reckonSums_116 ha h)
    · rewrite [if_neg c]
      have h := h.2 c
      obtain ⟨⟨b1, t1⟩, h⟩ := h
      obtain ⟨hc, h⟩ := h
      obtain ⟨hc, h⟩ := h
      by_cases c : (f_RO_has s 8 (s x3 10) x4) = 0
      · rewrite [if_pos c]
        have h := h.1 c
        exact (wl_BA_reckonSums_110 ha hK11 h)
      · rewrite [if_neg c]
        have h := h.2 c
        by_cases c : (f_RO_get s 8 (s x3 10) x4 (s x3 8)) < 0
        · rewrite [if_pos c]
          have h := h.1 c
          exact (wl_BA_reckonSums_110 ha hK11 h)
        · rewrite [if_neg c]
          have h := h.2 c
          by_cases c : (30 : Int32) ≤ (f_RO_get s 8 (s x3 10) x4 (s x3 8))
          · rewrite [if_pos c]
            have h := h.1 c
            exact (wl_BA_reckonSums_110 ha hK11 h)
          · rewrite [if_neg c]
            have h := h.2 c
            obtain ⟨hv, h⟩ := h
            by_cases c : (s x3 7) = (4 : Int32)
            · rewrite [if_pos c]
              have h := h.1 c
              exact (wl_BA_reckonSums_108 ha hK11 h)
            · rewrite [if_neg c]
              have h := h.2 c
              obtain ⟨hc, h⟩ := h
              exact (wl_BA_reckonSums_108 ha hK11 h)
theorem wl_BA_reckonSums {a : Nat} (ha : 207 ≤ a)  {s : am_M} {x1 : Int32} {x2 : Int32} {x3 : Nat} (h : p_BA_reckonSums  s x1 x2 x3) : (f_BA_reckonSums  s x1 x2 x3) a = s a := by
  unfold p_BA_reckonSums at h
  unfold f_BA_reckonSums
  obtain ⟨hc, h⟩ := h
  have m1 := wl_JF_fill ha hc
  exact ((wl_BA_reckonSums_11 ha am_F _ _ _ _ _ h).trans (m1))
theorem wl_BA_reckon_125 {a : Nat} (ha : 207 ≤ a) {K2 : am_M → Int32 → am_M} {KP2 : am_M → Int32 → Prop} (hK2 : ∀ (s : am_M) (x1 : Int32), KP2 s x1 → (K2 s x1) a = s a) {s : am_M} {x1 : Int32} {x2 : Int32} {x3 : Int32} {x4 : Nat} (h : p_BA_reckon_125 KP2 s x1 x2 x3 x4) : (f_BA_reckon_125 K2 s x1 x2 x3 x4) a = s a := by
  unfold p_BA_reckon_125 at h
  unfold f_BA_reckon_125
  exact (hK2 _ _ h)
theorem wl_BA_reckon_65 {a : Nat} (ha : 207 ≤ a) {K2 : am_M → Int32 → am_M} {KP2 : am_M → Int32 → Prop} (hK2 : ∀ (s : am_M) (x1 : Int32), KP2 s x1 → (K2 s x1) a = s a) {s : am_M} {x1 : Int32} {x2 : Int32} {x3 : Int32} {x4 : Nat} (h : p_BA_reckon_65 KP2 s x1 x2 x3 x4) : (f_BA_reckon_65 K2 s x1 x2 x3 x4) a = s a := by
  unfold p_BA_reckon_65 at h
  unfold f_BA_reckon_65
  obtain ⟨hc, h⟩ := h
  have m1 := wl_BA_reckonSums ha hc
  exact ((wl_BA_reckon_125 ha hK2 h).trans (m1))
theorem wl_BA_reckon_119 {a : Nat} (ha : 207 ≤ a) {K2 : am_M → Int32 → am_M} {KP2 : am_M → Int32 → Prop} {K79 : am_M → Int32 → Int32 → Int32 → Nat → Int32 → am_M} {KP79 : am_M → Int32 → Int32 → Int32 → Nat → Int32 → Prop} (hK2 : ∀ (s : am_M) (x1 : Int32), KP2 s x1 → (K2 s x1) a = s a) (hK79 : ∀ (s : am_M) (x1 : Int32) (x2 : Int32) (x3 : Int32) (x4 : Nat) (x5 : Int32), KP79 s x1 x2 x3 x4 x5 → (K79 s x1 x2 x3 x4 x5) a = s a) {s : am_M} {x1 : Int32} {x2 : Int32} {x3 : Int32} {x4 : Nat} {x5 : Int32} (h : p_BA_reckon_119 KP2 KP79 s x1 x2 x3 x4 x5) : (f_BA_reckon_119 K2 K79 s x1 x2 x3 x4 x5) a = s a := by
  unfold p_BA_reckon_119 at h
  unfold f_BA_reckon_119
  exact (hK79 _ _ _ _ _ _ h)
theorem wl_BA_reckon_79 {a : Nat} (ha : 207 ≤ a) {K2 : am_M → Int32 → am_M} {KP2 : am_M → Int32 → Prop} (hK2 : ∀ (s : am_M) (x1 : Int32), KP2 s x1 → (K2 s x1) a = s a) : ∀ (n : Nat) (s : am_M) (x1 : Int32) (x2 : Int32) (x3 : Int32) (x4 : Nat) (x5 : Int32), p_BA_reckon_79 KP2 n s x1 x2 x3 x4 x5 → (f_BA_reckon_79 K2 n s x1 x2 x3 x4 x5) a = s a := by
  intro n
  induction n with
  | zero => intro s x1 x2 x3 x4 x5 h; exact h.elim
  | succ n hK79 =>
    intro s x1 x2 x3 x4 x5 h
    unfold p_BA_reckon_79 at h
    unfold f_BA_reckon_79
    by_cases c : (30 : Int32) ≤ x5
    · rewrite [if_pos c]
      have h := h.1 c
      exact (wl_BA_reckon_125 ha hK2 h)
    · rewrite [if_neg c]
      have h := h.2 c
      obtain ⟨hc, h⟩ := h
      by_cases c : (f_RO_has s 8 x2 x5) = 0
      · rewrite [if_pos c]
        have h := h.1 c
        exact (wl_BA_reckon_119 ha hK2 hK79 h)
      · rewrite [if_neg c]
        have h := h.2 c
        obtain ⟨hc, h⟩ := h
        obtain ⟨hc, h⟩ := h
        have m1 := wl_RO_set ha hc
        exact ((wl_BA_reckon_119 ha hK2 hK79 h).trans (m1))
theorem wl_BA_reckon_2 {a : Nat} (ha : 207 ≤ a)  : ∀ (n : Nat) (s : am_M) (x1 : Int32), p_BA_reckon_2  n s x1 → (f_BA_reckon_2  n s x1) a = s a := by
  intro n
  induction n with
  | zero => intro s x1 h; exact h.elim
  | succ n hK2 =>
    intro s x1 h
    unfold p_BA_reckon_2 at h
    unfold f_BA_reckon_2
    by_cases c : (s 1 8) ≤ x1
    · rewrite [if_pos c]
      have h := h.1 c
      exact rfl
    · rewrite [if_neg c]
      have h := h.2 c
      by_cases c : (24 : Int32) ≤ x1
      · rewrite [if_pos c]
        have h := h.1 c
        exact rfl
      · rewrite [if_neg c]
        have h := h.2 c
        obtain ⟨hv, h⟩ := h
        obtain ⟨hv, h⟩ := h
        obtain ⟨hc, h⟩ := h
        obtain ⟨⟨b1, t1⟩, h⟩ := h
        by_cases c : (s (f_BA_column s ((s 7 (x1).toNatClampNeg) / (10 : Int32)) ((s 7 (x1).toNatClampNeg) - (s 7 (x1).toNatClampNeg) / (10 : Int32) * (10 : Int32))) 7) = (3 : Int32)
        · rewrite [if_pos c]
          have h := h.1 c
          exact (wl_BA_reckon_65 ha hK2 h)
        · rewrite [if_neg c]
          have h := h.2 c
          by_cases c : (s (f_BA_column s ((s 7 (x1).toNatClampNeg) / (10 : Int32)) ((s 7 (x1).toNatClampNeg) - (s 7 (x1).toNatClampNeg) / (10 : Int32) * (10 : Int32))) 7) = (4 : Int32)
          · rewrite [if_pos c]
            have h := h.1 c
            exact (wl_BA_reckon_65 ha hK2 h)
          · rewrite [if_neg c]
            have h := h.2 c
            exact (wl_BA_reckon_79 ha hK2 am_F _ _ _ _ _ _ h)
theorem wl_BA_reckon {a : Nat} (ha : 207 ≤ a)  {s : am_M}  (h : p_BA_reckon  s ) : (f_BA_reckon  s ) a = s a := by
  unfold p_BA_reckon at h
  unfold f_BA_reckon
  exact (wl_BA_reckon_2 ha am_F _ _ h)
theorem wl_BA_brokenInCell_136 {a : Nat} (ha : 207 ≤ a)  {s : am_M} {x1 : Int32} {x2 : Int32} {x3 : Int32} {x4 : Nat} {x5 : Int32} {x6 : Int32} (h : p_BA_brokenInCell_136  s x1 x2 x3 x4 x5 x6) : (f_BA_brokenInCell_136  s x1 x2 x3 x4 x5 x6).2 a = s a := by
  unfold p_BA_brokenInCell_136 at h
  unfold f_BA_brokenInCell_136
  obtain ⟨⟨b1, t1⟩, h⟩ := h
  by_cases c : (s x4 0) = (2 : Int32)
  · rewrite [if_pos c]
    have h := h.1 c
    by_cases c : x5 = (-1000000 : Int32)
    · rewrite [if_pos c]
      have h := h.1 c
      exact rfl
    · rewrite [if_neg c]
      have h := h.2 c
      obtain ⟨hc, h⟩ := h
      by_cases c : (f_RO_has s 8 (s x4 3) x5) = 0
      · rewrite [if_pos c]
        have h := h.1 c
        obtain ⟨hc, h⟩ := h
        have m1 := wl_RE_setFirst ha hc
        exact (m1)
      · rewrite [if_neg c]
        have h := h.2 c
        exact rfl
  · rewrite [if_neg c]
    have h := h.2 c
    exact rfl
theorem wl_BA_brokenInCell_94 {a : Nat} (ha : 207 ≤ a)  {s : am_M} {x1 : Int32} {x2 : Int32} {x3 : Int32} {x4 : Nat} {x5 : Int32} {x6 : Int32} (h : p_BA_brokenInCell_94  s x1 x2 x3 x4 x5 x6) : (f_BA_brokenInCell_94  s x1 x2 x3 x4 x5 x6).2 a = s a := by
  unfold p_BA_brokenInCell_94 at h
  unfold f_BA_brokenInCell_94
  obtain ⟨⟨b1, t1⟩, h⟩ := h
  by_cases c : (s x4 6) = 0
  · rewrite [if_pos c]
    have h := h.1 c
    exact (wl_BA_brokenInCell_136 ha h)
  · rewrite [if_neg c]
    have h := h.2 c
    by_cases c : x5 = (-1000000 : Int32)
    · rewrite [if_pos c]
      have h := h.1 c
      exact (wl_BA_brokenInCell_136 ha h)
    · rewrite [if_neg c]
      have h := h.2 c
      obtain ⟨hc, h⟩ := h
      by_cases c : (f_RO_repeats s 8 x1 x2 x3) = 0
      · rewrite [if_pos c]
        have h := h.1 c
        exact (wl_BA_brokenInCell_136 ha h)
      · rewrite [if_neg c]
        have h := h.2 c
        obtain ⟨hc, h⟩ := h
        have m1 := wl_RE_setFirst ha hc
        exact ((wl_BA_brokenInCell_136 ha h).trans (m1))
theorem wl_BA_brokenInCell_65 {a : Nat} (ha : 207 ≤ a)  {s : am_M} {x1 : Int32} {x2 : Int32} {x3 : Int32} {x4 : Nat} {x5 : Int32} {x6 : Int32} (h : p_BA_brokenInCell_65  s x1 x2 x3 x4 x5 x6) : (f_BA_brokenInCell_65  s x1 x2 x3 x4 x5 x6).2 a = s a := by
  unfold p_BA_brokenInCell_65 at h
  unfold f_BA_brokenInCell_65
  obtain ⟨⟨b1, t1⟩, h⟩ := h
  by_cases c : (s x4 5) = 0
  · rewrite [if_pos c]
    have h := h.1 c
    exact (wl_BA_brokenInCell_94 ha h)
  · rewrite [if_neg c]
    have h := h.2 c
    by_cases c : x5 = (-1000000 : Int32)
    · rewrite [if_pos c]
      have h := h.1 c
      obtain ⟨hc, h⟩ := h
      have m1 := wl_RE_setFirst ha hc
      exact ((wl_BA_brokenInCell_94 ha h).trans (m1))
    · rewrite [if_neg c]
      have h := h.2 c
      exact (wl_BA_brokenInCell_94 ha h)
theorem wl_BA_brokenInCell {a : Nat} (ha : 207 ≤ a)  {s : am_M} {x1 : Int32} {x2 : Int32} {x3 : Int32} (h : p_BA_brokenInCell  s x1 x2 x3) : (f_BA_brokenInCell  s x1 x2 x3).2 a = s a := by
  unfold p_BA_brokenInCell at h
  unfold f_BA_brokenInCell
  obtain ⟨hc, h⟩ := h
  obtain ⟨hc, h⟩ := h
  obtain ⟨⟨b1, t1⟩, h⟩ := h
  by_cases c : (s (f_BA_column s x1 x3) 0) = (1 : Int32)
  · rewrite [if_pos c]
    have h := h.1 c
    by_cases c : (f_BA_isOutside s (f_RO_get s 8 x1 x2 x3) (s (f_BA_column s x1 x3) 1) (s (f_BA_column s x1 x3) 2)) = 0
    · rewrite [if_pos c]
      have h := h.1 c
      exact (wl_BA_brokenInCell_65 ha h)
    · rewrite [if_neg c]
      have h := h.2 c
      obtain ⟨hc, h⟩ := h
      have m1 := wl_RE_setFirst ha hc
      exact ((wl_BA_brokenInCell_65 ha h).trans (m1))
  · rewrite [if_neg c]
    have h := h.2 c
    exact (wl_BA_brokenInCell_65 ha h)
theorem wl_BA_brokenRules_98 {a : Nat} (ha : 207 ≤ a) {K5 : am_M → Int32 → Int32 → Int32 → Int32 → Int32 × am_M} {KP5 : am_M → Int32 → Int32 → Int32 → Int32 → Prop} (hK5 : ∀ (s : am_M) (x1 : Int32) (x2 : Int32) (x3 : Int32) (x4 : Int32), KP5 s x1 x2 x3 x4 → (K5 s x1 x2 x3 x4).2 a = s a) {s : am_M} {x1 : Int32} {x2 : Int32} {x3 : Int32} {x4 : Int32} {x5 : Nat} (h : p_BA_brokenRules_98 KP5 s x1 x2 x3 x4 x5) : (f_BA_brokenRules_98 K5 s x1 x2 x3 x4 x5).2 a = s a := by
  unfold p_BA_brokenRules_98 at h
  unfold f_BA_brokenRules_98
  exact (hK5 _ _ _ _ _ h)
theorem wl_BA_brokenRules_5 {a : Nat} (ha : 207 ≤ a)  : ∀ (n : Nat) (s : am_M) (x1 : Int32) (x2 : Int32) (x3 : Int32) (x4 : Int32), p_BA_brokenRules_5  n s x1 x2 x3 x4 → (f_BA_brokenRules_5  n s x1 x2 x3 x4).2 a = s a := by
  intro n
  induction n with
  | zero => intro s x1 x2 x3 x4 h; exact h.elim
  | succ n hK5 =>
    intro s x1 x2 x3 x4 h
    unfold p_BA_brokenRules_5 at h
    unfold f_BA_brokenRules_5
    by_cases c : (s 1 6) ≤ x4
    · rewrite [if_pos c]
      have h := h.1 c
      exact rfl
    · rewrite [if_neg c]
      have h := h.2 c
      by_cases c : (8 : Int32) ≤ x4
      · rewrite [if_pos c]
        have h := h.1 c
        exact rfl
      · rewrite [if_neg c]
        have h := h.2 c
        obtain ⟨hv, h⟩ := h
        obtain ⟨⟨b1, t1⟩, h⟩ := h
        by_cases c : (s (am_lk 5 (x4).toNatClampNeg) 5) = 0
        · rewrite [if_pos c]
          have h := h.1 c
          by_cases c : (s (am_lk 5 (x4).toNatClampNeg) 0) = x1
          · rewrite [if_pos c]
            have h := h.1 c
            obtain ⟨hc, h⟩ := h
            obtain ⟨hc, h⟩ := h
            obtain ⟨hc, h⟩ := h
            by_cases c : (f_RU_holds s (am_lk 5 (x4).toNatClampNeg) (f_RO_get s 8 x1 x2 (s (am_lk 5 (x4).toNatClampNeg) 1)) (f_RO_get s 8 x1 x2 (s (am_lk 5 (x4).toNatClampNeg) 3))) = 0
            · rewrite [if_pos c]
              have h := h.1 c
              obtain ⟨hc, h⟩ := h
              have m1 := wl_RE_setFirst ha hc
              exact ((wl_BA_brokenRules_98 ha hK5 h).trans (m1))
            · rewrite [if_neg c]
              have h := h.2 c
              exact (wl_BA_brokenRules_98 ha hK5 h)
          · rewrite [if_neg c]
            have h := h.2 c
            exact (wl_BA_brokenRules_98 ha hK5 h)
        · rewrite [if_neg c]
          have h := h.2 c
          exact (wl_BA_brokenRules_98 ha hK5 h)
theorem wl_BA_brokenRules {a : Nat} (ha : 207 ≤ a)  {s : am_M} {x1 : Int32} {x2 : Int32} (h : p_BA_brokenRules  s x1 x2) : (f_BA_brokenRules  s x1 x2).2 a = s a := by
  unfold p_BA_brokenRules at h
  unfold f_BA_brokenRules
  exact (wl_BA_brokenRules_5 ha am_F _ _ _ _ _ h)
theorem wl_BA_countBroken_91 {a : Nat} (ha : 207 ≤ a) {K11 : am_M → Int32 → Int32 → Int32 → Int32 × am_M} {KP11 : am_M → Int32 → Int32 → Int32 → Prop} {K22 : am_M → Int32 → Int32 → Int32 → Int32 → Int32 × am_M} {KP22 : am_M → Int32 → Int32 → Int32 → Int32 → Prop} (hK11 : ∀ (s : am_M) (x1 : Int32) (x2 : Int32) (x3 : Int32), KP11 s x1 x2 x3 → (K11 s x1 x2 x3).2 a = s a) (hK22 : ∀ (s : am_M) (x1 : Int32) (x2 : Int32) (x3 : Int32) (x4 : Int32), KP22 s x1 x2 x3 x4 → (K22 s x1 x2 x3 x4).2 a = s a) {s : am_M} {x1 : Int32} {x2 : Int32} {x3 : Int32} {x4 : Int32} (h : p_BA_countBroken_91 KP11 KP22 s x1 x2 x3 x4) : (f_BA_countBroken_91 K11 K22 s x1 x2 x3 x4).2 a = s a := by
  unfold p_BA_countBroken_91 at h
  unfold f_BA_countBroken_91
  exact (hK22 _ _ _ _ _ h)
theorem wl_BA_countBroken_81 {a : Nat} (ha : 207 ≤ a) {K11 : am_M → Int32 → Int32 → Int32 → Int32 × am_M} {KP11 : am_M → Int32 → Int32 → Int32 → Prop} {K22 : am_M → Int32 → Int32 → Int32 → Int32 → Int32 × am_M} {KP22 : am_M → Int32 → Int32 → Int32 → Int32 → Prop} (hK11 : ∀ (s : am_M) (x1 : Int32) (x2 : Int32) (x3 : Int32), KP11 s x1 x2 x3 → (K11 s x1 x2 x3).2 a = s a) (hK22 : ∀ (s : am_M) (x1 : Int32) (x2 : Int32) (x3 : Int32) (x4 : Int32), KP22 s x1 x2 x3 x4 → (K22 s x1 x2 x3 x4).2 a = s a) {s : am_M} {x1 : Int32} {x2 : Int32} {x3 : Int32} {x4 : Int32} {x5 : Int32} (h : p_BA_countBroken_81 KP11 KP22 s x1 x2 x3 x4 x5) : (f_BA_countBroken_81 K11 K22 s x1 x2 x3 x4 x5).2 a = s a := by
  unfold p_BA_countBroken_81 at h
  unfold f_BA_countBroken_81
  obtain ⟨hc, h⟩ := h
  have m1 := wl_BA_brokenRules ha hc
  exact ((wl_BA_countBroken_91 ha hK11 hK22 h).trans (m1))
theorem wl_BA_countBroken_53 {a : Nat} (ha : 207 ≤ a) {K11 : am_M → Int32 → Int32 → Int32 → Int32 × am_M} {KP11 : am_M → Int32 → Int32 → Int32 → Prop} {K22 : am_M → Int32 → Int32 → Int32 → Int32 → Int32 × am_M} {KP22 : am_M → Int32 → Int32 → Int32 → Int32 → Prop} (hK11 : ∀ (s : am_M) (x1 : Int32) (x2 : Int32) (x3 : Int32), KP11 s x1 x2 x3 → (K11 s x1 x2 x3).2 a = s a) (hK22 : ∀ (s : am_M) (x1 : Int32) (x2 : Int32) (x3 : Int32) (x4 : Int32), KP22 s x1 x2 x3 x4 → (K22 s x1 x2 x3 x4).2 a = s a) : ∀ (n : Nat) (s : am_M) (x1 : Int32) (x2 : Int32) (x3 : Int32) (x4 : Int32) (x5 : Int32), p_BA_countBroken_53 KP11 KP22 n s x1 x2 x3 x4 x5 → (f_BA_countBroken_53 K11 K22 n s x1 x2 x3 x4 x5).2 a = s a := by
  intro n
  induction n with
  | zero => intro s x1 x2 x3 x4 x5 h; exact h.elim
  | succ n hK53 =>
    intro s x1 x2 x3 x4 x5 h
    unfold p_BA_countBroken_53 at h
    unfold f_BA_countBroken_53
    obtain ⟨hc, h⟩ := h
    by_cases c : (f_BA_widthOf s x3) ≤ x5
    · rewrite [if_pos c]
      have h := h.1 c
      exact (wl_BA_countBroken_81 ha hK11 hK22 h)
    · rewrite [if_neg c]
      have h := h.2 c
      obtain ⟨hc, h⟩ := h
      have m1 := wl_BA_brokenInCell ha hc
      exact ((hK53 _ _ _ _ _ _ h).trans (m1))
theorem wl_BA_countBroken_37 {a : Nat} (ha : 207 ≤ a) {K11 : am_M → Int32 → Int32 → Int32 → Int32 × am_M} {KP11 : am_M → Int32 → Int32 → Int32 → Prop} {K22 : am_M → Int32 → Int32 → Int32 → Int32 → Int32 × am_M} {KP22 : am_M → Int32 → Int32 → Int32 → Int32 → Prop} (hK11 : ∀ (s : am_M) (x1 : Int32) (x2 : Int32) (x3 : Int32), KP11 s x1 x2 x3 → (K11 s x1 x2 x3).2 a = s a) (hK22 : ∀ (s : am_M) (x1 : Int32) (x2 : Int32) (x3 : Int32) (x4 : Int32), KP22 s x1 x2 x3 x4 → (K22 s x1 x2 x3 x4).2 a = s a) {s : am_M} {x1 : Int32} {x2 : Int32} {x3 : Int32} {x4 : Int32} (h : p_BA_countBroken_37 KP11 KP22 s x1 x2 x3 x4) : (f_BA_countBroken_37 K11 K22 s x1 x2 x3 x4).2 a = s a := by
  unfold p_BA_countBroken_37 at h
  unfold f_BA_countBroken_37
  obtain ⟨hc, h⟩ := h
  by_cases c : (f_RO_has s 8 x3 x4) = 0
  · rewrite [if_pos c]
    have h := h.1 c
    exact (wl_BA_countBroken_91 ha hK11 hK22 h)
  · rewrite [if_neg c]
    have h := h.2 c
    exact (wl_BA_countBroken_53 ha hK11 hK22 am_F _ _ _ _ _ _ h)
theorem wl_BA_countBroken_97 {a : Nat} (ha : 207 ≤ a) {K11 : am_M → Int32 → Int32 → Int32 → Int32 × am_M} {KP11 : am_M → Int32 → Int32 → Int32 → Prop} (hK11 : ∀ (s : am_M) (x1 : Int32) (x2 : Int32) (x3 : Int32), KP11 s x1 x2 x3 → (K11 s x1 x2 x3).2 a = s a) {s : am_M} {x1 : Int32} {x2 : Int32} {x3 : Int32} {x4 : Int32} (h : p_BA_countBroken_97 KP11 s x1 x2 x3 x4) : (f_BA_countBroken_97 K11 s x1 x2 x3 x4).2 a = s a := by
  unfold p_BA_countBroken_97 at h
  unfold f_BA_countBroken_97
  exact (hK11 _ _ _ _ h)
theorem wl_BA_countBroken_22 {a : Nat} (ha : 207 ≤ a) {K11 : am_M → Int32 → Int32 → Int32 → Int32 × am_M} {KP11 : am_M → Int32 → Int32 → Int32 → Prop} (hK11 : ∀ (s : am_M) (x1 : Int32) (x2 : Int32) (x3 : Int32), KP11 s x1 x2 x3 → (K11 s x1 x2 x3).2 a = s a) : ∀ (n : Nat) (s : am_M) (x1 : Int32) (x2 : Int32) (x3 : Int32) (x4 : Int32), p_BA_countBroken_22 KP11 n s x1 x2 x3 x4 → (f_BA_countBroken_22 K11 n s x1 x2 x3 x4).2 a = s a := by
  intro n
  induction n with
  | zero => intro s x1 x2 x3 x4 h; exact h.elim
  | succ n hK22 =>
    intro s x1 x2 x3 x4 h
    unfold p_BA_countBroken_22 at h
    unfold f_BA_countBroken_22
    by_cases c : (30 : Int32) ≤ x4
    · rewrite [if_pos c]
      have h := h.1 c
      exact (wl_BA_countBroken_97 ha hK11 h)
    · rewrite [if_neg c]
      have h := h.2 c
      by_cases c : x1 = 0
      · rewrite [if_pos c]
        have h := h.1 c
        by_cases c : x2 = 0
        · rewrite [if_pos c]
          have h := h.1 c
          exact (wl_BA_countBroken_37 ha hK11 hK22 h)
        · rewrite [if_neg c]
          have h := h.2 c
          exact (wl_BA_countBroken_97 ha hK11 h)
      · rewrite [if_neg c]
        have h := h.2 c
        exact (wl_BA_countBroken_37 ha hK11 hK22 h)
theorem wl_BA_countBroken_11 {a : Nat} (ha : 207 ≤ a)  : ∀ (n : Nat) (s : am_M) (x1 : Int32) (x2 : Int32) (x3 : Int32), p_BA_countBroken_11  n s x1 x2 x3 → (f_BA_countBroken_11  n s x1 x2 x3).2 a = s a := by
  intro n
  induction n with
  | zero => intro s x1 x2 x3 h; exact h.elim
  | succ n hK11 =>
    intro s x1 x2 x3 h
    unfold p_BA_countBroken_11 at h
    unfold f_BA_countBroken_11
    by_cases c : (s 1 3) ≤ x3
    · rewrite [if_pos c]
      have h := h.1 c
      exact rfl
    · rewrite [if_neg c]
      have h := h.2 c
      exact (wl_BA_countBroken_22 ha hK11 am_F _ _ _ _ _ h)
theorem wl_BA_countBroken {a : Nat} (ha : 207 ≤ a)  {s : am_M} {x1 : Int32} (h : p_BA_countBroken  s x1) : (f_BA_countBroken  s x1).2 a = s a := by
  unfold p_BA_countBroken at h
  unfold f_BA_countBroken
  obtain ⟨hc, h⟩ := h
  have m1 := wl_RE_clear ha hc
  exact ((wl_BA_countBroken_11 ha am_F _ _ _ _ h).trans (m1))
theorem wl_BA_settle {a : Nat} (ha : 207 ≤ a)  {s : am_M}  (h : p_BA_settle  s ) : (f_BA_settle  s ).2 a = s a := by
  unfold p_BA_settle at h
  unfold f_BA_settle
  obtain ⟨hc, h⟩ := h
  have m1 := wl_BA_reckon ha hc
  obtain ⟨hc, h⟩ := h
  have m2 := wl_BA_countBroken ha hc
  by_cases c : (f_BA_countBroken (f_BA_reckon s) (0 : Int32)).1 = 0
  · rewrite [if_pos c]
    have h := h.1 c
    exact ((m2).trans (m1))
  · rewrite [if_neg c]
    have h := h.2 c
    obtain ⟨hc, h⟩ := h
    have m3 := wl_RO_copyFrom ha hc
    exact ((m3).trans ((m2).trans (m1)))
theorem wl_BA_enterRow_104 {a : Nat} (ha : 207 ≤ a) {K44 : am_M → Nat → Int32 → Int32 → Int32 → Int32 → Int32 → Int32 × am_M} {KP44 : am_M → Nat → Int32 → Int32 → Int32 → Int32 → Int32 → Prop} (hK44 : ∀ (s : am_M) (x2 : Nat) (x1 : Int32) (x3 : Int32) (x4 : Int32) (x5 : Int32) (x6 : Int32), KP44 s x2 x1 x3 x4 x5 x6 → (K44 s x2 x1 x3 x4 x5 x6).2 a = s a) {s : am_M} {x2 : Nat} {x1 : Int32} {x3 : Int32} {x4 : Int32} {x5 : Int32} {x6 : Int32} {x7 : Int32} {y1 : Int32} {y2 : Int32} {y3 : Int32} {y4 : Int32} (h : p_BA_enterRow_104 KP44 s x2 x1 x3 x4 x5 x6 x7 y1 y2 y3 y4) : (f_BA_enterRow_104 K44 s x2 x1 x3 x4 x5 x6 x7 y1 y2 y3 y4).2 a = s a := by
  unfold p_BA_enterRow_104 at h
  unfold f_BA_enterRow_104
  obtain ⟨hc, h⟩ := h
  have m1 := wl_RO_set ha hc
  exact ((hK44 _ _ _ _ _ _ _ h).trans (m1))
theorem wl_BA_enterRow_44 {a : Nat} (ha : 207 ≤ a)  : ∀ (n : Nat) (s : am_M) (x2 : Nat) (x1 : Int32) (x3 : Int32) (x4 : Int32) (x5 : Int32) (x6 : Int32), p_BA_enterRow_44  n s x2 x1 x3 x4 x5 x6 → (f_BA_enterRow_44  n s x2 x1 x3 x4 x5 x6).2 a = s a := by
  intro n
  induction n with
  | zero => intro s x2 x1 x3 x4 x5 x6 h; exact h.elim
  | succ n hK44 =>
    intro s x2 x1 x3 x4 x5 x6 h
    unfold p_BA_enterRow_44 at h
    unfold f_BA_enterRow_44
    by_cases c : (6 : Int32) ≤ x6
    · rewrite [if_pos c]
      have h := h.1 c
      obtain ⟨hc, h⟩ := h
      have m1 := wl_BA_settle ha hc
      by_cases c : (f_BA_settle s).1 = 0
      · rewrite [if_pos c]
        have h := h.1 c
        exact (m1)
      · rewrite [if_neg c]
        have h := h.2 c
        exact (m1)
    · rewrite [if_neg c]
      have h := h.2 c
      obtain ⟨⟨b1, t1⟩, h⟩ := h
      by_cases c : (Int32.ofNat (am_sh x2).2.2) ≤ x6
      · rewrite [if_pos c]
        have h := h.1 c
        obtain ⟨hc, h⟩ := h
        have m2 := wl_BA_settle ha hc
        by_cases c : (f_BA_settle s).1 = 0
        · rewrite [if_pos c]
          have h := h.1 c
          exact (m2)
        · rewrite [if_neg c]
          have h := h.2 c
          exact (m2)
      · rewrite [if_neg c]
        have h := h.2 c
        obtain ⟨hc, h⟩ := h
        obtain ⟨hc, h⟩ := h
        obtain ⟨⟨b2, t2⟩, h⟩ := h
        by_cases c : (f_CO_isStored s (f_BA_column s x1 x6)) = 0
        · rewrite [if_pos c]
          have h := h.1 c
          exact (wl_BA_enterRow_104 ha hK44 h)
        · rewrite [if_neg c]
          have h := h.2 c
          by_cases c : x6 = x3
          · rewrite [if_pos c]
            have h := h.1 c
            exact (wl_BA_enterRow_104 ha hK44 h)
          · rewrite [if_neg c]
            have h := h.2 c
            obtain ⟨hv, h⟩ := h
            exact (wl_BA_enterRow_104 ha hK44 h)
theorem wl_BA_enterRow {a : Nat} (ha : 207 ≤ a)  {s : am_M} {x1 : Int32} {x2 : Nat} {x3 : Int32} {x4 : Int32} (h : p_BA_enterRow  s x1 x2 x3 x4) : (f_BA_enterRow  s x1 x2 x3 x4).2 a = s a := by
  unfold p_BA_enterRow at h
  unfold f_BA_enterRow
  obtain ⟨hc, h⟩ := h
  by_cases c : (f_RO_isFull s 8 x1) = 0
  · rewrite [if_pos c]
    have h := h.1 c
    obtain ⟨hc, h⟩ := h
    have m1 := wl_BA_keep ha hc
    obtain ⟨hc, h⟩ := h
    have m2 := wl_RO_make ha hc
    exact ((wl_BA_enterRow_44 ha am_F _ _ _ _ _ _ _ h).trans ((m2).trans ((am_set_o (by omega)).trans (m1))))
  · rewrite [if_neg c]
    have h := h.2 c
    exact rfl
theorem wl_BA_makeColumn {a : Nat} (ha : 207 ≤ a)  {s : am_M} {x1 : Int32} {x2 : Int32} (h : p_BA_makeColumn  s x1 x2) : (f_BA_makeColumn  s x1 x2).2 a = s a := by
  unfold p_BA_makeColumn at h
  unfold f_BA_makeColumn
  obtain ⟨hc, h⟩ := h
  by_cases c : x1 < 0
  · rewrite [if_pos c]
    have h := h.1 c
    exact rfl
  · rewrite [if_neg c]
    have h := h.2 c
    by_cases c : (4 : Int32) ≤ x1
    · rewrite [if_pos c]
      have h := h.1 c
      exact rfl
    · rewrite [if_neg c]
      have h := h.2 c
      by_cases c : (6 : Int32) ≤ (f_BA_widthOf s x1)
      · rewrite [if_pos c]
        have h := h.1 c
        exact rfl
      · rewrite [if_neg c]
        have h := h.2 c
        obtain ⟨hv, h⟩ := h
        obtain ⟨hv, h⟩ := h
        obtain ⟨⟨b1, t1⟩, h⟩ := h
        exact ((am_set_o (by omega)).trans (am_set_o (by omega)))
theorem wl_BA_makeLink {a : Nat} (ha : 207 ≤ a)  {s : am_M} {x1 : Int32} {x2 : Int32} {x3 : Int32} (h : p_BA_makeLink  s x1 x2 x3) : (f_BA_makeLink  s x1 x2 x3).2 a = s a := by
  unfold p_BA_makeLink at h
  unfold f_BA_makeLink
  obtain ⟨hc, h⟩ := h
  have m1 := wl_BA_makeColumn ha hc
  obtain ⟨hc, h⟩ := h
  obtain ⟨⟨b1, t1⟩, h⟩ := h
  exact ((am_set_o (by omega)).trans ((am_set_o (by omega)).trans (m1)))
theorem wl_BA_makeNumber {a : Nat} (ha : 207 ≤ a)  {s : am_M} {x1 : Int32} {x2 : Int32} {x3 : Int32} (h : p_BA_makeNumber  s x1 x2 x3) : (f_BA_makeNumber  s x1 x2 x3).2 a = s a := by
  unfold p_BA_makeNumber at h
  unfold f_BA_makeNumber
  obtain ⟨hc, h⟩ := h
  have m1 := wl_BA_makeColumn ha hc
  obtain ⟨hc, h⟩ := h
  obtain ⟨⟨b1, t1⟩, h⟩ := h
  exact ((am_set_o (by omega)).trans ((am_set_o (by omega)).trans (m1)))
theorem wl_BA_putInOrder_36 {a : Nat} (ha : 207 ≤ a) {K4 : am_M → Int32 → Int32 → Int32 × am_M} {KP4 : am_M → Int32 → Int32 → Prop} (hK4 : ∀ (s : am_M) (x1 : Int32) (x2 : Int32), KP4 s x1 x2 → (K4 s x1 x2).2 a = s a) {s : am_M} {x1 : Int32} {x2 : Int32} (h : p_BA_putInOrder_36 KP4 s x1 x2) : (f_BA_putInOrder_36 K4 s x1 x2).2 a = s a := by
  unfold p_BA_putInOrder_36 at h
  unfold f_BA_putInOrder_36
  exact (hK4 _ _ _ h)
theorem wl_BA_putInOrder_47 {a : Nat} (ha : 207 ≤ a)  : ∀ (n : Nat) (s : am_M) (x1 : Int32) (x2 : Int32), p_BA_putInOrder_47  n s x1 x2 → (f_BA_putInOrder_47  n s x1 x2).2 a = s a := by
  intro n
  induction n with
  | zero => intro s x1 x2 h; exact h.elim
  | succ n hK47 =>
    intro s x1 x2 h
    unfold p_BA_putInOrder_47 at h
    unfold f_BA_putInOrder_47
    by_cases c : x1 ≤ (s 1 8)
    · rewrite [if_pos c]
      have h := h.1 c
      exact rfl
    · rewrite [if_neg c]
      have h := h.2 c
      by_cases c : (24 : Int32) ≤ (s 1 8)
      · rewrite [if_pos c]
        have h := h.1 c
        exact rfl
      · rewrite [if_neg c]
        have h := h.2 c
        obtain ⟨hc, h⟩ := h
        by_cases c : 0 ≤ (f_BA_nextReady s)
        · rewrite [if_pos c]
          have h := h.1 c
          obtain ⟨hv, h⟩ := h
          obtain ⟨hv, h⟩ := h
          exact ((hK47 _ _ _ h).trans ((am_set_o (by omega)).trans ((am_set_o (by omega)).trans (am_set_o (by omega)))))
        · rewrite [if_neg c]
          have h := h.2 c
          exact rfl
theorem wl_BA_putInOrder_42 {a : Nat} (ha : 207 ≤ a)  {s : am_M} {x1 : Int32} {x2 : Int32} (h : p_BA_putInOrder_42  s x1 x2) : (f_BA_putInOrder_42  s x1 x2).2 a = s a := by
  unfold p_BA_putInOrder_42 at h
  unfold f_BA_putInOrder_42
  exact ((wl_BA_putInOrder_47 ha am_F _ _ _ h).trans (am_set_o (by omega)))
theorem wl_BA_putInOrder_4 {a : Nat} (ha : 207 ≤ a)  : ∀ (n : Nat) (s : am_M) (x1 : Int32) (x2 : Int32), p_BA_putInOrder_4  n s x1 x2 → (f_BA_putInOrder_4  n s x1 x2).2 a = s a := by
  intro n
  induction n with
  | zero => intro s x1 x2 h; exact h.elim
  | succ n hK4 =>
    intro s x1 x2 h
    unfold p_BA_putInOrder_4 at h
    unfold f_BA_putInOrder_4
    by_cases c : (24 : Int32) ≤ x2
    · rewrite [if_pos c]
      have h := h.1 c
      exact (wl_BA_putInOrder_42 ha h)
    · rewrite [if_neg c]
      have h := h.2 c
      obtain ⟨hv, h⟩ := h
      obtain ⟨hv, h⟩ := h
      obtain ⟨⟨b1, t1⟩, h⟩ := h
      by_cases c : ((am_set s 17 (x2).toNatClampNeg (0 : Int32)) (am_lk 2 (x2).toNatClampNeg) 0) = (3 : Int32)
      · rewrite [if_pos c]
        have h := h.1 c
        exact ((wl_BA_putInOrder_36 ha hK4 h).trans (am_set_o (by omega)))
      · rewrite [if_neg c]
        have h := h.2 c
        exact ((wl_BA_putInOrder_36 ha hK4 h).trans (am_set_o (by omega)))
theorem wl_BA_putInOrder {a : Nat} (ha : 207 ≤ a)  {s : am_M}  (h : p_BA_putInOrder  s ) : (f_BA_putInOrder  s ).2 a = s a := by
  unfold p_BA_putInOrder at h
  unfold f_BA_putInOrder
  exact (wl_BA_putInOrder_4 ha am_F _ _ _ h)
theorem wl_BA_makeReckoned {a : Nat} (ha : 207 ≤ a)  {s : am_M} {x1 : Int32} {x2 : Int32} {x3 : Int32} {x4 : Int32} {x5 : Int32} (h : p_BA_makeReckoned  s x1 x2 x3 x4 x5) : (f_BA_makeReckoned  s x1 x2 x3 x4 x5).2 a = s a := by
  unfold p_BA_makeReckoned at h
  unfold f_BA_makeReckoned
  obtain ⟨hc, h⟩ := h
  have m1 := wl_BA_makeColumn ha hc
  obtain ⟨hc, h⟩ := h
  obtain ⟨hc, h⟩ := h
  have m2 := wl_CO_setFormula ha hc
  obtain ⟨⟨b1, t1⟩, h⟩ := h
  obtain ⟨hc, h⟩ := h
  have m3 := wl_BA_putInOrder ha hc
  obtain ⟨hc, h⟩ := h
  have m4 := wl_BA_reckon ha hc
  exact ((m4).trans ((m3).trans ((m2).trans (m1))))
theorem wl_BA_makeRule {a : Nat} (ha : 207 ≤ a)  {s : am_M} {x1 : Int32} {x2 : Int32} {x3 : Int32} {x4 : Int32} {x5 : Int32} (h : p_BA_makeRule  s x1 x2 x3 x4 x5) : (f_BA_makeRule  s x1 x2 x3 x4 x5).2 a = s a := by
  unfold p_BA_makeRule at h
  unfold f_BA_makeRule
  obtain ⟨hc, h⟩ := h
  obtain ⟨⟨b1, t1⟩, h⟩ := h
  obtain ⟨hc, h⟩ := h
  have m1 := wl_BA_keep ha hc
  obtain ⟨hc, h⟩ := h
  have m2 := wl_BA_settle ha hc
  by_cases c : (f_BA_settle (am_set (f_BA_keep (am_set (am_set (am_set (am_set (am_set s (f_BA_rule s (s 1 6)) 0 x1) (f_BA_rule s (s 1 6)) 1 x2) (f_BA_rule s (s 1 6)) 2 x3) (f_BA_rule s (s 1 6)) 3 x4) (f_BA_rule s (s 1 6)) 4 x5)) 1 6 (((f_BA_keep (am_set (am_set (am_set (am_set (am_set s (f_BA_rule s (s 1 6)) 0 x1) (f_BA_rule s (s 1 6)) 1 x2) (f_BA_rule s (s 1 6)) 2 x3) (f_BA_rule s (s 1 6)) 3 x4) (f_BA_rule s (s 1 6)) 4 x5)) 1 6) + (1 : Int32)))).1 = 0
  · rewrite [if_pos c]
    have h := h.1 c
    exact ((am_set_o (by omega)).trans ((m2).trans ((am_set_o (by omega)).trans ((m1).trans ((am_set_o (by omega)).trans ((am_set_o (by omega)).trans ((am_set_o (by omega)).trans ((am_set_o (by omega)).trans (am_set_o (by omega))))))))))
  · rewrite [if_neg c]
    have h := h.2 c
    exact ((m2).trans ((am_set_o (by omega)).trans ((m1).trans ((am_set_o (by omega)).trans ((am_set_o (by omega)).trans ((am_set_o (by omega)).trans ((am_set_o (by omega)).trans (am_set_o (by omega)))))))))
theorem wl_BA_putThrough {a : Nat} (ha : 207 ≤ a)  {s : am_M} {x1 : Int32} {x2 : Int32} {x3 : Int32} (h : p_BA_putThrough  s x1 x2 x3) : (f_BA_putThrough  s x1 x2 x3).2 a = s a := by
  unfold p_BA_putThrough at h
  unfold f_BA_putThrough
  obtain ⟨hc, h⟩ := h
  by_cases c : (f_BA_isStored s x1) = 0
  · rewrite [if_pos c]
    have h := h.1 c
    obtain ⟨hc, h⟩ := h
    have m1 := wl_BA_refuse ha hc
    obtain ⟨hz, h⟩ := h
    exact (m1)
  · rewrite [if_neg c]
    have h := h.2 c
    obtain ⟨hc, h⟩ := h
    have m2 := wl_BA_keep ha hc
    obtain ⟨hc, h⟩ := h
    have m3 := wl_RO_set ha hc
    obtain ⟨hc, h⟩ := h
    have m4 := wl_BA_settle ha hc
    obtain ⟨hz, h⟩ := h
    exact ((m4).trans ((m3).trans (m2)))
theorem wl_BA_couldPut {a : Nat} (ha : 207 ≤ a)  {s : am_M} {x1 : Int32} {x2 : Int32} {x3 : Int32} (h : p_BA_couldPut  s x1 x2 x3) : (f_BA_couldPut  s x1 x2 x3).2 a = s a := by
  unfold p_BA_couldPut at h
  unfold f_BA_couldPut
  obtain ⟨hc, h⟩ := h
  have m1 := wl_BA_putThrough ha hc
  obtain ⟨hc, h⟩ := h
  have m2 := wl_RO_copyFrom ha hc
  obtain ⟨hz, h⟩ := h
  exact ((m2).trans (m1))
theorem wl_BA_dropColumn_25 {a : Nat} (ha : 207 ≤ a)  : ∀ (n : Nat) (s : am_M) (x1 : Int32) (x2 : Int32) (x3 : Nat) (x4 : Int32), p_BA_dropColumn_25  n s x1 x2 x3 x4 → (f_BA_dropColumn_25  n s x1 x2 x3 x4) a = s a := by
  intro n
  induction n with
  | zero => intro s x1 x2 x3 x4 h; exact h.elim
  | succ n hK25 =>
    intro s x1 x2 x3 x4 h
    unfold p_BA_dropColumn_25 at h
    unfold f_BA_dropColumn_25
    by_cases c : (30 : Int32) ≤ x4
    · rewrite [if_pos c]
      have h := h.1 c
      obtain ⟨hc, h⟩ := h
      have m1 := wl_BA_putInOrder ha hc
      exact (m1)
    · rewrite [if_neg c]
      have h := h.2 c
      obtain ⟨hc, h⟩ := h
      have m2 := wl_RO_set ha hc
      exact ((hK25 _ _ _ _ _ h).trans (m2))
theorem wl_BA_dropColumn {a : Nat} (ha : 207 ≤ a)  {s : am_M} {x1 : Int32} {x2 : Int32} (h : p_BA_dropColumn  s x1 x2) : (f_BA_dropColumn  s x1 x2) a = s a := by
  unfold p_BA_dropColumn at h
  unfold f_BA_dropColumn
  obtain ⟨hc, h⟩ := h
  obtain ⟨⟨b1, t1⟩, h⟩ := h
  exact ((wl_BA_dropColumn_25 ha am_F _ _ _ _ _ h).trans ((am_set_o (by omega)).trans ((am_set_o (by omega)).trans (am_set_o (by omega)))))
theorem wl_BA_changeRange_83 {a : Nat} (ha : 207 ≤ a) {K42 : am_M → Int32 → Int32 → Int32 → Int32 → Nat → Int32 → Int32 → Int32 → Int32 × am_M} {KP42 : am_M → Int32 → Int32 → Int32 → Int32 → Nat → Int32 → Int32 → Int32 → Prop} (hK42 : ∀ (s : am_M) (x1 : Int32) (x2 : Int32) (x3 : Int32) (x4 : Int32) (x5 : Nat) (x6 : Int32) (x7 : Int32) (x8 : Int32), KP42 s x1 x2 x3 x4 x5 x6 x7 x8 → (K42 s x1 x2 x3 x4 x5 x6 x7 x8).2 a = s a) {s : am_M} {x1 : Int32} {x2 : Int32} {x3 : Int32} {x4 : Int32} {x5 : Nat} {x6 : Int32} {x7 : Int32} {x8 : Int32} (h : p_BA_changeRange_83 KP42 s x1 x2 x3 x4 x5 x6 x7 x8) : (f_BA_changeRange_83 K42 s x1 x2 x3 x4 x5 x6 x7 x8).2 a = s a := by
  unfold p_BA_changeRange_83 at h
  unfold f_BA_changeRange_83
  exact (hK42 _ _ _ _ _ _ _ _ _ h)
theorem wl_BA_changeRange_89 {a : Nat} (ha : 207 ≤ a)  {s : am_M} {x1 : Int32} {x2 : Int32} {x3 : Int32} {x4 : Int32} {x5 : Nat} {x6 : Int32} {x7 : Int32} {x8 : Int32} (h : p_BA_changeRange_89  s x1 x2 x3 x4 x5 x6 x7 x8) : (f_BA_changeRange_89  s x1 x2 x3 x4 x5 x6 x7 x8).2 a = s a := by
  unfold p_BA_changeRange_89 at h
  unfold f_BA_changeRange_89
  obtain ⟨hc, h⟩ := h
  have m1 := wl_BA_settle ha hc
  by_cases c : (f_BA_settle s).1 = 0
  · rewrite [if_pos c]
    have h := h.1 c
    obtain ⟨⟨b1, t1⟩, h⟩ := h
    obtain ⟨hz, h⟩ := h
    exact ((am_set_o (by omega)).trans ((am_set_o (by omega)).trans (m1)))
  · rewrite [if_neg c]
    have h := h.2 c
    obtain ⟨hz, h⟩ := h
    exact (m1)
theorem wl_BA_changeRange_42 {a : Nat} (ha : 207 ≤ a)  : ∀ (n : Nat) (s : am_M) (x1 : Int32) (x2 : Int32) (x3 : Int32) (x4 : Int32) (x5 : Nat) (x6 : Int32) (x7 : Int32) (x8 : Int32), p_BA_changeRange_42  n s x1 x2 x3 x4 x5 x6 x7 x8 → (f_BA_changeRange_42  n s x1 x2 x3 x4 x5 x6 x7 x8).2 a = s a := by
  intro n
  induction n with
  | zero => intro s x1 x2 x3 x4 x5 x6 x7 x8 h; exact h.elim
  | succ n hK42 =>
    intro s x1 x2 x3 x4 x5 x6 x7 x8 h
    unfold p_BA_changeRange_42 at h
    unfold f_BA_changeRange_42
    by_cases c : (30 : Int32) ≤ x8
    · rewrite [if_pos c]
      have h := h.1 c
      exact (wl_BA_changeRange_89 ha h)
    · rewrite [if_neg c]
      have h := h.2 c
      obtain ⟨hc, h⟩ := h
      by_cases c : (f_BA_isOutside s (f_RO_get s 8 x1 x8 x2) x3 x4) = 0
      · rewrite [if_pos c]
        have h := h.1 c
        exact (wl_BA_changeRange_83 ha hK42 h)
      · rewrite [if_neg c]
        have h := h.2 c
        obtain ⟨hc, h⟩ := h
        have m1 := wl_RO_set ha hc
        exact ((wl_BA_changeRange_83 ha hK42 h).trans (m1))
theorem wl_BA_changeRange {a : Nat} (ha : 207 ≤ a)  {s : am_M} {x1 : Int32} {x2 : Int32} {x3 : Int32} {x4 : Int32} (h : p_BA_changeRange  s x1 x2 x3 x4) : (f_BA_changeRange  s x1 x2 x3 x4).2 a = s a := by
  unfold p_BA_changeRange at h
  unfold f_BA_changeRange
  obtain ⟨hc, h⟩ := h
  obtain ⟨⟨b1, t1⟩, h⟩ := h
  obtain ⟨hc, h⟩ := h
  have m1 := wl_BA_keep ha hc
  exact ((wl_BA_changeRange_42 ha am_F _ _ _ _ _ _ _ _ _ h).trans ((am_set_o (by omega)).trans ((am_set_o (by omega)).trans (m1))))
theorem wl_BA_changeNeeded {a : Nat} (ha : 207 ≤ a)  {s : am_M} {x1 : Int32} {x2 : Int32} {x3 : Int32} (h : p_BA_changeNeeded  s x1 x2 x3) : (f_BA_changeNeeded  s x1 x2 x3).2 a = s a := by
  unfold p_BA_changeNeeded at h
  unfold f_BA_changeNeeded
  obtain ⟨hc, h⟩ := h
  obtain ⟨⟨b1, t1⟩, h⟩ := h
  obtain ⟨hc, h⟩ := h
  have m1 := wl_BA_keep ha hc
  obtain ⟨hz, h⟩ := h
  obtain ⟨hc, h⟩ := h
  have m2 := wl_BA_settle ha hc
  by_cases c : (f_BA_settle (am_set (f_BA_keep s) (f_BA_column s x1 x2) 5 x3)).1 = 0
  · rewrite [if_pos c]
    have h := h.1 c
    obtain ⟨hz, h⟩ := h
    obtain ⟨hz, h⟩ := h
    exact ((am_set_o (by omega)).trans ((m2).trans ((am_set_o (by omega)).trans (m1))))
  · rewrite [if_neg c]
    have h := h.2 c
    obtain ⟨hz, h⟩ := h
    exact ((m2).trans ((am_set_o (by omega)).trans (m1)))
theorem wl_BA_changeFormula_74 {a : Nat} (ha : 207 ≤ a)  {s : am_M} {x1 : Int32} {x2 : Int32} {x3 : Int32} {x4 : Int32} {x5 : Int32} {x6 : Int32} {x7 : Nat} {x8 : Int32} {x9 : Int32} {x10 : Int32} {x11 : Int32} {y0 : Int32} (h : p_BA_changeFormula_74  s x1 x2 x3 x4 x5 x6 x7 x8 x9 x10 x11 y0) : (f_BA_changeFormula_74  s x1 x2 x3 x4 x5 x6 x7 x8 x9 x10 x11 y0).2 a = s a := by
  unfold p_BA_changeFormula_74 at h
  unfold f_BA_changeFormula_74
  by_cases c : y0 = 0
  · rewrite [if_pos c]
    have h := h.1 c
    obtain ⟨hc, h⟩ := h
    have m1 := wl_CO_setFormula ha hc
    obtain ⟨⟨b1, t1⟩, h⟩ := h
    obtain ⟨hc, h⟩ := h
    have m2 := wl_BA_putInOrder ha hc
    obtain ⟨hz, h⟩ := h
    exact ((m2).trans (m1))
  · rewrite [if_neg c]
    have h := h.2 c
    obtain ⟨hz, h⟩ := h
    exact rfl
theorem wl_BA_changeFormula {a : Nat} (ha : 207 ≤ a)  {s : am_M} {x1 : Int32} {x2 : Int32} {x3 : Int32} {x4 : Int32} {x5 : Int32} {x6 : Int32} (h : p_BA_changeFormula  s x1 x2 x3 x4 x5 x6) : (f_BA_changeFormula  s x1 x2 x3 x4 x5 x6).2 a = s a := by
  unfold p_BA_changeFormula at h
  unfold f_BA_changeFormula
  obtain ⟨hc, h⟩ := h
  obtain ⟨⟨b1, t1⟩, h⟩ := h
  obtain ⟨hc, h⟩ := h
  have m1 := wl_BA_keep ha hc
  obtain ⟨hc, h⟩ := h
  have m2 := wl_CO_setFormula ha hc
  obtain ⟨hc, h⟩ := h
  have m3 := wl_BA_putInOrder ha hc
  by_cases c : (f_BA_putInOrder (f_CO_setFormula (f_BA_keep s) (f_BA_column s x1 x2) x3 x4 x5 x6)).1 = 0
  · rewrite [if_pos c]
    have h := h.1 c
    obtain ⟨hc, h⟩ := h
    have m4 := wl_BA_refuse ha hc
    exact ((wl_BA_changeFormula_74 ha h).trans ((m4).trans ((m3).trans ((m2).trans (m1)))))
  · rewrite [if_neg c]
    have h := h.2 c
    obtain ⟨hc, h⟩ := h
    have m5 := wl_BA_settle ha hc
    exact ((wl_BA_changeFormula_74 ha h).trans ((m5).trans ((m3).trans ((m2).trans (m1)))))
theorem wl_BA_spreadGoing_40 {a : Nat} (ha : 207 ≤ a) {K4 : am_M → Int32 → Int32 → Int32 × am_M} {KP4 : am_M → Int32 → Int32 → Prop} (hK4 : ∀ (s : am_M) (x1 : Int32) (x2 : Int32), KP4 s x1 x2 → (K4 s x1 x2).2 a = s a) {s : am_M} {x1 : Int32} {x2 : Int32} (h : p_BA_spreadGoing_40 KP4 s x1 x2) : (f_BA_spreadGoing_40 K4 s x1 x2).2 a = s a := by
  unfold p_BA_spreadGoing_40 at h
  unfold f_BA_spreadGoing_40
  exact (hK4 _ _ _ h)
theorem wl_BA_spreadGoing_4 {a : Nat} (ha : 207 ≤ a)  : ∀ (n : Nat) (s : am_M) (x1 : Int32) (x2 : Int32), p_BA_spreadGoing_4  n s x1 x2 → (f_BA_spreadGoing_4  n s x1 x2).2 a = s a := by
  intro n
  induction n with
  | zero => intro s x1 x2 h; exact h.elim
  | succ n hK4 =>
    intro s x1 x2 h
    unfold p_BA_spreadGoing_4 at h
    unfold f_BA_spreadGoing_4
    by_cases c : (120 : Int32) ≤ x2
    · rewrite [if_pos c]
      have h := h.1 c
      obtain ⟨hz, h⟩ := h
      exact rfl
    · rewrite [if_neg c]
      have h := h.2 c
      obtain ⟨hv, h⟩ := h
      by_cases c : (s 18 (x2).toNatClampNeg) = 0
      · rewrite [if_pos c]
        have h := h.1 c
        obtain ⟨hc, h⟩ := h
        by_cases c : (f_BA_firstToGoing s x2 (1 : Int32)) < 0
        · rewrite [if_pos c]
          have h := h.1 c
          exact (wl_BA_spreadGoing_40 ha hK4 h)
        · rewrite [if_neg c]
          have h := h.2 c
          obtain ⟨hv, h⟩ := h
          exact ((wl_BA_spreadGoing_40 ha hK4 h).trans (am_set_o (by omega)))
      · rewrite [if_neg c]
        have h := h.2 c
        exact (wl_BA_spreadGoing_40 ha hK4 h)
theorem wl_BA_spreadGoing {a : Nat} (ha : 207 ≤ a)  {s : am_M}  (h : p_BA_spreadGoing  s ) : (f_BA_spreadGoing  s ).2 a = s a := by
  unfold p_BA_spreadGoing at h
  unfold f_BA_spreadGoing
  exact (wl_BA_spreadGoing_4 ha am_F _ _ _ h)
theorem wl_BA_isForbidden_35 {a : Nat} (ha : 207 ≤ a)  {s : am_M} {x1 : Int32} {x2 : Int32} (h : p_BA_isForbidden_35  s x1 x2) : (f_BA_isForbidden_35  s x1 x2).2 a = s a := by
  unfold p_BA_isForbidden_35 at h
  unfold f_BA_isForbidden_35
  obtain ⟨hc, h⟩ := h
  have m1 := wl_RE_set ha hc
  exact (m1)
theorem wl_BA_isForbidden_30 {a : Nat} (ha : 207 ≤ a) {K2 : am_M → Int32 → Int32 × am_M} {KP2 : am_M → Int32 → Prop} (hK2 : ∀ (s : am_M) (x1 : Int32), KP2 s x1 → (K2 s x1).2 a = s a) {s : am_M} {x1 : Int32} {y0 : Int32} (h : p_BA_isForbidden_30 KP2 s x1 y0) : (f_BA_isForbidden_30 K2 s x1 y0).2 a = s a := by
  unfold p_BA_isForbidden_30 at h
  unfold f_BA_isForbidden_30
  by_cases c : y0 < 0
  · rewrite [if_pos c]
    have h := h.1 c
    exact (hK2 _ _ h)
  · rewrite [if_neg c]
    have h := h.2 c
    exact (wl_BA_isForbidden_35 ha h)
theorem wl_BA_isForbidden_2 {a : Nat} (ha : 207 ≤ a)  : ∀ (n : Nat) (s : am_M) (x1 : Int32), p_BA_isForbidden_2  n s x1 → (f_BA_isForbidden_2  n s x1).2 a = s a := by
  intro n
  induction n with
  | zero => intro s x1 h; exact h.elim
  | succ n hK2 =>
    intro s x1 h
    unfold p_BA_isForbidden_2 at h
    unfold f_BA_isForbidden_2
    by_cases c : (120 : Int32) ≤ x1
    · rewrite [if_pos c]
      have h := h.1 c
      exact rfl
    · rewrite [if_neg c]
      have h := h.2 c
      obtain ⟨hv, h⟩ := h
      by_cases c : (s 18 (x1).toNatClampNeg) = 0
      · rewrite [if_pos c]
        have h := h.1 c
        obtain ⟨hc, h⟩ := h
        exact (wl_BA_isForbidden_30 ha hK2 h)
      · rewrite [if_neg c]
        have h := h.2 c
        exact (wl_BA_isForbidden_30 ha hK2 h)
theorem wl_BA_isForbidden {a : Nat} (ha : 207 ≤ a)  {s : am_M}  (h : p_BA_isForbidden  s ) : (f_BA_isForbidden  s ).2 a = s a := by
  unfold p_BA_isForbidden at h
  unfold f_BA_isForbidden
  exact (wl_BA_isForbidden_2 ha am_F _ _ h)
theorem wl_BA_blankToGoing_66 {a : Nat} (ha : 207 ≤ a) {K2 : am_M → Int32 → am_M} {KP2 : am_M → Int32 → Prop} (hK2 : ∀ (s : am_M) (x1 : Int32), KP2 s x1 → (K2 s x1) a = s a) {s : am_M} {x1 : Int32} {x2 : Int32} (h : p_BA_blankToGoing_66 KP2 s x1 x2) : (f_BA_blankToGoing_66 K2 s x1 x2) a = s a := by
  unfold p_BA_blankToGoing_66 at h
  unfold f_BA_blankToGoing_66
  exact (hK2 _ _ h)
theorem wl_BA_blankToGoing_39 {a : Nat} (ha : 207 ≤ a) {K2 : am_M → Int32 → am_M} {KP2 : am_M → Int32 → Prop} (hK2 : ∀ (s : am_M) (x1 : Int32), KP2 s x1 → (K2 s x1) a = s a) {s : am_M} {x1 : Int32} {x2 : Int32} {x3 : Int32} (h : p_BA_blankToGoing_39 KP2 s x1 x2 x3) : (f_BA_blankToGoing_39 K2 s x1 x2 x3) a = s a := by
  unfold p_BA_blankToGoing_39 at h
  unfold f_BA_blankToGoing_39
  exact (wl_BA_blankToGoing_66 ha hK2 h)
theorem wl_BA_blankToGoing_13 {a : Nat} (ha : 207 ≤ a) {K2 : am_M → Int32 → am_M} {KP2 : am_M → Int32 → Prop} (hK2 : ∀ (s : am_M) (x1 : Int32), KP2 s x1 → (K2 s x1) a = s a) : ∀ (n : Nat) (s : am_M) (x1 : Int32) (x2 : Int32), p_BA_blankToGoing_13 KP2 n s x1 x2 → (f_BA_blankToGoing_13 K2 n s x1 x2) a = s a := by
  intro n
  induction n with
  | zero => intro s x1 x2 h; exact h.elim
  | succ n hK13 =>
    intro s x1 x2 h
    unfold p_BA_blankToGoing_13 at h
    unfold f_BA_blankToGoing_13
    by_cases c : (6 : Int32) ≤ x2
    · rewrite [if_pos c]
      have h := h.1 c
      exact (wl_BA_blankToGoing_66 ha hK2 h)
    · rewrite [if_neg c]
      have h := h.2 c
      obtain ⟨hv, h⟩ := h
      by_cases c : (s 18 (x1).toNatClampNeg) = 0
      · rewrite [if_pos c]
        have h := h.1 c
        obtain ⟨hc, h⟩ := h
        by_cases c : 0 ≤ (f_BA_firstToGoing s x1 (2 : Int32))
        · rewrite [if_pos c]
          have h := h.1 c
          obtain ⟨hc, h⟩ := h
          have m1 := wl_RO_set ha hc
          exact ((hK13 _ _ _ h).trans (m1))
        · rewrite [if_neg c]
          have h := h.2 c
          exact (wl_BA_blankToGoing_39 ha hK2 h)
      · rewrite [if_neg c]
        have h := h.2 c
        exact (wl_BA_blankToGoing_66 ha hK2 h)
theorem wl_BA_blankToGoing_2 {a : Nat} (ha : 207 ≤ a)  : ∀ (n : Nat) (s : am_M) (x1 : Int32), p_BA_blankToGoing_2  n s x1 → (f_BA_blankToGoing_2  n s x1) a = s a := by
  intro n
  induction n with
  | zero => intro s x1 h; exact h.elim
  | succ n hK2 =>
    intro s x1 h
    unfold p_BA_blankToGoing_2 at h
    unfold f_BA_blankToGoing_2
    by_cases c : (120 : Int32) ≤ x1
    · rewrite [if_pos c]
      have h := h.1 c
      exact rfl
    · rewrite [if_neg c]
      have h := h.2 c
      exact (wl_BA_blankToGoing_13 ha hK2 am_F _ _ _ h)
theorem wl_BA_blankToGoing {a : Nat} (ha : 207 ≤ a)  {s : am_M}  (h : p_BA_blankToGoing  s ) : (f_BA_blankToGoing  s ) a = s a := by
  unfold p_BA_blankToGoing at h
  unfold f_BA_blankToGoing
  exact (wl_BA_blankToGoing_2 ha am_F _ _ h)
theorem wl_BA_takeOut_31 {a : Nat} (ha : 207 ≤ a) {K2 : am_M → Int32 → Int32 → Int32 → Int32 × am_M} {KP2 : am_M → Int32 → Int32 → Int32 → Prop} (hK2 : ∀ (s : am_M) (x1 : Int32) (x2 : Int32) (x3 : Int32), KP2 s x1 x2 x3 → (K2 s x1 x2 x3).2 a = s a) {s : am_M} {x1 : Int32} {x2 : Int32} {x3 : Int32} {y1 : Int32} {y2 : Int32} (h : p_BA_takeOut_31 KP2 s x1 x2 x3 y1 y2) : (f_BA_takeOut_31 K2 s x1 x2 x3 y1 y2).2 a = s a := by
  unfold p_BA_takeOut_31 at h
  unfold f_BA_takeOut_31
  obtain ⟨hv, h⟩ := h
  obtain ⟨hz, h⟩ := h
  exact ((hK2 _ _ _ _ h).trans (am_set_o (by omega)))
theorem wl_BA_takeOut_118 {a : Nat} (ha : 207 ≤ a) {K84 : am_M → Int32 → Int32 → Int32 → Int32 × am_M} {KP84 : am_M → Int32 → Int32 → Int32 → Prop} (hK84 : ∀ (s : am_M) (x1 : Int32) (x2 : Int32) (x3 : Int32), KP84 s x1 x2 x3 → (K84 s x1 x2 x3).2 a = s a) {s : am_M} {x1 : Int32} {x2 : Int32} {x3 : Int32} (h : p_BA_takeOut_118 KP84 s x1 x2 x3) : (f_BA_takeOut_118 K84 s x1 x2 x3).2 a = s a := by
  unfold p_BA_takeOut_118 at h
  unfold f_BA_takeOut_118
  exact (hK84 _ _ _ _ h)
theorem wl_BA_takeOut_84 {a : Nat} (ha : 207 ≤ a)  : ∀ (n : Nat) (s : am_M) (x1 : Int32) (x2 : Int32) (x3 : Int32), p_BA_takeOut_84  n s x1 x2 x3 → (f_BA_takeOut_84  n s x1 x2 x3).2 a = s a := by
  intro n
  induction n with
  | zero => intro s x1 x2 x3 h; exact h.elim
  | succ n hK84 =>
    intro s x1 x2 x3 h
    unfold p_BA_takeOut_84 at h
    unfold f_BA_takeOut_84
    by_cases c : (120 : Int32) ≤ x3
    · rewrite [if_pos c]
      have h := h.1 c
      obtain ⟨hc, h⟩ := h
      have m1 := wl_BA_settle ha hc
      obtain ⟨hz, h⟩ := h
      exact (m1)
    · rewrite [if_neg c]
      have h := h.2 c
      obtain ⟨hv, h⟩ := h
      by_cases c : (s 18 (x3).toNatClampNeg) = 0
      · rewrite [if_pos c]
        have h := h.1 c
        exact (wl_BA_takeOut_118 ha hK84 h)
      · rewrite [if_neg c]
        have h := h.2 c
        obtain ⟨hc, h⟩ := h
        have m2 := wl_RO_setSerial ha hc
        exact ((wl_BA_takeOut_118 ha hK84 h).trans (m2))
theorem wl_BA_takeOut_65 {a : Nat} (ha : 207 ≤ a)  {s : am_M} {x1 : Int32} {x2 : Int32} {x3 : Int32} (h : p_BA_takeOut_65  s x1 x2 x3) : (f_BA_takeOut_65  s x1 x2 x3).2 a = s a := by
  unfold p_BA_takeOut_65 at h
  unfold f_BA_takeOut_65
  obtain ⟨hc, h⟩ := h
  have m1 := wl_BA_isForbidden ha hc
  by_cases c : (f_BA_isForbidden s).1 = 0
  · rewrite [if_pos c]
    have h := h.1 c
    obtain ⟨hc, h⟩ := h
    have m2 := wl_BA_keep ha hc
    obtain ⟨hc, h⟩ := h
    have m3 := wl_BA_blankToGoing ha hc
    exact ((wl_BA_takeOut_84 ha am_F _ _ _ _ h).trans ((m3).trans ((m2).trans (m1))))
  · rewrite [if_neg c]
    have h := h.2 c
    exact (m1)
theorem wl_BA_takeOut_56 {a : Nat} (ha : 207 ≤ a)  {s : am_M} {x1 : Int32} {x2 : Int32} {x3 : Int32} (h : p_BA_takeOut_56  s x1 x2 x3) : (f_BA_takeOut_56  s x1 x2 x3).2 a = s a := by
  unfold p_BA_takeOut_56 at h
  unfold f_BA_takeOut_56
  exact (wl_BA_takeOut_65 ha h)
theorem wl_BA_takeOut_40 {a : Nat} (ha : 207 ≤ a)  : ∀ (n : Nat) (s : am_M) (x1 : Int32) (x2 : Int32) (x3 : Int32), p_BA_takeOut_40  n s x1 x2 x3 → (f_BA_takeOut_40  n s x1 x2 x3).2 a = s a := by
  intro n
  induction n with
  | zero => intro s x1 x2 x3 h; exact h.elim
  | succ n hK40 =>
    intro s x1 x2 x3 h
    unfold p_BA_takeOut_40 at h
    unfold f_BA_takeOut_40
    by_cases c : (120 : Int32) ≤ x3
    · rewrite [if_pos c]
      have h := h.1 c
      exact (wl_BA_takeOut_65 ha h)
    · rewrite [if_neg c]
      have h := h.2 c
      obtain ⟨hc, h⟩ := h
      have m1 := wl_BA_spreadGoing ha hc
      by_cases c : (f_BA_spreadGoing s).1 = 0
      · rewrite [if_pos c]
        have h := h.1 c
        exact ((wl_BA_takeOut_56 ha h).trans (m1))
      · rewrite [if_neg c]
        have h := h.2 c
        exact ((hK40 _ _ _ _ h).trans (m1))
theorem wl_BA_takeOut_38 {a : Nat} (ha : 207 ≤ a)  {s : am_M} {x1 : Int32} {x2 : Int32} {x3 : Int32} (h : p_BA_takeOut_38  s x1 x2 x3) : (f_BA_takeOut_38  s x1 x2 x3).2 a = s a := by
  unfold p_BA_takeOut_38 at h
  unfold f_BA_takeOut_38
  exact (wl_BA_takeOut_40 ha am_F _ _ _ _ h)
theorem wl_BA_takeOut_2 {a : Nat} (ha : 207 ≤ a)  : ∀ (n : Nat) (s : am_M) (x1 : Int32) (x2 : Int32) (x3 : Int32), p_BA_takeOut_2  n s x1 x2 x3 → (f_BA_takeOut_2  n s x1 x2 x3).2 a = s a := by
  intro n
  induction n with
  | zero => intro s x1 x2 x3 h; exact h.elim
  | succ n hK2 =>
    intro s x1 x2 x3 h
    unfold p_BA_takeOut_2 at h
    unfold f_BA_takeOut_2
    by_cases c : (120 : Int32) ≤ x3
    · rewrite [if_pos c]
      have h := h.1 c
      exact (wl_BA_takeOut_38 ha h)
    · rewrite [if_neg c]
      have h := h.2 c
      by_cases c : x3 = ((x1 * (30 : Int32)) + x2)
      · rewrite [if_pos c]
        have h := h.1 c
        exact (wl_BA_takeOut_31 ha hK2 h)
      · rewrite [if_neg c]
        have h := h.2 c
        exact (wl_BA_takeOut_31 ha hK2 h)
theorem wl_BA_takeOut {a : Nat} (ha : 207 ≤ a)  {s : am_M} {x1 : Int32} {x2 : Int32} (h : p_BA_takeOut  s x1 x2) : (f_BA_takeOut  s x1 x2).2 a = s a := by
  unfold p_BA_takeOut at h
  unfold f_BA_takeOut
  exact (wl_BA_takeOut_2 ha am_F _ _ _ _ h)
theorem wl_BA_changeSingle {a : Nat} (ha : 207 ≤ a)  {s : am_M} {x1 : Int32} {x2 : Int32} {x3 : Int32} (h : p_BA_changeSingle  s x1 x2 x3) : (f_BA_changeSingle  s x1 x2 x3).2 a = s a := by
  unfold p_BA_changeSingle at h
  unfold f_BA_changeSingle
  obtain ⟨hc, h⟩ := h
  obtain ⟨⟨b1, t1⟩, h⟩ := h
  obtain ⟨hc, h⟩ := h
  have m1 := wl_BA_keep ha hc
  obtain ⟨hz, h⟩ := h
  obtain ⟨hc, h⟩ := h
  have m2 := wl_BA_settle ha hc
  by_cases c : (f_BA_settle (am_set (f_BA_keep s) (f_BA_column s x1 x2) 6 x3)).1 = 0
  · rewrite [if_pos c]
    have h := h.1 c
    obtain ⟨hz, h⟩ := h
    obtain ⟨hz, h⟩ := h
    exact ((am_set_o (by omega)).trans ((m2).trans ((am_set_o (by omega)).trans (m1))))
  · rewrite [if_neg c]
    have h := h.2 c
    obtain ⟨hz, h⟩ := h
    exact ((m2).trans ((am_set_o (by omega)).trans (m1)))

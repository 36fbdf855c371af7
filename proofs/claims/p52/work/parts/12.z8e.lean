noncomputable section
-- questions: the conditions, the model
theorem qm_meet {s : am_M} {x : Nat} (hx : x < 48) {r : Nat} (hr : r < 4) {num : Int32} (h6 : s 246 x = nI r) (h7 : s 247 x = num) (hn : -999999 ≤ num.toInt) (v : Int32) : p_MO_doesMeet s (nI x) v ∧ ((f_MO_doesMeet s (nI x) v = 1 ∧ q_mt (nI r) v num) ∨ (f_MO_doesMeet s (nI x) v = 0 ∧ ¬ q_mt (nI r) v num)) := by
  have cx := nI_clamp (n := x) (by omega)
  have vx : vp_in (nI x) 48 := vp_in_nI (by omega) (by omega)
  have eB : (-1000000 : Int32).toInt = -1000000 := by decide
  have p23 : p_MO_doesMeet_23 s (nI x) v num := by
    unfold p_MO_doesMeet_23
    exact ⟨vx, fun _ => ⟨fun _ => trivial, fun _ => trivial⟩, fun _ => trivial⟩
  unfold p_MO_doesMeet f_MO_doesMeet
  rw [cx, h6, h7]
  refine ⟨⟨vx, vx, fun _ => p23, fun _ => ⟨fun _ => p23, fun _ => ⟨vx, fun _ => ⟨fun _ => trivial, fun _ => trivial⟩, fun _ => ⟨vx, fun _ => ⟨fun _ => trivial, fun _ => trivial⟩, fun _ => ⟨fun _ => trivial, fun _ => trivial⟩⟩⟩⟩⟩, ?_⟩
  unfold f_MO_doesMeet_23
  rw [cx, h6]
  have hr4 : r = 0 ∨ r = 1 ∨ r = 2 ∨ r = 3 := by omega
  rcases hr4 with rfl | rfl | rfl | rfl
  · have n3 : ¬ nI 0 = (3 : Int32) := by decide
    have y0 : nI 0 = (0 : Int32) := rfl
    unfold q_mt
    rw [if_neg n3, if_neg n3, if_pos y0, if_pos y0]
    by_cases hb : v = -1000000
    · rw [if_pos hb]
      exact Or.inr ⟨rfl, fun q => by rw [← q, hb, eB] at hn; omega⟩
    · rw [if_neg hb]
      by_cases h : v = num
      · rw [if_pos h]; exact Or.inl ⟨rfl, h⟩
      · rw [if_neg h]; exact Or.inr ⟨rfl, h⟩
  · have n3 : ¬ nI 1 = (3 : Int32) := by decide
    have n0 : ¬ nI 1 = (0 : Int32) := by decide
    have y1 : nI 1 = (1 : Int32) := rfl
    unfold q_mt
    rw [if_neg n3, if_neg n3, if_neg n0, if_neg n0, if_pos y1, if_pos y1]
    by_cases hb : v = -1000000
    · rw [if_pos hb]
      exact Or.inr ⟨rfl, fun q => q (by rw [hb, Int32.lt_iff_toInt_lt, eB]; omega)⟩
    · rw [if_neg hb]
      by_cases h : v < num
      · rw [if_pos h]; exact Or.inr ⟨rfl, fun q => q h⟩
      · rw [if_neg h]; exact Or.inl ⟨rfl, h⟩
  · have n3 : ¬ nI 2 = (3 : Int32) := by decide
    have n0 : ¬ nI 2 = (0 : Int32) := by decide
    have n1 : ¬ nI 2 = (1 : Int32) := by decide
    have y2 : nI 2 = (2 : Int32) := rfl
    unfold q_mt
    rw [if_neg n3, if_neg n3, if_neg n0, if_neg n0, if_neg n1, if_neg n1, if_pos y2]
    by_cases hb : v = -1000000
    · rw [if_pos hb]
      exact Or.inr ⟨rfl, fun q => q.1 hb⟩
    · rw [if_neg hb]
      by_cases h : num < v
      · rw [if_pos h]; exact Or.inr ⟨rfl, fun q => q.2 h⟩
      · rw [if_neg h]; exact Or.inl ⟨rfl, hb, h⟩
  · have y3 : nI 3 = (3 : Int32) := rfl
    have n0 : ¬ nI 3 = (0 : Int32) := by decide
    have n1 : ¬ nI 3 = (1 : Int32) := by decide
    have n2 : ¬ nI 3 = (2 : Int32) := by decide
    unfold q_mt
    rw [if_pos y3, if_pos y3, if_neg n0, if_neg n1, if_neg n2]
    by_cases hb : v = -1000000
    · rw [if_pos hb]; exact Or.inl ⟨rfl, hb⟩
    · rw [if_neg hb]; exact Or.inr ⟨rfl, hb⟩
theorem qm_36 {s Q : am_M} (qm : q_qm s Q) {j m w base line : Nat} (hj : j < q_nq Q) (h8 : q_nq Q ≤ 8) (hw : w ≤ 54) (m1 : Q (67 + 7 * j) 12 = nI m) (m2 : m ≤ 6) (m3 : ∀ i, i < m → ∃ l c r, l < 3 ∧ c < w ∧ r < 4 ∧ Q (70 + 7 * j) i = nI l ∧ Q (71 + 7 * j) i = nI c ∧ Q (72 + 7 * j) i = nI r ∧ -999999 ≤ (Q (73 + 7 * j) i).toInt ∧ (Q (73 + 7 * j) i).toInt ≤ 999999) {v : Nat → Int32} (hb : base + 54 ≤ 19440) (hv : ∀ c, c < w → s 250 (base + c) = v c) (K : Int32 → Int32 → Int32 → Int32 → Int32) (KP : Int32 → Int32 → Int32 → Int32 → Prop) (x3 : Int32) : ∀ (d i n : Nat) (x5 x6 : Int32), i + d = m → d < n → (x5 = 0 ∨ x5 = 1) → (x6 = 0 ∨ x6 = 1) → ∃ y5 y6 y7, f_MO_doesCount_36 K n s (nI j) (nI base) x3 (nI line) x5 x6 (nI (6 * j + i)) = f_MO_doesCount_129 K s (nI j) (nI base) x3 (nI line) y5 y6 y7 ∧ (p_MO_doesCount_129 KP s (nI j) (nI base) x3 (nI line) y5 y6 y7 → p_MO_doesCount_36 KP n s (nI j) (nI base) x3 (nI line) x5 x6 (nI (6 * j + i))) ∧ (y5 ≠ 0 ↔ (x5 ≠ 0 ∨ ∃ a, i ≤ a ∧ a < m ∧ q_ln Q j line a)) ∧ (y6 ≠ 0 ↔ (x6 ≠ 0 ∧ ∀ a, i ≤ a → a < m → q_ln Q j line a → q_me Q j v a)) := by
  obtain ⟨-, -, -, -, -, -, e7, e8, -, -⟩ := qm.2 j hj
  have em : q_c (Q (67 + 7 * j) 12) = m := by rw [m1]; exact q_cI (by omega)
  rw [em] at e8
  have s243 : s 243 j = nI m := e7.trans m1
  have vj : vp_in (nI j) 8 := vp_in_nI (by omega) (by omega)
  have cj := nI_clamp (n := j) (by omega)
  have elim : (6 : Int32) * nI j + nI m = nI (6 * j + m) := by rw [qw_6, nI_add]
  intro d
  induction d with
  | zero =>
    intro i n x5 x6 hi hn h5 h6
    obtain ⟨n, rfl⟩ : ∃ k, n = k + 1 := ⟨n - 1, by omega⟩
    obtain rfl : i = m := by omega
    have l : nI (6 * j + i) ≤ nI (6 * j + i) := qn_le (Nat.le_refl _) (by omega)
    unfold f_MO_doesCount_36 p_MO_doesCount_36
    rw [cj, s243, elim, if_pos l]
    refine ⟨x5, x6, nI (6 * j + i), rfl, fun q => ⟨vj, fun _ => q, fun q2 => absurd l q2⟩, ⟨fun q => Or.inl q, fun q => ?_⟩, ⟨fun q => ⟨q, fun a a1 a2 => by omega⟩, fun q => q.1⟩⟩
    rcases q with q | ⟨a, a1, a2, -⟩
    · exact q
    · omega
  | succ d ih =>
    intro i n x5 x6 hi hn h5 h6
    obtain ⟨n, rfl⟩ : ∃ k, n = k + 1 := ⟨n - 1, by omega⟩
    have l : ¬ nI (6 * j + m) ≤ nI (6 * j + i) := nI_ge (by omega) (by omega)
    have e1 : nI (6 * j + i) + (1 : Int32) = nI (6 * j + (i + 1)) := nI_add _ 1
    obtain ⟨ll, c, r, b1, b2, b3, b4, b5, b6, b7, b8⟩ := m3 i (by omega)
    obtain ⟨f4, f5, f6, f7⟩ := e8 i (by omega)
    have c48 := nI_clamp (n := 6 * j + i) (by omega)
    have v48 : vp_in (nI (6 * j + i)) 48 := vp_in_nI (by omega) (by omega)
    have ecol : nI base + nI c = nI (base + c) := nI_add _ _
    have cb := nI_clamp (n := base + c) (by omega)
    have vb : vp_in (nI (base + c)) 19440 := vp_in_nI (by omega) (by omega)
    obtain ⟨M1, M2⟩ := qm_meet (s := s) (x := 6 * j + i) (by omega) b3 (f6.trans b6) f7 b7 (v c)
    have hme : q_me Q j v i ↔ q_mt (nI r) (v c) (Q (73 + 7 * j) i) := by
      show q_mt (Q (72 + 7 * j) i) (v (q_c (Q (71 + 7 * j) i))) (Q (73 + 7 * j) i) ↔ _
      rw [b5, b6, q_cI (n := c) (by omega)]
    have h244 : s 244 (6 * j + i) = Q (70 + 7 * j) i := f4
    have hln : s 244 (6 * j + i) = nI line ↔ q_ln Q j line i := by rw [h244]
    -- the two flags behind this condition
    have step : ∀ y5 y6 : Int32, (y5 = 0 ∨ y5 = 1) → (y6 = 0 ∨ y6 = 1) → (y5 ≠ 0 ↔ (x5 ≠ 0 ∨ q_ln Q j line i)) → (y6 ≠ 0 ↔ (x6 ≠ 0 ∧ (q_ln Q j line i → q_me Q j v i))) → ∃ z5 z6 z7, f_MO_doesCount_36 K n s (nI j) (nI base) x3 (nI line) y5 y6 (nI (6 * j + (i + 1))) = f_MO_doesCount_129 K s (nI j) (nI base) x3 (nI line) z5 z6 z7 ∧ (p_MO_doesCount_129 KP s (nI j) (nI base) x3 (nI line) z5 z6 z7 → p_MO_doesCount_36 KP n s (nI j) (nI base) x3 (nI line) y5 y6 (nI (6 * j + (i + 1)))) ∧ (z5 ≠ 0 ↔ (x5 ≠ 0 ∨ ∃ a, i ≤ a ∧ a < m ∧ q_ln Q j line a)) ∧ (z6 ≠ 0 ↔ (x6 ≠ 0 ∧ ∀ a, i ≤ a → a < m → q_ln Q j line a → q_me Q j v a)) := fun y5 y6 g5 g6 k5 k6 => by
      obtain ⟨z5, z6, z7, i1, i2, i3, i4⟩ := ih (i + 1) n y5 y6 (by omega) (by omega) g5 g6
      refine ⟨z5, z6, z7, i1, i2, i3.trans ⟨fun q => ?_, fun q => ?_⟩, i4.trans ⟨fun q => ?_, fun q => ?_⟩⟩
      · rcases q with q | ⟨a, a1, a2, a3⟩
        · rcases k5.mp q with q | q
          · exact Or.inl q
          · exact Or.inr ⟨i, Nat.le_refl _, by omega, q⟩
        · exact Or.inr ⟨a, by omega, a2, a3⟩
      · rcases q with q | ⟨a, a1, a2, a3⟩
        · exact Or.inl (k5.mpr (Or.inl q))
        · by_cases ha : a = i
          · rw [ha] at a3; exact Or.inl (k5.mpr (Or.inr a3))
          · exact Or.inr ⟨a, by omega, a2, a3⟩
      · obtain ⟨q1, q2⟩ := q
        obtain ⟨q3, q4⟩ := k6.mp q1
        refine ⟨q3, fun a a1 a2 a3 => ?_⟩
        by_cases ha : a = i
        · rw [ha] at a3 ⊢; exact q4 a3
        · exact q2 a (by omega) a2 a3
      · obtain ⟨q1, q2⟩ := q
        exact ⟨k6.mpr ⟨q1, fun q3 => q2 i (Nat.le_refl _) (by omega) q3⟩, fun a a1 a2 a3 => q2 a (by omega) a2 a3⟩
    -- the second flag, whatever the first is
    have second : ∀ y5 : Int32, (y5 = 0 ∨ y5 = 1) → (y5 ≠ 0 ↔ (x5 ≠ 0 ∨ q_ln Q j line i)) → ∃ z5 z6 z7, f_MO_doesCount_74 K (f_MO_doesCount_36 K n s) s (nI j) (nI base) x3 (nI line) x5 x6 (nI (6 * j + i)) y5 = f_MO_doesCount_129 K s (nI j) (nI base) x3 (nI line) z5 z6 z7 ∧ (p_MO_doesCount_129 KP s (nI j) (nI base) x3 (nI line) z5 z6 z7 → p_MO_doesCount_74 KP (p_MO_doesCount_36 KP n s) s (nI j) (nI base) x3 (nI line) x5 x6 (nI (6 * j + i)) y5) ∧ (z5 ≠ 0 ↔ (x5 ≠ 0 ∨ ∃ a, i ≤ a ∧ a < m ∧ q_ln Q j line a)) ∧ (z6 ≠ 0 ↔ (x6 ≠ 0 ∧ ∀ a, i ≤ a → a < m → q_ln Q j line a → q_me Q j v a)) := fun y5 g5 k5 => by
      unfold f_MO_doesCount_74 p_MO_doesCount_74 f_MO_doesCount_116 p_MO_doesCount_116 f_MO_doesCount_120 p_MO_doesCount_120 f_MO_doesCount_121 p_MO_doesCount_121
      rw [c48, f5, b5, ecol, cb, hv c b2, e1]
      by_cases h0 : x6 = 0
      · obtain ⟨z5, z6, z7, i1, i2, i3⟩ := step y5 0 g5 (Or.inl rfl) k5 ⟨fun q => absurd rfl q, fun q => absurd h0 q.1⟩
        rw [if_pos h0]
        exact ⟨z5, z6, z7, i1, fun q => ⟨fun _ => i2 q, fun q2 => absurd h0 q2⟩, i3⟩
      rw [if_neg h0]
      by_cases hl : s 244 (6 * j + i) = nI line
      · rw [if_pos hl]
        rcases M2 with ⟨g1, g2⟩ | ⟨g1, g2⟩
        · have n0 : ¬ f_MO_doesMeet s (nI (6 * j + i)) (v c) = 0 := by rw [g1]; exact i10
          obtain ⟨z5, z6, z7, i1, i2, i3⟩ := step y5 1 g5 (Or.inr rfl) k5 ⟨fun _ => ⟨h0, fun _ => hme.mpr g2⟩, fun _ => i10⟩
          rw [if_neg n0]
          exact ⟨z5, z6, z7, i1, fun q => ⟨fun q2 => absurd q2 h0, fun _ => ⟨v48, fun _ => ⟨v48, vb, M1, fun q2 => absurd q2 n0, fun _ => i2 q⟩, fun q2 => absurd hl q2⟩⟩, i3⟩
        · obtain ⟨z5, z6, z7, i1, i2, i3⟩ := step y5 0 g5 (Or.inl rfl) k5 ⟨fun q => absurd rfl q, fun q => absurd (hme.mp (q.2 (hln.mp hl))) g2⟩
          rw [if_pos g1]
          exact ⟨z5, z6, z7, i1, fun q => ⟨fun q2 => absurd q2 h0, fun _ => ⟨v48, fun _ => ⟨v48, vb, M1, fun _ => i2 q, fun q2 => absurd g1 q2⟩, fun q2 => absurd hl q2⟩⟩, i3⟩
      · obtain ⟨z5, z6, z7, i1, i2, i3⟩ := step y5 1 g5 (Or.inr rfl) k5 ⟨fun _ => ⟨h0, fun q => absurd (hln.mpr q) hl⟩, fun _ => i10⟩
        rw [if_neg hl]
        exact ⟨z5, z6, z7, i1, fun q => ⟨fun q2 => absurd q2 h0, fun _ => ⟨v48, fun q2 => absurd q2 hl, fun _ => i2 q⟩⟩, i3⟩
    unfold f_MO_doesCount_36 p_MO_doesCount_36 f_MO_doesCount_69 p_MO_doesCount_69
    rw [cj, s243, elim, if_neg l, c48]
    by_cases h0 : x5 = 0
    · rw [if_pos h0]
      by_cases hl : s 244 (6 * j + i) = nI line
      · obtain ⟨z5, z6, z7, i1, i2, i3⟩ := second 1 (Or.inr rfl) ⟨fun _ => Or.inr (hln.mp hl), fun _ => i10⟩
        rw [if_pos hl]
        exact ⟨z5, z6, z7, i1, fun q => ⟨vj, fun q2 => absurd q2 l, fun _ => ⟨fun _ => ⟨v48, fun _ => i2 q, fun q2 => absurd hl q2⟩, fun q2 => absurd h0 q2⟩⟩, i3⟩
      · obtain ⟨z5, z6, z7, i1, i2, i3⟩ := second 0 (Or.inl rfl) ⟨fun q => absurd rfl q, fun q => q.elim (fun q => absurd h0 q) (fun q => absurd (hln.mpr q) hl)⟩
        rw [if_neg hl]
        exact ⟨z5, z6, z7, i1, fun q => ⟨vj, fun q2 => absurd q2 l, fun _ => ⟨fun _ => ⟨v48, fun q2 => absurd q2 hl, fun _ => i2 q⟩, fun q2 => absurd h0 q2⟩⟩, i3⟩
    · obtain ⟨z5, z6, z7, i1, i2, i3⟩ := second 1 (Or.inr rfl) ⟨fun _ => Or.inl h0, fun _ => i10⟩
      rw [if_neg h0]
      exact ⟨z5, z6, z7, i1, fun q => ⟨vj, fun q2 => absurd q2 l, fun _ => ⟨fun q2 => absurd q2 h0, fun _ => i2 q⟩⟩, i3⟩
theorem qm_18 {s Q : am_M} (qm : q_qm s Q) {j w base : Nat} (hj : j < q_nq Q) (h8 : q_nq Q ≤ 8) (hw : w ≤ 54) (cw : q_cw Q j w) {v : Nat → Int32} (hb : base + 54 ≤ 19440) (hv : ∀ c, c < w → s 250 (base + c) = v c) : ∀ (d l n : Nat) (x3 : Int32), l + d = 3 → d < n → (x3 = 0 ∨ x3 = 1) → p_MO_doesCount_18 n s (nI j) (nI base) x3 (nI l) ∧ ((f_MO_doesCount_18 n s (nI j) (nI base) x3 (nI l) = 1 ∧ (x3 ≠ 0 ∨ ∃ line, l ≤ line ∧ line < 3 ∧ q_lh Q j line v)) ∨ (f_MO_doesCount_18 n s (nI j) (nI base) x3 (nI l) = 0 ∧ ¬ (x3 ≠ 0 ∨ ∃ line, l ≤ line ∧ line < 3 ∧ q_lh Q j line v))) := by
  obtain ⟨m, m1, m2, m3⟩ := cw
  have em : q_c (Q (67 + 7 * j) 12) = m := by rw [m1]; exact q_cI (by omega)
  intro d
  induction d with
  | zero =>
    intro l n x3 hl hn h3
    obtain ⟨n, rfl⟩ : ∃ k, n = k + 1 := ⟨n - 1, by omega⟩
    obtain rfl : l = 3 := by omega
    have g : (3 : Int32) ≤ nI 3 := qg_3 (by omega) (by omega)
    unfold p_MO_doesCount_18 f_MO_doesCount_18
    rw [if_pos g]
    refine ⟨⟨fun _ => ⟨h3, trivial⟩, fun q => absurd g q⟩, ?_⟩
    rcases h3 with rfl | rfl
    · exact Or.inr ⟨rfl, fun q => q.elim (fun q => q rfl) (fun ⟨a, a1, a2, _⟩ => by omega)⟩
    · exact Or.inl ⟨rfl, Or.inl i10⟩
  | succ d ih =>
    intro l n x3 hl hn h3
    obtain ⟨n, rfl⟩ : ∃ k, n = k + 1 := ⟨n - 1, by omega⟩
    have g : ¬ (3 : Int32) ≤ nI l := ql_3 (by omega)
    have e1 : nI l + (1 : Int32) = nI (l + 1) := nI_add l 1
    have e6 : (6 : Int32) * nI j = nI (6 * j + 0) := by rw [qw_6]; rfl
    obtain ⟨y5, y6, y7, i1, i2, i3, i4⟩ := qm_36 qm (line := l) hj h8 hw m1 m2 m3 hb hv (f_MO_doesCount_18 n s) (p_MO_doesCount_18 n s) x3 m 0 am_F 0 1 (Nat.zero_add _) (by rw [am_F_eq]; omega) (Or.inl rfl) (Or.inr rfl)
    have hlh : q_lh Q j l v ↔ (y5 ≠ 0 ∧ y6 ≠ 0) := by
      rw [i3, i4]
      unfold q_lh
      rw [em]
      constructor
      · rintro ⟨⟨a, a1, a2⟩, h⟩
        exact ⟨Or.inr ⟨a, Nat.zero_le _, a1, a2⟩, i10, fun a _ a2 a3 => h a a2 a3⟩
      · rintro ⟨h, -, h2⟩
        refine ⟨?_, fun a a1 a2 => h2 a (Nat.zero_le _) a1 a2⟩
        rcases h with h | ⟨a, -, a1, a2⟩
        · exact absurd rfl h
        · exact ⟨a, a1, a2⟩
    have fin : ∀ y : Int32, (y = 0 ∨ y = 1) → (y ≠ 0 ↔ (x3 ≠ 0 ∨ q_lh Q j l v)) → p_MO_doesCount_18 n s (nI j) (nI base) y (nI (l + 1)) ∧ ((f_MO_doesCount_18 n s (nI j) (nI base) y (nI (l + 1)) = 1 ∧ (x3 ≠ 0 ∨ ∃ line, l ≤ line ∧ line < 3 ∧ q_lh Q j line v)) ∨ (f_MO_doesCount_18 n s (nI j) (nI base) y (nI (l + 1)) = 0 ∧ ¬ (x3 ≠ 0 ∨ ∃ line, l ≤ line ∧ line < 3 ∧ q_lh Q j line v))) := fun y hy ky => by
      obtain ⟨a1, a2⟩ := ih (l + 1) n y (by omega) (by omega) hy
      have e : (y ≠ 0 ∨ ∃ line, l + 1 ≤ line ∧ line < 3 ∧ q_lh Q j line v) ↔ (x3 ≠ 0 ∨ ∃ line, l ≤ line ∧ line < 3 ∧ q_lh Q j line v) := by
        rw [ky]
        constructor
        · rintro ((q | q) | ⟨a, b1, b2, b3⟩)
          · exact Or.inl q
          · exact Or.inr ⟨l, Nat.le_refl _, by omega, q⟩
          · exact Or.inr ⟨a, by omega, b2, b3⟩
        · rintro (q | ⟨a, b1, b2, b3⟩)
          · exact Or.inl (Or.inl q)
          · by_cases ha : a = l
            · rw [ha] at b3; exact Or.inl (Or.inr b3)
            · exact Or.inr ⟨a, by omega, b2, b3⟩
      rw [e] at a2
      exact ⟨a1, a2⟩
    unfold p_MO_doesCount_18 f_MO_doesCount_18
    rw [if_neg g, e6, i1]
    unfold f_MO_doesCount_129 f_MO_doesCount_143 f_MO_doesCount_147 f_MO_doesCount_148
    unfold p_MO_doesCount_129 p_MO_doesCount_143 p_MO_doesCount_147 p_MO_doesCount_148 at i2
    rw [e1] at i2 ⊢
    by_cases h0 : x3 = 0
    · rw [if_pos h0]
      by_cases h5 : y5 = 0
      · rw [if_pos h5]
        obtain ⟨a1, a2⟩ := fin 0 (Or.inl rfl) ⟨fun q => absurd rfl q, fun q => q.elim (fun q => absurd h0 q) (fun q => absurd h5 (hlh.mp q).1)⟩
        exact ⟨⟨fun q => absurd q g, fun _ => i2 ⟨fun _ => ⟨fun _ => a1, fun q => absurd h5 q⟩, fun q => absurd h0 q⟩⟩, a2⟩
      · rw [if_neg h5]
        by_cases h6 : y6 = 0
        · rw [if_pos h6]
          obtain ⟨a1, a2⟩ := fin 0 (Or.inl rfl) ⟨fun q => absurd rfl q, fun q => q.elim (fun q => absurd h0 q) (fun q => absurd h6 (hlh.mp q).2)⟩
          exact ⟨⟨fun q => absurd q g, fun _ => i2 ⟨fun _ => ⟨fun q => absurd q h5, fun _ => ⟨fun _ => a1, fun q => absurd h6 q⟩⟩, fun q => absurd h0 q⟩⟩, a2⟩
        · rw [if_neg h6]
          obtain ⟨a1, a2⟩ := fin 1 (Or.inr rfl) ⟨fun _ => Or.inr (hlh.mpr ⟨h5, h6⟩), fun _ => i10⟩
          exact ⟨⟨fun q => absurd q g, fun _ => i2 ⟨fun _ => ⟨fun q => absurd q h5, fun _ => ⟨fun q => absurd q h6, fun _ => a1⟩⟩, fun q => absurd h0 q⟩⟩, a2⟩
    · rw [if_neg h0]
      obtain ⟨a1, a2⟩ := fin 1 (Or.inr rfl) ⟨fun _ => Or.inl h0, fun _ => i10⟩
      exact ⟨⟨fun q => absurd q g, fun _ => i2 ⟨fun q => absurd q h0, fun _ => a1⟩⟩, a2⟩
theorem qm_counts {s Q : am_M} (qm : q_qm s Q) {j w base : Nat} (hj : j < q_nq Q) (h8 : q_nq Q ≤ 8) (hw : w ≤ 54) (cw : q_cw Q j w) {v : Nat → Int32} (hb : base + 54 ≤ 19440) (hv : ∀ c, c < w → s 250 (base + c) = v c) : p_MO_doesCount s (nI j) (nI base) ∧ ((f_MO_doesCount s (nI j) (nI base) = 1 ∧ q_ct Q j v) ∨ (f_MO_doesCount s (nI j) (nI base) = 0 ∧ ¬ q_ct Q j v)) := by
  have cw' := cw
  obtain ⟨m, m1, m2, -⟩ := cw
  have em : q_c (Q (67 + 7 * j) 12) = m := by rw [m1]; exact q_cI (by omega)
  have s243 : s 243 j = nI m := ((qm.2 j hj).2.2.2.2.2.2.1).trans m1
  have vj : vp_in (nI j) 8 := vp_in_nI (by omega) (by omega)
  have H := fun x3 h3 => qm_18 qm hj h8 hw cw' hb hv 3 0 am_F x3 (by omega) (by rw [am_F_eq]; omega) h3
  unfold p_MO_doesCount f_MO_doesCount f_MO_doesCount_14 p_MO_doesCount_14 q_ct
  rw [nI_clamp (n := j) (by omega), s243, em]
  rw [nI_0] at H
  by_cases h0 : m = 0
  · have z : nI m = 0 := by rw [h0, nI_0]
    obtain ⟨a1, a2⟩ := H 1 (Or.inr rfl)
    rw [if_pos z]
    refine ⟨⟨vj, fun _ => a1, fun q => absurd z q⟩, ?_⟩
    rcases a2 with ⟨b1, -⟩ | ⟨b1, b2⟩
    · exact Or.inl ⟨b1, Or.inl h0⟩
    · exact absurd (Or.inl i10) b2
  · have z : ¬ nI m = 0 := fun q => h0 ((qe_0 (by omega)).mp q)
    obtain ⟨a1, a2⟩ := H 0 (Or.inl rfl)
    rw [if_neg z]
    refine ⟨⟨vj, fun q => absurd q z, fun _ => a1⟩, ?_⟩
    rcases a2 with ⟨b1, b2⟩ | ⟨b1, b2⟩
    · refine Or.inl ⟨b1, Or.inr ?_⟩
      rcases b2 with q | ⟨a, -, c2, c3⟩
      · exact absurd rfl q
      · exact ⟨a, c2, c3⟩
    · exact Or.inr ⟨b1, fun q => by
        rcases q with q | ⟨a, c2, c3⟩
        · exact h0 q
        · exact b2 (Or.inr ⟨a, Nat.zero_le _, c2, c3⟩)⟩
end

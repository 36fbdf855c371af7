noncomputable section
-- questions: the conditions, the class
theorem qa_lk {j : Nat} (hj : j < 8) : am_lk 53 j = 67 + 7 * j ∧ am_lk (67 + 7 * j) 10 = 68 + 7 * j ∧ am_lk (67 + 7 * j) 11 = 69 + 7 * j ∧ am_lk (67 + 7 * j) 13 = 70 + 7 * j ∧ am_lk (67 + 7 * j) 14 = 71 + 7 * j ∧ am_lk (67 + 7 * j) 15 = 72 + 7 * j ∧ am_lk (67 + 7 * j) 16 = 73 + 7 * j := (by decide +kernel : ∀ j, j < 8 → am_lk 53 j = 67 + 7 * j ∧ am_lk (67 + 7 * j) 10 = 68 + 7 * j ∧ am_lk (67 + 7 * j) 11 = 69 + 7 * j ∧ am_lk (67 + 7 * j) 13 = 70 + 7 * j ∧ am_lk (67 + 7 * j) 14 = 71 + 7 * j ∧ am_lk (67 + 7 * j) 15 = 72 + 7 * j ∧ am_lk (67 + 7 * j) 16 = 73 + 7 * j) j hj
theorem qa_sh {j : Nat} (hj : j < 8) : am_sh (67 + 7 * j) = (0, 4, 17) ∧ am_sh (68 + 7 * j) = (1, 0, 54) ∧ am_sh (69 + 7 * j) = (1, 0, 54) ∧ am_sh (70 + 7 * j) = (1, 0, 6) ∧ am_sh (71 + 7 * j) = (1, 0, 6) ∧ am_sh (72 + 7 * j) = (1, 0, 6) ∧ am_sh (73 + 7 * j) = (1, 0, 6) := (by decide +kernel : ∀ j, j < 8 → am_sh (67 + 7 * j) = (0, 4, 17) ∧ am_sh (68 + 7 * j) = (1, 0, 54) ∧ am_sh (69 + 7 * j) = (1, 0, 54) ∧ am_sh (70 + 7 * j) = (1, 0, 6) ∧ am_sh (71 + 7 * j) = (1, 0, 6) ∧ am_sh (72 + 7 * j) = (1, 0, 6) ∧ am_sh (73 + 7 * j) = (1, 0, 6)) j hj
theorem qa_q (s : am_M) {j : Nat} (hj : j < 8) : p_AS_question s (nI j) ∧ f_AS_question s (nI j) = 67 + 7 * j := by
  have z1 : ¬ nI j < 0 := qz (by omega)
  have z2 : nI j < (8 : Int32) := qt_8 hj
  have c := nI_clamp (n := j) (by omega)
  unfold p_AS_question f_AS_question
  rw [if_neg z1, if_pos z2, c, (qa_lk hj).1]
  exact ⟨⟨fun _ => trivial, fun _ => ⟨fun _ => ⟨vp_in_nI hj (by omega), ⟨by omega, (qa_sh hj).1⟩, trivial⟩, fun _ => trivial⟩⟩, rfl⟩
/-- the class's memory of the questions, of a state that keeps it -/
theorem q_qc_out {s t Q : am_M} {P : Nat → Nat → Prop} (h : q_out s t P) (hP : ∀ a b, P a b → (a = 52 → b ≠ 3) ∧ (a < 67 ∨ 122 < a)) (m : q_qc s Q) : q_qc t Q := by
  refine ⟨by rw [h 52 3 (fun q => (hP _ _ q).1 rfl rfl)]; exact m.1, fun a h1 h2 => ?_⟩
  rw [← m.2 a h1 h2]; funext b; exact h a b (fun q => by have := (hP _ _ q).2; omega)
def q_mt (rel cell num : Int32) : Prop := if rel = 0 then cell = num else if rel = 1 then ¬ cell < num else if rel = 2 then cell ≠ -1000000 ∧ ¬ num < cell else cell = -1000000
theorem qa_meets (s : am_M) (rel cell num : Int32) : p_QU_meets s rel cell num ∧ ((f_QU_meets s rel cell num = 1 ∧ q_mt rel cell num) ∨ (f_QU_meets s rel cell num = 0 ∧ ¬ q_mt rel cell num)) := by
  unfold p_QU_meets f_QU_meets q_mt
  refine ⟨⟨fun _ => ⟨fun _ => trivial, fun _ => trivial⟩, fun _ => ⟨fun _ => ⟨fun _ => trivial, fun _ => trivial⟩, fun _ => ⟨fun _ => ⟨fun _ => trivial, fun _ => ⟨fun _ => trivial, fun _ => trivial⟩⟩, fun _ => ⟨fun _ => trivial, fun _ => trivial⟩⟩⟩⟩, ?_⟩
  by_cases h0 : rel = 0
  · rw [if_pos h0, if_pos h0]
    by_cases h : cell = num
    · rw [if_pos h]; exact Or.inl ⟨rfl, h⟩
    · rw [if_neg h]; exact Or.inr ⟨rfl, h⟩
  rw [if_neg h0, if_neg h0]
  by_cases h1 : rel = 1
  · rw [if_pos h1, if_pos h1]
    by_cases h : cell < num
    · rw [if_pos h]; exact Or.inr ⟨rfl, fun q => q h⟩
    · rw [if_neg h]; exact Or.inl ⟨rfl, h⟩
  rw [if_neg h1, if_neg h1]
  by_cases h2 : rel = 2
  · rw [if_pos h2, if_pos h2]
    by_cases hb : cell = -1000000
    · rw [if_pos hb]; exact Or.inr ⟨rfl, fun q => q.1 hb⟩
    · rw [if_neg hb]
      by_cases h : num < cell
      · rw [if_pos h]; exact Or.inr ⟨rfl, fun q => q.2 h⟩
      · rw [if_neg h]; exact Or.inl ⟨rfl, hb, h⟩
  rw [if_neg h2, if_neg h2]
  by_cases hb : cell = -1000000
  · rw [if_pos hb]; exact Or.inl ⟨rfl, hb⟩
  · rw [if_neg hb]; exact Or.inr ⟨rfl, hb⟩
/-- condition i of question j is of a line -/
abbrev q_ln (Q : am_M) (j line i : Nat) : Prop := Q (70 + 7 * j) i = nI line
abbrev q_me (Q : am_M) (j : Nat) (v : Nat → Int32) (i : Nat) : Prop := q_mt (Q (72 + 7 * j) i) (v (q_c (Q (71 + 7 * j) i))) (Q (73 + 7 * j) i)
def q_lh (Q : am_M) (j line : Nat) (v : Nat → Int32) : Prop := (∃ i, i < q_c (Q (67 + 7 * j) 12) ∧ q_ln Q j line i) ∧ ∀ i, i < q_c (Q (67 + 7 * j) 12) → q_ln Q j line i → q_me Q j v i
def q_ct (Q : am_M) (j : Nat) (v : Nat → Int32) : Prop := q_c (Q (67 + 7 * j) 12) = 0 ∨ ∃ line, line < 3 ∧ q_lh Q j line v
/-- what a plain question has of conditions -/
def q_cw (Q : am_M) (j w : Nat) : Prop := ∃ m, Q (67 + 7 * j) 12 = nI m ∧ m ≤ 6 ∧ ∀ i, i < m → ∃ l c r, l < 3 ∧ c < w ∧ r < 4 ∧ Q (70 + 7 * j) i = nI l ∧ Q (71 + 7 * j) i = nI c ∧ Q (72 + 7 * j) i = nI r ∧ -999999 ≤ (Q (73 + 7 * j) i).toInt ∧ (Q (73 + 7 * j) i).toInt ≤ 999999
theorem qa_lh {s Q : am_M} (qc : q_qc s Q) {j k w line : Nat} (hj : j < 8) (hk : k < 30) (hw : w ≤ 54) (cw : q_cw Q j w) {v : Nat → Int32} (hv : ∀ c, c < w → s 61 (54 * k + c) = v c) : ∀ (d i n : Nat) (x4 : Int32), i + d = q_c (Q (67 + 7 * j) 12) → d < n → (x4 = 0 ∨ x4 = 1) → p_AS_lineHolds_6 n s (67 + 7 * j) (nI k) (nI line) x4 (nI i) ∧ ((f_AS_lineHolds_6 n s (67 + 7 * j) (nI k) (nI line) x4 (nI i) = 1 ∧ ((x4 = 1 ∨ ∃ a, i ≤ a ∧ a < q_c (Q (67 + 7 * j) 12) ∧ q_ln Q j line a) ∧ ∀ a, i ≤ a → a < q_c (Q (67 + 7 * j) 12) → q_ln Q j line a → q_me Q j v a)) ∨ (f_AS_lineHolds_6 n s (67 + 7 * j) (nI k) (nI line) x4 (nI i) = 0 ∧ ¬ ((x4 = 1 ∨ ∃ a, i ≤ a ∧ a < q_c (Q (67 + 7 * j) 12) ∧ q_ln Q j line a) ∧ ∀ a, i ≤ a → a < q_c (Q (67 + 7 * j) 12) → q_ln Q j line a → q_me Q j v a))) := by
  obtain ⟨m, m1, m2, m3⟩ := cw
  have em : q_c (Q (67 + 7 * j) 12) = m := by rw [m1]; exact nI_clamp (by omega)
  rw [em]
  obtain ⟨-, l10, l11, l13, l14, l15, l16⟩ := qa_lk hj
  obtain ⟨h0, h10, h11, h13, h14, h15, h16⟩ := qa_sh hj
  have s12 : s (67 + 7 * j) 12 = nI m := by rw [qc.2 _ (by omega) (by omega)]; exact m1
  intro d
  induction d with
  | zero =>
    intro i n x4 hi hn hx
    obtain ⟨n, rfl⟩ : ∃ k, n = k + 1 := ⟨n - 1, by omega⟩
    obtain rfl : i = m := by omega
    have l : s (67 + 7 * j) 12 ≤ nI i := by rw [s12]; exact qn_le (Nat.le_refl _) (by omega)
    unfold p_AS_lineHolds_6 f_AS_lineHolds_6
    rw [if_pos l]
    refine ⟨⟨⟨by omega, h0⟩, fun _ => ⟨hx, trivial⟩, fun q => absurd l q⟩, ?_⟩
    rcases hx with rfl | rfl
    · exact Or.inr ⟨rfl, fun q => by
        rcases q.1 with g | ⟨a, a1, a2, -⟩
        · exact absurd g (by decide)
        · omega⟩
    · exact Or.inl ⟨rfl, Or.inl rfl, fun a a1 a2 => by omega⟩
  | succ d ih =>
    intro i n x4 hi hn hx
    obtain ⟨n, rfl⟩ : ∃ k, n = k + 1 := ⟨n - 1, by omega⟩
    have l : ¬ s (67 + 7 * j) 12 ≤ nI i := by rw [s12]; exact nI_ge (by omega) (by omega)
    have l6 : ¬ (6 : Int32) ≤ nI i := ql_6 (by omega)
    have e1 : nI i + (1 : Int32) = nI (i + 1) := nI_add i 1
    have ci := nI_clamp (n := i) (by omega)
    have v6 : vp_in (nI i) 6 := vp_in_nI (by omega) (by omega)
    obtain ⟨ll, c, r, b1, b2, b3, b4, b5, b6, b7, b8⟩ := m3 i (by omega)
    have hget := qa_get s hk (show c < 54 by omega)
    rw [hv c b2] at hget
    unfold p_AS_lineHolds_6 f_AS_lineHolds_6 p_AS_lineHolds_70 f_AS_lineHolds_70
    rw [if_neg l, if_neg l6, ci, l13, l14, l15, l16, e1, qc.2 (70 + 7 * j) (by omega) (by omega), qc.2 (71 + 7 * j) (by omega) (by omega), qc.2 (72 + 7 * j) (by omega) (by omega), qc.2 (73 + 7 * j) (by omega) (by omega)]
    by_cases h : Q (70 + 7 * j) i = nI line
    · rw [if_pos h, b5, hget.2]
      obtain ⟨mp, mm⟩ := qa_meets s (Q (72 + 7 * j) i) (v c) (Q (73 + 7 * j) i)
      have hme : q_me Q j v i ↔ q_mt (Q (72 + 7 * j) i) (v c) (Q (73 + 7 * j) i) := by
        show q_mt (Q (72 + 7 * j) i) (v (q_c (Q (71 + 7 * j) i))) (Q (73 + 7 * j) i) ↔ _
        rw [b5, q_cI (n := c) (by omega)]
      rcases mm with ⟨g1, g2⟩ | ⟨g1, g2⟩
      · obtain ⟨i1, i2⟩ := ih (i + 1) n 1 (by omega) (by omega) (Or.inr rfl)
        have n0 : ¬ f_QU_meets s (Q (72 + 7 * j) i) (v c) (Q (73 + 7 * j) i) = 0 := by rw [g1]; exact i10
        rw [if_neg n0]
        refine ⟨⟨⟨by omega, h0⟩, fun q => absurd q l, fun _ => ⟨fun q => absurd q l6, fun _ => ⟨⟨by omega, h13⟩, v6, fun _ => ⟨⟨by omega, h15⟩, v6, ⟨by omega, h14⟩, v6, hget.1, ⟨by omega, h16⟩, v6, fun q => absurd q n0, fun _ => i1⟩, fun q => absurd h q⟩⟩⟩, ?_⟩
        rcases i2 with ⟨f1, f2, f3⟩ | ⟨f1, f2⟩
        · refine Or.inl ⟨f1, Or.inr ⟨i, Nat.le_refl _, by omega, h⟩, fun a a1 a2 a3 => ?_⟩
          by_cases hai : a = i
          · rw [hai]; exact hme.mpr g2
          · exact f3 a (by omega) a2 a3
        · exact Or.inr ⟨f1, fun q => f2 ⟨Or.inl rfl, fun a a1 a2 a3 => q.2 a (by omega) a2 a3⟩⟩
      · rw [if_pos g1]
        refine ⟨⟨⟨by omega, h0⟩, fun q => absurd q l, fun _ => ⟨fun q => absurd q l6, fun _ => ⟨⟨by omega, h13⟩, v6, fun _ => ⟨⟨by omega, h15⟩, v6, ⟨by omega, h14⟩, v6, hget.1, ⟨by omega, h16⟩, v6, fun _ => trivial, fun q => absurd g1 q⟩, fun q => absurd h q⟩⟩⟩, Or.inr ⟨rfl, fun q => ?_⟩⟩
        exact g2 (hme.mp (q.2 i (Nat.le_refl _) (by omega) h))
    · rw [if_neg h]
      obtain ⟨i1, i2⟩ := ih (i + 1) n x4 (by omega) (by omega) hx
      refine ⟨⟨⟨by omega, h0⟩, fun q => absurd q l, fun _ => ⟨fun q => absurd q l6, fun _ => ⟨⟨by omega, h13⟩, v6, fun q => absurd q h, fun _ => i1⟩⟩⟩, ?_⟩
      rcases i2 with ⟨f1, f2, f3⟩ | ⟨f1, f2⟩
      · refine Or.inl ⟨f1, ?_, fun a a1 a2 a3 => ?_⟩
        · rcases f2 with g | ⟨a, a1, a2, a3⟩
          · exact Or.inl g
          · exact Or.inr ⟨a, by omega, a2, a3⟩
        · by_cases hai : a = i
          · rw [hai] at a3; exact absurd a3 h
          · exact f3 a (by omega) a2 a3
      · refine Or.inr ⟨f1, fun q => f2 ⟨?_, fun a a1 a2 a3 => q.2 a (by omega) a2 a3⟩⟩
        rcases q.1 with g | ⟨a, a1, a2, a3⟩
        · exact Or.inl g
        · by_cases hai : a = i
          · rw [hai] at a3; exact absurd a3 h
          · exact Or.inr ⟨a, by omega, a2, a3⟩
theorem qa_line {s Q : am_M} (qc : q_qc s Q) {j k w line : Nat} (hj : j < 8) (hk : k < 30) (hw : w ≤ 54) (cw : q_cw Q j w) {v : Nat → Int32} (hv : ∀ c, c < w → s 61 (54 * k + c) = v c) : p_AS_lineHolds s (nI k) (67 + 7 * j) (nI line) ∧ ((f_AS_lineHolds s (nI k) (67 + 7 * j) (nI line) = 1 ∧ q_lh Q j line v) ∨ (f_AS_lineHolds s (nI k) (67 + 7 * j) (nI line) = 0 ∧ ¬ q_lh Q j line v)) := by
  have h6 : q_c (Q (67 + 7 * j) 12) ≤ 6 := by
    obtain ⟨m, m1, m2, -⟩ := cw
    rw [m1, show q_c (nI m) = m from nI_clamp (by omega)]; exact m2
  have h := qa_lh qc hj hk hw cw hv (line := line) (q_c (Q (67 + 7 * j) 12)) 0 am_F 0 (Nat.zero_add _) (by rw [am_F_eq]; omega) (Or.inl rfl)
  rw [nI_0] at h
  refine ⟨h.1, ?_⟩
  rcases h.2 with ⟨f1, f2, f3⟩ | ⟨f1, f2⟩
  · refine Or.inl ⟨f1, ?_, fun i hi hl => f3 i (Nat.zero_le _) hi hl⟩
    rcases f2 with g | ⟨a, -, a2, a3⟩
    · exact absurd g (by decide)
    · exact ⟨a, a2, a3⟩
  · exact Or.inr ⟨f1, fun q => f2 ⟨Or.inr (by
      obtain ⟨a, a1, a2⟩ := q.1
      exact ⟨a, Nat.zero_le _, a1, a2⟩), fun a _ a2 a3 => q.2 a a2 a3⟩⟩
theorem qa_counts {s Q : am_M} (qc : q_qc s Q) {j k w : Nat} (hj : j < 8) (hk : k < 30) (hw : w ≤ 54) (cw : q_cw Q j w) {v : Nat → Int32} (hv : ∀ c, c < w → s 61 (54 * k + c) = v c) : p_AS_counts s (nI k) (67 + 7 * j) ∧ ((f_AS_counts s (nI k) (67 + 7 * j) = 1 ∧ q_ct Q j v) ∨ (f_AS_counts s (nI k) (67 + 7 * j) = 0 ∧ ¬ q_ct Q j v)) := by
  have cw' := cw
  obtain ⟨m, m1, m2, -⟩ := cw
  have em : q_c (Q (67 + 7 * j) 12) = m := by rw [m1]; exact nI_clamp (by omega)
  have s12 : s (67 + 7 * j) 12 = nI m := by rw [qc.2 _ (by omega) (by omega)]; exact m1
  have psh : 67 + 7 * j < 207 ∧ am_sh (67 + 7 * j) = (0, 4, 17) := ⟨by omega, (qa_sh hj).1⟩
  have loop : ∀ (d l n : Nat), l + d = 3 → d < n → p_AS_counts_11 n s (67 + 7 * j) (nI k) (nI l) ∧ ((f_AS_counts_11 n s (67 + 7 * j) (nI k) (nI l) = 1 ∧ ∃ line, l ≤ line ∧ line < 3 ∧ q_lh Q j line v) ∨ (f_AS_counts_11 n s (67 + 7 * j) (nI k) (nI l) = 0 ∧ ¬ ∃ line, l ≤ line ∧ line < 3 ∧ q_lh Q j line v)) := by
    intro d
    induction d with
    | zero =>
      intro l n hl hn
      obtain ⟨n, rfl⟩ : ∃ k, n = k + 1 := ⟨n - 1, by omega⟩
      obtain rfl : l = 3 := by omega
      have g : (3 : Int32) ≤ nI 3 := qg_3 (by omega) (by omega)
      unfold p_AS_counts_11 f_AS_counts_11
      rw [if_pos g]
      exact ⟨⟨fun _ => trivial, fun q => absurd g q⟩, Or.inr ⟨rfl, fun ⟨a, a1, a2, _⟩ => by omega⟩⟩
    | succ d ih =>
      intro l n hl hn
      obtain ⟨n, rfl⟩ : ∃ k, n = k + 1 := ⟨n - 1, by omega⟩
      have g : ¬ (3 : Int32) ≤ nI l := ql_3 (by omega)
      have e1 : nI l + (1 : Int32) = nI (l + 1) := nI_add l 1
      obtain ⟨L1, L2⟩ := qa_line qc hj hk hw cw' hv (line := l)
      obtain ⟨i1, i2⟩ := ih (l + 1) n (by omega) (by omega)
      unfold p_AS_counts_11 f_AS_counts_11
      rw [if_neg g, e1]
      rcases L2 with ⟨g1, g2⟩ | ⟨g1, g2⟩
      · have n0 : ¬ f_AS_lineHolds s (nI k) (67 + 7 * j) (nI l) = 0 := by rw [g1]; exact i10
        rw [if_neg n0]
        exact ⟨⟨fun q => absurd q g, fun _ => ⟨L1, fun q => absurd q n0, fun _ => trivial⟩⟩, Or.inl ⟨rfl, l, Nat.le_refl _, by omega, g2⟩⟩
      · rw [if_pos g1]
        refine ⟨⟨fun q => absurd q g, fun _ => ⟨L1, fun _ => i1, fun q => absurd g1 q⟩⟩, ?_⟩
        rcases i2 with ⟨f1, a, a1, a2, a3⟩ | ⟨f1, f2⟩
        · exact Or.inl ⟨f1, a, by omega, a2, a3⟩
        · refine Or.inr ⟨f1, fun ⟨a, a1, a2, a3⟩ => ?_⟩
          by_cases hal : a = l
          · rw [hal] at a3; exact g2 a3
          · exact f2 ⟨a, by omega, a2, a3⟩
  unfold p_AS_counts f_AS_counts q_ct
  rw [s12, em]
  by_cases h0 : m = 0
  · rw [h0, if_pos nI_0]
    exact ⟨⟨psh, fun _ => trivial, fun q => absurd nI_0 q⟩, Or.inl ⟨rfl, Or.inl rfl⟩⟩
  · have n0 : ¬ nI m = 0 := fun q => h0 ((qe_0 (by omega)).mp q)
    rw [if_neg n0]
    have h := loop 3 0 am_F (by omega) (by rw [am_F_eq]; omega)
    rw [nI_0] at h
    refine ⟨⟨psh, fun q => absurd q n0, fun _ => h.1⟩, ?_⟩
    rcases h.2 with ⟨f1, a, -, a2, a3⟩ | ⟨f1, f2⟩
    · exact Or.inl ⟨f1, Or.inr ⟨a, a2, a3⟩⟩
    · exact Or.inr ⟨f1, fun q => by
        rcases q with q | ⟨a, a2, a3⟩
        · exact h0 q
        · exact f2 ⟨a, Nat.zero_le _, a2, a3⟩⟩
end

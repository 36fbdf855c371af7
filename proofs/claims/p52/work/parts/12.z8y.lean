noncomputable section
-- is a column asked for by questions?
def q_ask (Q : am_M) (j o : Nat) : Prop := (∃ i, i < q_c (Q (67 + 7 * j) 12) ∧ Q (68 + 7 * j) (q_c (Q (71 + 7 * j) i)) = nI o) ∨ ∃ f, (f = 2 ∨ f = 4 ∨ f = 5 ∨ f = 6) ∧ Q (67 + 7 * j) f ≠ -1 ∧ q_so Q (q_c (Q (67 + 7 * j) 1)) (q_c (Q (67 + 7 * j) f)) = nI o
/-- a column that a question has of its source, if it has one -/
theorem q_flds {A Q : am_M} (w : q_wd A) (qw : q_qw A Q) {j : Nat} (hj : j < q_nq Q) : ∃ src, Q (67 + 7 * j) 1 = nI src ∧ q_c (Q (67 + 7 * j) 1) = src ∧ (src < 4 ∨ (10 ≤ src ∧ src < 10 + q_nq Q)) ∧ (∀ f, (f = 2 ∨ f = 4 ∨ f = 5 ∨ f = 6) → Q (67 + 7 * j) f = -1 ∨ ∃ c, c < q_sw A Q src ∧ c < 54 ∧ Q (67 + 7 * j) f = nI c) ∧ ∃ m, Q (67 + 7 * j) 12 = nI m ∧ q_c (Q (67 + 7 * j) 12) = m ∧ m ≤ 6 ∧ ∀ i, i < m → ∃ c, c < 54 ∧ Q (71 + 7 * j) i = nI c := by
  have h8 := qw.1.2
  obtain ⟨src, e1, -, e3, e4, e5, e6⟩ := q_q1_src w qw hj
  have h4 := w.1.2
  have hs : src < 4 ∨ (10 ≤ src ∧ src < 10 + q_nq Q) := by omega
  have hw := (q_sw_le w qw hs).1
  refine ⟨src, e1, by rw [e1]; exact nI_clamp (by omega), hs, ?_, ?_⟩
  · rcases e6 with ⟨-, k1, k2, k3, u, w9, n, a1, a2, a3, a4, a5, a6, a7, a8, -⟩ | ⟨g1, -, -, -, -, key, val, g6, g7, g8, g9, g10⟩
    · intro f hf
      rcases hf with rfl | rfl | rfl | rfl
      · rcases a8 with ⟨g, -⟩ | ⟨c, T, C, J, b1, b2, -⟩
        · exact Or.inl g
        · exact Or.inr ⟨c, by omega, by omega, b1⟩
      · exact Or.inl k1
      · exact Or.inl k2
      · exact Or.inl k3
    · intro f hf
      rcases hf with rfl | rfl | rfl | rfl
      · exact Or.inl g1
      · exact Or.inr ⟨key, g8, by omega, g6⟩
      · rcases g10 with ⟨-, g⟩ | ⟨-, sec, g2, g3⟩
        · exact Or.inl g
        · exact Or.inr ⟨sec, g3, by omega, g2⟩
      · exact Or.inr ⟨val, g9, by omega, g7⟩
  · rcases e6 with ⟨-, -, -, -, u, w9, n, a1, a2, a3, a4, a5, a6, a7, a8, m, c1, c2, c3⟩ | ⟨-, -, -, g4, -⟩
    · refine ⟨m, c1, by rw [c1]; exact nI_clamp (by omega), c2, fun i hi => ?_⟩
      obtain ⟨l, c, r, -, d2, -, -, d5, -⟩ := c3 i hi
      exact ⟨c, by omega, d5⟩
    · exact ⟨0, g4, by rw [g4]; exact nI_clamp (by omega), by omega, fun i hi => absurd hi (Nat.not_lt_zero _)⟩
theorem qa_hc {s Q : am_M} (qc : q_qc s Q) {j : Nat} (hj : j < 8) {m : Nat} {o : Nat} (hm : Q (67 + 7 * j) 12 = nI m) (hm6 : m ≤ 6) (hcol : ∀ i, i < m → ∃ c, c < 54 ∧ Q (71 + 7 * j) i = nI c) : ∀ (d i n : Nat), i + d = m → d < n → p_QU_hasConditionOn_2 n s (67 + 7 * j) (nI o) (nI i) ∧ ((f_QU_hasConditionOn_2 n s (67 + 7 * j) (nI o) (nI i) = 1 ∧ ∃ i', i ≤ i' ∧ i' < m ∧ Q (68 + 7 * j) (q_c (Q (71 + 7 * j) i')) = nI o) ∨ (f_QU_hasConditionOn_2 n s (67 + 7 * j) (nI o) (nI i) = 0 ∧ ∀ i', i ≤ i' → i' < m → ¬ Q (68 + 7 * j) (q_c (Q (71 + 7 * j) i')) = nI o)) := by
  have es : s (67 + 7 * j) 12 = nI m := by rw [qc.2 _ (by omega) (by omega)]; exact hm
  obtain ⟨h0, -, -, -, h14, -⟩ := qa_sh hj
  obtain ⟨-, -, -, -, l14, -⟩ := qa_lk hj
  have psh : 67 + 7 * j < 207 ∧ am_sh (67 + 7 * j) = (0, 4, 17) := ⟨by omega, h0⟩
  intro d
  induction d with
  | zero =>
    intro i n h1 h2
    obtain ⟨n, rfl⟩ : ∃ k, n = k + 1 := ⟨n - 1, by omega⟩
    have c : nI m ≤ nI i := nI_le (by omega) (by omega)
    unfold p_QU_hasConditionOn_2 f_QU_hasConditionOn_2
    rw [es, if_pos c]
    exact ⟨⟨psh, fun _ => trivial, fun q => absurd c q⟩, Or.inr ⟨rfl, fun i' _ _ => by omega⟩⟩
  | succ d ih =>
    intro i n h1 h2
    obtain ⟨n, rfl⟩ : ∃ k, n = k + 1 := ⟨n - 1, by omega⟩
    have c : ¬ nI m ≤ nI i := nI_ge (by omega) (by omega)
    have c6 : ¬ (6 : Int32) ≤ nI i := ql_6 (by omega)
    obtain ⟨k, hk, ek⟩ := hcol i (by omega)
    obtain ⟨O1, O2⟩ := qa_origin qc hj hk
    have e71 : s (71 + 7 * j) i = nI k := by rw [qc.2 _ (by omega) (by omega)]; exact ek
    have ekc : q_c (Q (71 + 7 * j) i) = k := by rw [ek]; exact nI_clamp (by omega)
    obtain ⟨p1, r1⟩ := ih (i + 1) n (by omega) (by omega)
    unfold p_QU_hasConditionOn_2 f_QU_hasConditionOn_2
    rw [es, if_neg c, if_neg c6, l14, nI_clamp (n := i) (by omega), e71, O2, nI_1]
    refine ⟨⟨psh, fun q => absurd q c, fun _ => ⟨fun q => absurd q c6, fun _ => ⟨⟨by omega, h14⟩, vp_in_nI (by omega) (by omega), O1, fun _ => trivial, fun _ => p1⟩⟩⟩, ?_⟩
    by_cases q : Q (68 + 7 * j) k = nI o
    · rw [if_pos q]
      exact Or.inl ⟨rfl, i, Nat.le_refl _, by omega, by rw [ekc]; exact q⟩
    · rw [if_neg q]
      rcases r1 with ⟨r1, i', r2, r3, r4⟩ | ⟨r1, r2⟩
      · exact Or.inl ⟨r1, i', by omega, r3, r4⟩
      · refine Or.inr ⟨r1, fun i' h1' h2' => ?_⟩
        by_cases e : i' = i
        · rw [e, ekc]; exact q
        · exact r2 i' (by omega) h2'
theorem qa_og {s A Q : am_M} (qc : q_qc s Q) (qw : q_qw A Q) {src : Nat} (hs : src < 4 ∨ (10 ≤ src ∧ src < 10 + q_nq Q)) {x : Int32} (hx : x = -1 ∨ ∃ c, c < 54 ∧ x = nI c) : p_AS_originOf s (nI src) x ∧ f_AS_originOf s (nI src) x = (if x = -1 then -1 else q_so Q src (q_c x)) := by
  have h8 := qw.1.2
  unfold p_AS_originOf f_AS_originOf
  rcases hx with rfl | ⟨c, hc, rfl⟩
  · have n0 : ¬ (0 : Int32) ≤ -1 := by decide
    rw [if_neg n0, if_pos rfl]
    exact ⟨⟨fun q => absurd q n0, fun _ => trivial⟩, rfl⟩
  · have n0 : (0 : Int32) ≤ nI c := nI_le (a := 0) (Nat.zero_le _) (by omega)
    have ec : q_c (nI c) = c := nI_clamp (by omega)
    rw [if_pos n0, if_neg (q_m1_ne (n := c) (by omega)), ec]
    unfold q_so
    by_cases h : src < 10
    · have c1 : ¬ (10 : Int32) ≤ nI src := ql_10 h
      rw [if_neg c1, if_pos h, qw_10, nI_add]
      exact ⟨⟨fun _ => ⟨fun q => absurd q c1, fun _ => trivial⟩, fun q => absurd n0 q⟩, rfl⟩
    · have c1 : (10 : Int32) ≤ nI src := qg_10 (by omega) (by omega)
      have e10 : nI src - (10 : Int32) = nI (src - 10) := by
        have := q_subI (src - 10) 10
        rw [show src - 10 + 10 = src from by omega] at this; exact this
      obtain ⟨Q1, Q2⟩ := qa_q s (show src - 10 < 8 by omega)
      obtain ⟨O1, O2⟩ := qa_origin qc (show src - 10 < 8 by omega) hc
      rw [if_pos c1, if_neg h, e10, Q2, O2]
      exact ⟨⟨fun _ => ⟨fun _ => ⟨Q1, O1, ⟨by omega, (qa_sh (show src - 10 < 8 by omega)).1⟩, trivial⟩, fun q => absurd c1 q⟩, fun q => absurd n0 q⟩, rfl⟩
theorem qa_us {s A Q : am_M} (w : q_wd A) (qc : q_qc s Q) (qw : q_qw A Q) {o : Nat} (ho : o < 1000) (x1 x2 : Int32) : ∀ (d j n : Nat), j + d = q_nq Q → d < n → p_AS_isUsed_10 n s x1 x2 (nI o) (nI j) ∧ ((f_AS_isUsed_10 n s x1 x2 (nI o) (nI j) = 1 ∧ ∃ j', j ≤ j' ∧ j' < q_nq Q ∧ q_ask Q j' o) ∨ (f_AS_isUsed_10 n s x1 x2 (nI o) (nI j) = 0 ∧ ∀ j', j ≤ j' → j' < q_nq Q → ¬ q_ask Q j' o)) := by
  have h8 := qw.1.2
  have es : s 52 3 = nI (q_nq Q) := qc.1.trans qw.1.1
  intro d
  induction d with
  | zero =>
    intro j n h1 h2
    obtain ⟨n, rfl⟩ : ∃ k, n = k + 1 := ⟨n - 1, by omega⟩
    have c : nI (q_nq Q) ≤ nI j := nI_le (by omega) (by omega)
    unfold p_AS_isUsed_10 f_AS_isUsed_10
    rw [es, if_pos c]
    exact ⟨⟨fun _ => trivial, fun q => absurd c q⟩, Or.inr ⟨rfl, fun j' _ _ => by omega⟩⟩
  | succ d ih =>
    intro j n h1 h2
    obtain ⟨n, rfl⟩ : ∃ k, n = k + 1 := ⟨n - 1, by omega⟩
    have hj : j < q_nq Q := by omega
    have c : ¬ nI (q_nq Q) ≤ nI j := nI_ge (by omega) (by omega)
    obtain ⟨src, f1, f2, f3, f4, m, g1, g2, g3, g4⟩ := q_flds w qw hj
    obtain ⟨Q1, Q2⟩ := qa_q s (show j < 8 by omega)
    have psh : 67 + 7 * j < 207 ∧ am_sh (67 + 7 * j) = (0, 4, 17) := ⟨by omega, (qa_sh (by omega)).1⟩
    obtain ⟨H1, H2⟩ := qa_hc (o := o) qc (show j < 8 by omega) g1 g3 g4 m 0 am_F (by omega) (by rw [am_F_eq]; omega)
    rw [nI_0] at H1 H2
    have e1 : s (67 + 7 * j) 1 = nI src := by rw [qc.2 _ (by omega) (by omega)]; exact f1
    have ef : ∀ f, s (67 + 7 * j) f = Q (67 + 7 * j) f := fun f => by rw [qc.2 _ (by omega) (by omega)]
    have E : ∀ f, (f = 2 ∨ f = 4 ∨ f = 5 ∨ f = 6) → p_AS_originOf s (s (67 + 7 * j) 1) (s (67 + 7 * j) f) ∧ (f_AS_originOf s (s (67 + 7 * j) 1) (s (67 + 7 * j) f) = nI o ↔ (Q (67 + 7 * j) f ≠ -1 ∧ q_so Q (q_c (Q (67 + 7 * j) 1)) (q_c (Q (67 + 7 * j) f)) = nI o)) := fun f hf => by
      have hx : Q (67 + 7 * j) f = -1 ∨ ∃ c, c < 54 ∧ Q (67 + 7 * j) f = nI c := by
        rcases f4 f hf with q | ⟨c, -, q1, q2⟩
        · exact Or.inl q
        · exact Or.inr ⟨c, q1, q2⟩
      obtain ⟨p, v⟩ := qa_og (s := s) qc qw f3 hx
      rw [e1, ef f, v, f2]
      refine ⟨p, ?_⟩
      by_cases q : Q (67 + 7 * j) f = -1
      · rw [if_pos q]; exact ⟨fun q2 => absurd q2.symm (q_m1_ne (by omega)), fun q2 => absurd q q2.1⟩
      · rw [if_neg q]; exact ⟨fun q2 => ⟨q, q2⟩, fun q2 => q2.2⟩
    obtain ⟨E2, E2'⟩ := E 2 (Or.inl rfl)
    obtain ⟨E4, E4'⟩ := E 4 (Or.inr (Or.inl rfl))
    obtain ⟨E5, E5'⟩ := E 5 (Or.inr (Or.inr (Or.inl rfl)))
    obtain ⟨E6, E6'⟩ := E 6 (Or.inr (Or.inr (Or.inr rfl)))
    obtain ⟨p1, r1⟩ := ih (j + 1) n (by omega) (by omega)
    unfold p_AS_isUsed_10 f_AS_isUsed_10
    rw [es, if_neg c, Q2, nI_1]
    refine ⟨⟨fun q => absurd q c, fun _ => ⟨Q1, psh, H1, fun _ => ⟨E2, fun _ => trivial, fun _ => ⟨E4, fun _ => trivial, fun _ => ⟨E5, fun _ => trivial, fun _ => ⟨E6, fun _ => trivial, fun _ => p1⟩⟩⟩⟩, fun _ => trivial⟩⟩, ?_⟩
    have H2 : (f_QU_hasConditionOn s (67 + 7 * j) (nI o) = 1 ∧ ∃ i', 0 ≤ i' ∧ i' < m ∧ Q (68 + 7 * j) (q_c (Q (71 + 7 * j) i')) = nI o) ∨ (f_QU_hasConditionOn s (67 + 7 * j) (nI o) = 0 ∧ ∀ i', 0 ≤ i' → i' < m → ¬ Q (68 + 7 * j) (q_c (Q (71 + 7 * j) i')) = nI o) := H2
    rcases H2 with ⟨H2, i', -, H3, H4⟩ | ⟨H2, H3⟩
    · rw [H2, if_neg i10]
      exact Or.inl ⟨rfl, j, Nat.le_refl _, hj, Or.inl ⟨i', by rw [g2]; exact H3, H4⟩⟩
    rw [H2, if_pos rfl]
    by_cases q2 : f_AS_originOf s (s (67 + 7 * j) 1) (s (67 + 7 * j) 2) = nI o
    · rw [if_pos q2]
      exact Or.inl ⟨rfl, j, Nat.le_refl _, hj, Or.inr ⟨2, Or.inl rfl, E2'.mp q2⟩⟩
    rw [if_neg q2]
    by_cases q4 : f_AS_originOf s (s (67 + 7 * j) 1) (s (67 + 7 * j) 4) = nI o
    · rw [if_pos q4]
      exact Or.inl ⟨rfl, j, Nat.le_refl _, hj, Or.inr ⟨4, Or.inr (Or.inl rfl), E4'.mp q4⟩⟩
    rw [if_neg q4]
    by_cases q5 : f_AS_originOf s (s (67 + 7 * j) 1) (s (67 + 7 * j) 5) = nI o
    · rw [if_pos q5]
      exact Or.inl ⟨rfl, j, Nat.le_refl _, hj, Or.inr ⟨5, Or.inr (Or.inr (Or.inl rfl)), E5'.mp q5⟩⟩
    rw [if_neg q5]
    by_cases q6 : f_AS_originOf s (s (67 + 7 * j) 1) (s (67 + 7 * j) 6) = nI o
    · rw [if_pos q6]
      exact Or.inl ⟨rfl, j, Nat.le_refl _, hj, Or.inr ⟨6, Or.inr (Or.inr (Or.inr rfl)), E6'.mp q6⟩⟩
    rw [if_neg q6]
    rcases r1 with ⟨r1, j', r2, r3, r4⟩ | ⟨r1, r2⟩
    · exact Or.inl ⟨r1, j', by omega, r3, r4⟩
    · refine Or.inr ⟨r1, fun j' h1' h2' => ?_⟩
      by_cases e : j' = j
      · subst e
        rintro (⟨i', t1, t2⟩ | ⟨f, rfl | rfl | rfl | rfl, t2⟩)
        · exact H3 i' (Nat.zero_le _) (by rw [g2] at t1; exact t1) t2
        · exact q2 (E2'.mpr t2)
        · exact q4 (E4'.mpr t2)
        · exact q5 (E5'.mpr t2)
        · exact q6 (E6'.mpr t2)
      · exact r2 j' (by omega) h2'
-- the same in the model
theorem q_mc_iff {x : Int32} {T C : Nat} (hx : x = -1 ∨ ∃ T' C', x = nI (10 * T' + C') ∧ T' < 4 ∧ C' < 6) (hT : T < 4) (hC : C < 6) : q_mc x = nI (6 * T + C) ↔ x = nI (10 * T + C) := by
  rcases hx with rfl | ⟨T', C', rfl, hT', hC'⟩
  · have e : q_mc (-1) = -1 := by unfold q_mc; rw [if_pos rfl]
    rw [e]
    exact ⟨fun q => absurd q.symm (q_m1_ne (by omega)), fun q => absurd q.symm (q_m1_ne (by omega))⟩
  · rw [q_mc_I (by omega) hC']
    constructor
    · intro q
      have := (nI_eq (by omega) (by omega)).mp q
      have e1 : T' = T := by omega
      have e2 : C' = C := by omega
      rw [e1, e2]
    · intro q
      obtain ⟨e1, e2⟩ := q_10 (by omega) (by omega) (by omega) (by omega) q
      rw [e1, e2]
theorem q_org {A Q : am_M} (w : q_wd A) (qw : q_qw A Q) {j c : Nat} (hj : j < q_nq Q) (hc : c < 54) : Q (68 + 7 * j) c = -1 ∨ ∃ T' C', Q (68 + 7 * j) c = nI (10 * T' + C') ∧ T' < 4 ∧ C' < 6 := by
  rcases (qw.2.1 j hj).2.1 c hc with g | ⟨T, C, g1, g2, g3⟩
  · exact Or.inl g
  · have h4 := w.1.2
    have := (w.2.1 T (by omega)).2.1
    exact Or.inr ⟨T, C, g1, by omega, by omega⟩
theorem qm_og {s A Q : am_M} (w : q_wd A) (qm : q_qm s Q) (qw : q_qw A Q) {src c : Nat} (hs : src < 4 ∨ (10 ≤ src ∧ src < 10 + q_nq Q)) (hc : c < q_sw A Q src) (hc54 : c < 54) {T C : Nat} (hT : T < 4) (hC : C < 6) : p_MO_originOf s (nI src) (nI c) ∧ (f_MO_originOf s (nI src) (nI c) = nI (6 * T + C) ↔ q_so Q src c = nI (10 * T + C)) := by
  have h8 := qw.1.2
  unfold p_MO_originOf f_MO_originOf q_so
  by_cases h : src < 10
  · have c1 : ¬ (10 : Int32) ≤ nI src := ql_10 h
    have hc6 : c < 6 := by
      unfold q_sw at hc
      rw [if_pos h] at hc
      have := (w.2.1 src (by omega)).2.1
      omega
    rw [if_neg c1, if_pos h, qw_6, nI_add]
    refine ⟨⟨fun q => absurd q c1, fun _ => trivial⟩, ?_⟩
    constructor
    · intro q
      have := (nI_eq (by omega) (by omega)).mp q
      have e1 : src = T := by omega
      have e2 : c = C := by omega
      rw [e1, e2]
    · intro q
      obtain ⟨e1, e2⟩ := q_10 (by omega) (by omega) (by omega) (by omega) q
      rw [e1, e2]
  · have c1 : (10 : Int32) ≤ nI src := qg_10 (by omega) (by omega)
    have e10 : nI src - (10 : Int32) = nI (src - 10) := by
      have := q_subI (src - 10) 10
      rw [show src - 10 + 10 = src from by omega] at this; exact this
    obtain ⟨-, -, -, -, -, -, -, -, -, e52⟩ := qm.2 (src - 10) (by omega)
    rw [if_pos c1, if_neg h, e10, qw_54, nI_add, nI_clamp (n := 54 * (src - 10) + c) (by omega), e52 c hc54]
    exact ⟨⟨fun _ => ⟨vp_in_nI (by omega) (by omega), trivial⟩, fun q => absurd c1 q⟩, q_mc_iff (q_org w qw (by omega) hc54) hT hC⟩
theorem qm_a113 {s A Q : am_M} (w : q_wd A) (qm : q_qm s Q) (qw : q_qw A Q) {j : Nat} (hj : j < q_nq Q) {m T C : Nat} (hT : T < 4) (hC : C < 6) (hm : Q (67 + 7 * j) 12 = nI m) (hm6 : m ≤ 6) (hcol : ∀ i, i < m → ∃ c, c < 54 ∧ Q (71 + 7 * j) i = nI c) (x3 : Int32) : ∀ (d i n : Nat) (x4 : Int32), i + d = m → d < n → (x4 = 0 ∨ x4 = 1) → p_MO_isAsked_113 n s (nI j) (nI (6 * T + C)) x3 x4 (nI i) ∧ (f_MO_isAsked_113 n s (nI j) (nI (6 * T + C)) x3 x4 (nI i) = 0 ↔ x4 = 0 ∧ ∀ i', i ≤ i' → i' < m → ¬ Q (68 + 7 * j) (q_c (Q (71 + 7 * j) i')) = nI (10 * T + C)) := by
  have h8 := qw.1.2
  obtain ⟨-, -, -, -, -, -, e43, e4x, -, e52⟩ := qm.2 j hj
  have es : s 243 j = nI m := e43.trans hm
  have ecm : q_c (Q (67 + 7 * j) 12) = m := by rw [hm]; exact nI_clamp (by omega)
  rw [ecm] at e4x
  have vj : vp_in (nI j) 8 := vp_in_nI (by omega) (by omega)
  intro d
  induction d with
  | zero =>
    intro i n x4 h1 h2 hx
    obtain ⟨n, rfl⟩ : ∃ k, n = k + 1 := ⟨n - 1, by omega⟩
    have c : nI m ≤ nI i := nI_le (by omega) (by omega)
    unfold p_MO_isAsked_113 f_MO_isAsked_113
    rw [nI_clamp (n := j) (by omega), es, if_pos c]
    exact ⟨⟨vj, fun _ => ⟨hx, trivial⟩, fun q => absurd c q⟩, fun q => ⟨q, fun i' _ _ => by omega⟩, fun q => q.1⟩
  | succ d ih =>
    intro i n x4 h1 h2 hx
    obtain ⟨n, rfl⟩ : ∃ k, n = k + 1 := ⟨n - 1, by omega⟩
    have c : ¬ nI m ≤ nI i := nI_ge (by omega) (by omega)
    obtain ⟨k, hk, ek⟩ := hcol i (by omega)
    have ekc : q_c (Q (71 + 7 * j) i) = k := by rw [ek]; exact nI_clamp (by omega)
    have e45 : s 245 (6 * j + i) = nI k := (e4x i (by omega)).2.1.trans ek
    obtain ⟨pt, rt⟩ := ih (i + 1) n 1 (by omega) (by omega) (Or.inr rfl)
    obtain ⟨pf, rf⟩ := ih (i + 1) n 0 (by omega) (by omega) (Or.inl rfl)
    have hmc := q_mc_iff (q_org w qw hj hk) hT hC
    have n1 : ¬ f_MO_isAsked_113 n s (nI j) (nI (6 * T + C)) x3 1 (nI (i + 1)) = 0 := fun q => absurd (rt.mp q).1 i10
    unfold p_MO_isAsked_113 f_MO_isAsked_113 p_MO_isAsked_155 f_MO_isAsked_155 p_MO_isAsked_160 f_MO_isAsked_160
    rw [nI_clamp (n := j) (by omega), es, if_neg c, qw_6, nI_add, nI_clamp (n := 6 * j + i) (by omega), e45, qw_54, nI_add, nI_clamp (n := 54 * j + k) (by omega), e52 k hk, nI_1]
    refine ⟨⟨vj, fun q => absurd q c, fun _ => ⟨fun _ => ⟨vp_in_nI (by omega) (by omega), vp_in_nI (by omega) (by omega), fun _ => pt, fun _ => pf⟩, fun _ => pt⟩⟩, ?_⟩
    rcases hx with rfl | rfl
    · rw [if_pos rfl]
      by_cases q : q_mc (Q (68 + 7 * j) k) = nI (6 * T + C)
      · rw [if_pos q]
        exact ⟨fun q2 => absurd q2 n1, fun q2 => absurd (hmc.mp q) (by have := q2.2 i (Nat.le_refl _) (by omega); rw [ekc] at this; exact this)⟩
      · rw [if_neg q, rf]
        constructor
        · rintro ⟨-, r⟩
          refine ⟨rfl, fun i' h1' h2' => ?_⟩
          by_cases e : i' = i
          · rw [e, ekc]; exact fun q2 => q (hmc.mpr q2)
          · exact r i' (by omega) h2'
        · rintro ⟨-, r⟩
          exact ⟨rfl, fun i' h1' h2' => r i' (by omega) h2'⟩
    · rw [if_neg i10]
      exact ⟨fun q2 => absurd q2 n1, fun q2 => absurd q2.1 i10⟩
theorem qm_asked {s A Q : am_M} (w : q_wd A) (qm : q_qm s Q) (qw : q_qw A Q) {j : Nat} (hj : j < q_nq Q) {T C : Nat} (hT : T < 4) (hC : C < 6) : p_MO_isAsked s (nI j) (nI (6 * T + C)) ∧ (f_MO_isAsked s (nI j) (nI (6 * T + C)) = 0 ↔ ¬ q_ask Q j (10 * T + C)) := by
  have h8 := qw.1.2
  obtain ⟨src, f1, f2, f3, f4, m, g1, g2, g3, g4⟩ := q_flds w qw hj
  obtain ⟨src', e1', -, -, hs10, -, kk⟩ := q_q1_src w qw hj
  obtain ⟨e36, e37, -, e39, e40, e41, -, -, -, -⟩ := qm.2 j hj
  have vj : vp_in (nI j) 8 := vp_in_nI (by omega) (by omega)
  have K : ∀ x3 x4, (x4 = 0 ∨ x4 = 1) → p_MO_isAsked_110 s (nI j) (nI (6 * T + C)) x3 x4 ∧ (f_MO_isAsked_110 s (nI j) (nI (6 * T + C)) x3 x4 = 0 ↔ x4 = 0 ∧ ∀ i', i' < m → ¬ Q (68 + 7 * j) (q_c (Q (71 + 7 * j) i')) = nI (10 * T + C)) := fun x3 x4 hx => by
    obtain ⟨a1, a2⟩ := qm_a113 w qm qw hj hT hC g1 g3 g4 x3 m 0 am_F x4 (by omega) (by rw [am_F_eq]; omega) hx
    rw [nI_0] at a1 a2
    unfold p_MO_isAsked_110 f_MO_isAsked_110
    refine ⟨a1, a2.trans ⟨fun q => ⟨q.1, fun i' h => q.2 i' (Nat.zero_le _) h⟩, fun q => ⟨q.1, fun i' _ h => q.2 i' h⟩⟩⟩
  have O : ∀ f, (f = 2 ∨ f = 4 ∨ f = 5 ∨ f = 6) → Q (67 + 7 * j) f ≠ -1 → p_MO_originOf s (nI src) (Q (67 + 7 * j) f) ∧ (f_MO_originOf s (nI src) (Q (67 + 7 * j) f) = nI (6 * T + C) ↔ (Q (67 + 7 * j) f ≠ -1 ∧ q_so Q (q_c (Q (67 + 7 * j) 1)) (q_c (Q (67 + 7 * j) f)) = nI (10 * T + C))) := fun f hf hne => by
    rcases f4 f hf with q | ⟨c, c1, c2, c3⟩
    · exact absurd q hne
    · obtain ⟨a1, a2⟩ := qm_og (s := s) w qm qw f3 c1 c2 hT hC
      have ec : q_c (Q (67 + 7 * j) f) = c := by rw [c3]; exact nI_clamp (by omega)
      rw [ec, f2, ← c3] at *
      exact ⟨a1, a2.trans ⟨fun q => ⟨hne, q⟩, fun q => q.2⟩⟩
  have noc : (∀ i', i' < m → ¬ Q (68 + 7 * j) (q_c (Q (71 + 7 * j) i')) = nI (10 * T + C)) ↔ ¬ ∃ i, i < q_c (Q (67 + 7 * j) 12) ∧ Q (68 + 7 * j) (q_c (Q (71 + 7 * j) i)) = nI (10 * T + C) := by
    rw [g2]
    exact ⟨fun q ⟨i, h1, h2⟩ => q i h1 h2, fun q i h1 h2 => q ⟨i, h1, h2⟩⟩
  have K0 := fun x3 => K x3 0 (Or.inl rfl)
  have K1 := fun x3 => K x3 1 (Or.inr rfl)
  have K1n : ∀ x3, ¬ f_MO_isAsked_110 s (nI j) (nI (6 * T + C)) x3 1 = 0 := fun x3 q => absurd ((K1 x3).2.mp q).1 i10
  unfold p_MO_isAsked f_MO_isAsked p_MO_isAsked_36 f_MO_isAsked_36
  rw [nI_clamp (n := j) (by omega), e39, e37, f1]
  rcases kk with ⟨k0, k1, k2, k3, -⟩ | ⟨b1, -, -, -, -, key, val, b6, b7, b8, b9, b10⟩
  · -- plain
    have p37 : ∀ y, (y = 0 ∨ y = 1) → p_MO_isAsked_37 s (nI j) (nI (6 * T + C)) (nI src) y ∧ f_MO_isAsked_37 s (nI j) (nI (6 * T + C)) (nI src) y = f_MO_isAsked_110 s (nI j) (nI (6 * T + C)) (nI src) y := fun y hy => by
      unfold p_MO_isAsked_37 f_MO_isAsked_37
      rw [nI_clamp (n := j) (by omega), e36, k0, if_pos rfl]
      exact ⟨⟨vj, fun _ => (K _ y hy).1, fun q => absurd rfl q⟩, rfl⟩
    obtain ⟨pA, fA⟩ := p37 0 (Or.inl rfl)
    obtain ⟨pB, fB⟩ := p37 1 (Or.inr rfl)
    have others : ∀ f, (f = 2 ∨ f = 4 ∨ f = 5 ∨ f = 6) → Q (67 + 7 * j) f ≠ -1 → f = 2 := fun f hf hne => by
      rcases hf with rfl | rfl | rfl | rfl
      · rfl
      · exact absurd k1 hne
      · exact absurd k2 hne
      · exact absurd k3 hne
    by_cases q2 : Q (67 + 7 * j) 2 = -1
    · rw [if_pos q2, fA, (K0 _).2]
      refine ⟨⟨vj, vj, fun _ => pA, fun q => absurd q2 q⟩, ?_⟩
      rw [noc]
      constructor
      · rintro ⟨-, r⟩ (t | ⟨f, hf, t1, t2⟩)
        · exact r t
        · rw [others f hf t1] at t1; exact t1 q2
      · exact fun q => ⟨rfl, fun t => q (Or.inl t)⟩
    · obtain ⟨o1, o2⟩ := O 2 (Or.inl rfl) q2
      rw [if_neg q2]
      by_cases q3 : f_MO_originOf s (nI src) (Q (67 + 7 * j) 2) = nI (6 * T + C)
      · rw [if_pos q3, fB]
        refine ⟨⟨vj, vj, fun q => absurd q q2, fun _ => ⟨vj, o1, fun _ => pB, fun q => absurd q3 q⟩⟩, ?_⟩
        exact ⟨fun q => absurd q (K1n _), fun q => absurd (Or.inr ⟨2, Or.inl rfl, o2.mp q3⟩) q⟩
      · rw [if_neg q3, fA, (K0 _).2]
        refine ⟨⟨vj, vj, fun q => absurd q q2, fun _ => ⟨vj, o1, fun q => absurd q q3, fun _ => pA⟩⟩, ?_⟩
        rw [noc]
        constructor
        · rintro ⟨-, r⟩ (t | ⟨f, hf, t1, t2⟩)
          · exact r t
          · have := others f hf t1
            subst this
            exact q3 (o2.mpr ⟨t1, t2⟩)
        · exact fun q => ⟨rfl, fun t => q (Or.inl t)⟩
  · -- gathered
    have hw := (q_sw_le w qw f3).1
    have es : src' = src := by
      have := e1'.symm.trans f1
      exact (nI_eq (by omega) (by omega)).mp this
    rw [es] at b8 b9
    have m4 : Q (67 + 7 * j) 4 ≠ -1 := by rw [b6]; exact q_m1_ne (by omega)
    have m6 : Q (67 + 7 * j) 6 ≠ -1 := by rw [b7]; exact q_m1_ne (by omega)
    have hk : ¬ Q (67 + 7 * j) 0 = 0 := by
      rcases b10 with ⟨q, -⟩ | ⟨q, -⟩ <;> rw [q] <;> decide
    have m5 : Q (67 + 7 * j) 0 = 2 → Q (67 + 7 * j) 5 ≠ -1 := fun q => by
      rcases b10 with ⟨q2, -⟩ | ⟨-, sec, q2, q3⟩
      · rw [q] at q2; exact absurd q2 (by decide)
      · rw [es] at q3
        rw [q2]; exact q_m1_ne (by omega)
    obtain ⟨o1, o2⟩ := O 4 (Or.inr (Or.inl rfl)) m4
    obtain ⟨o3, o4⟩ := O 6 (Or.inr (Or.inr (Or.inr rfl))) m6
    have O5 := fun q => O 5 (Or.inr (Or.inr (Or.inl rfl))) (m5 q)
    rw [if_pos b1]
    unfold p_MO_isAsked_37 f_MO_isAsked_37 p_MO_isAsked_103 f_MO_isAsked_103 p_MO_isAsked_107 f_MO_isAsked_107 p_MO_isAsked_108 f_MO_isAsked_108
    rw [nI_clamp (n := j) (by omega), e36, (e40 hk).1, (e40 hk).2, if_neg hk]
    refine ⟨⟨vj, vj, fun _ => ⟨vj, fun q => absurd q hk, fun _ => ⟨vj, o1, fun _ => (K1 _).1, fun _ => ⟨vj, o3, fun _ => (K1 _).1, fun _ => ⟨vj, fun q => ⟨vj, by rw [e41 q]; exact (O5 q).1, fun _ => (K1 _).1, fun _ => (K0 _).1⟩, fun _ => (K0 _).1⟩⟩⟩⟩, fun q => absurd b1 q⟩, ?_⟩
    by_cases q4 : f_MO_originOf s (nI src) (Q (67 + 7 * j) 4) = nI (6 * T + C)
    · rw [if_pos q4]
      exact ⟨fun q => absurd q (K1n _), fun q => absurd (Or.inr ⟨4, Or.inr (Or.inl rfl), o2.mp q4⟩) q⟩
    rw [if_neg q4]
    by_cases q6 : f_MO_originOf s (nI src) (Q (67 + 7 * j) 6) = nI (6 * T + C)
    · rw [if_pos q6]
      exact ⟨fun q => absurd q (K1n _), fun q => absurd (Or.inr ⟨6, Or.inr (Or.inr (Or.inr rfl)), o4.mp q6⟩) q⟩
    rw [if_neg q6]
    rcases b10 with ⟨k1, k5⟩ | ⟨k2, -⟩
    · have n2 : ¬ Q (67 + 7 * j) 0 = 2 := by rw [k1]; decide
      rw [if_neg n2, (K0 _).2, noc]
      constructor
      · rintro ⟨-, r⟩ (t | ⟨f, rfl | rfl | rfl | rfl, t1, t2⟩)
        · exact r t
        · exact t1 b1
        · exact q4 (o2.mpr ⟨t1, t2⟩)
        · exact t1 k5
        · exact q6 (o4.mpr ⟨t1, t2⟩)
      · exact fun q => ⟨rfl, fun t => q (Or.inl t)⟩
    · rw [if_pos k2, e41 k2]
      by_cases q5 : f_MO_originOf s (nI src) (Q (67 + 7 * j) 5) = nI (6 * T + C)
      · rw [if_pos q5]
        exact ⟨fun q => absurd q (K1n _), fun q => absurd (Or.inr ⟨5, Or.inr (Or.inr (Or.inl rfl)), (O5 k2).2.mp q5⟩) q⟩
      · rw [if_neg q5, (K0 _).2, noc]
        constructor
        · rintro ⟨-, r⟩ (t | ⟨f, rfl | rfl | rfl | rfl, t1, t2⟩)
          · exact r t
          · exact t1 b1
          · exact q4 (o2.mpr ⟨t1, t2⟩)
          · exact q5 ((O5 k2).2.mpr ⟨t1, t2⟩)
          · exact q6 (o4.mpr ⟨t1, t2⟩)
        · exact fun q => ⟨rfl, fun t => q (Or.inl t)⟩
end

noncomputable section
-- questions are made and get conditions
/-- a question stays good where what it is made of stays -/
theorem q_q1_e {A Q P : am_M} {j : Nat} (h4 : q_nt A ≤ 4) (h7 : ∀ i, i ≤ j → ∀ b, b ≠ 12 → P (67 + 7 * i) b = Q (67 + 7 * i) b) (h8 : ∀ i, i ≤ j → P (68 + 7 * i) = Q (68 + 7 * i) ∧ P (69 + 7 * i) = Q (69 + 7 * i)) (hg : Q (67 + 7 * j) 0 ≠ 0 → P (67 + 7 * j) 12 = Q (67 + 7 * j) 12) (hc : Q (67 + 7 * j) 0 = 0 → ∀ w, Q (67 + 7 * j) 7 = nI w → w ≤ 6 * (j + 2) → (∃ m, Q (67 + 7 * j) 12 = nI m ∧ m ≤ 6 ∧ ∀ i, i < m → ∃ l c r, l < 3 ∧ c < w ∧ r < 4 ∧ Q (70 + 7 * j) i = nI l ∧ Q (71 + 7 * j) i = nI c ∧ Q (72 + 7 * j) i = nI r ∧ -999999 ≤ (Q (73 + 7 * j) i).toInt ∧ (Q (73 + 7 * j) i).toInt ≤ 999999) → (∃ m, P (67 + 7 * j) 12 = nI m ∧ m ≤ 6 ∧ ∀ i, i < m → ∃ l c r, l < 3 ∧ c < w ∧ r < 4 ∧ P (70 + 7 * j) i = nI l ∧ P (71 + 7 * j) i = nI c ∧ P (72 + 7 * j) i = nI r ∧ -999999 ≤ (P (73 + 7 * j) i).toInt ∧ (P (73 + 7 * j) i).toInt ≤ 999999)) (h : q_q1 A Q j) : q_q1 A P j := by
  obtain ⟨⟨src, s1, s2, s3⟩, s4, s5⟩ := h
  have e8 := (h8 j (Nat.le_refl _)).1
  have e9 := (h8 j (Nat.le_refl _)).2
  have e7 : ∀ b, b ≠ 12 → P (67 + 7 * j) b = Q (67 + 7 * j) b := h7 j (Nat.le_refl _)
  have hs : src < 10 ∨ (10 ≤ src ∧ src - 10 < j) := by
    rcases s2 with g | g
    · exact Or.inl (by omega)
    · exact Or.inr (by omega)
  have hso : ∀ c, q_so P src c = q_so Q src c := fun c => by
    unfold q_so
    by_cases q : src < 10
    · rw [if_pos q, if_pos q]
    · rw [if_neg q, if_neg q, (h8 (src - 10) (by omega)).1]
  have hsp : ∀ c, q_sp P src c = q_sp Q src c := fun c => by
    unfold q_sp
    by_cases q : src < 10
    · rw [if_pos q, if_pos q]
    · rw [if_neg q, if_neg q, (h8 (src - 10) (by omega)).2]
  have hsn : q_sn P src = q_sn Q src := by
    unfold q_sn
    by_cases q : src < 10
    · rw [if_pos q, if_pos q]
    · rw [if_neg q, if_neg q, h7 (src - 10) (by omega) 9 (by omega)]
  have hsw : q_sw A P src = q_sw A Q src := by
    unfold q_sw
    by_cases q : src < 10
    · rw [if_pos q, if_pos q]
    · rw [if_neg q, if_neg q, h7 (src - 10) (by omega) 7 (by omega)]
  refine ⟨⟨src, by rw [e7 1 (by omega)]; exact s1, ?_, ?_⟩, ?_, ?_⟩
  · rcases s2 with g | ⟨g1, g2, g3⟩
    · exact Or.inl g
    · exact Or.inr ⟨g1, g2, by rw [h7 (src - 10) (by omega) 0 (by omega)]; exact g3⟩
  · rcases s3 with ⟨k0, k1, k2, k3, u, w, n, a1, a2, a3, a4, a5, a6, a7, a8, a9⟩ | ⟨g1, g2, g3, g4, g5, key, val, g6, g7, g8, g9, g10⟩
    · refine Or.inl ⟨by rw [e7 0 (by omega)]; exact k0, by rw [e7 4 (by omega)]; exact k1, by rw [e7 5 (by omega)]; exact k2, by rw [e7 6 (by omega)]; exact k3, u, w, n, by rw [e7 8 (by omega)]; exact a1, by rw [e7 7 (by omega)]; exact a2, by rw [e7 9 (by omega)]; exact a3, by rw [hsw]; exact a4, a5, a6, fun c hc' => ?_, ?_, hc k0 w a2 a5 a9⟩
      · rw [e8, e9, hso, hsp]; exact a7 c hc'
      · rw [e7 2 (by omega), e7 3 (by omega), e8, e9, hsn]
        simp only [hso]
        exact a8
    · refine Or.inr ⟨by rw [e7 2 (by omega)]; exact g1, by rw [e7 7 (by omega)]; exact g2, by rw [e7 9 (by omega)]; exact g3, ?_, by rw [e8]; exact g5, key, val, by rw [e7 4 (by omega)]; exact g6, by rw [e7 6 (by omega)]; exact g7, by rw [hsw]; exact g8, by rw [hsw]; exact g9, by rw [e7 0 (by omega), e7 5 (by omega), hsw]; exact g10⟩
      rw [hg (by
        rcases g10 with ⟨q, -⟩ | ⟨q, -⟩ <;> rw [q] <;> decide)]
      exact g4
  · rw [e8]; exact s4
  · rw [e8, e9, e7 9 (by omega)]; exact s5
theorem pu_asked {c : Nat} {s t : am_M} {Z : Nat → am_M} {P : am_M} (hP : ∀ i, pu_P i s) (hZ : ∀ j, pu_X c j s Z) (hf : pu_fr (· ∈ [0, 11]) s t) (x5 : q_x5 t (Z 6) P) (hq : q_nq (Z 11) ≤ q_nq P ∧ ∀ q, q < q_nq (Z 11) → P (67 + 7 * q) 0 = Z 11 (67 + 7 * q) 0 ∧ P (67 + 7 * q) 7 = Z 11 (67 + 7 * q) 7) : pu_R c t := by
  have x6 : q_x6 s (Z 6) (Z 11) (Z 12) := hZ 6
  refine pu_keepX (J := [0, 11]) (Y := pu_up Z 11 P) hP hZ hf (fun i hi => pu_up_o (fun q => hi (by rw [q]; decide))) (fun i hi => ?_) (fun i hi => ?_)
  · have e : i = 0 ∨ i = 11 := by simpa using hi
    rcases e with rfl | rfl <;> exact trivial
  · have e : i ∈ [5, 6] := hi
    have e : i = 5 ∨ i = 6 := by simpa using e
    rcases e with rfl | rfl
    · show q_x5 _ (pu_up Z 11 _ 6) (pu_up Z 11 _ 11)
      rw [pu_up_s, pu_up_o (by decide)]; exact x5
    · show q_x6 _ (pu_up Z 11 _ 6) (pu_up Z 11 _ 11) (pu_up Z 11 _ 12)
      rw [pu_up_s, pu_up_o (by decide), pu_up_o (by decide)]
      exact q_x6_up (fun a b q => hf a b (by rw [q]; decide)) (Nat.le_refl _) hq x6
-- sources
def q_isS (A Q : am_M) (src : Nat) : Prop := src < q_nt A ∨ (10 ≤ src ∧ src < 10 + q_nq Q)
theorem q_10s {x : Int32} {j : Nat} (e : x - 10 = nI j) : x = nI (10 + j) := by
  have e2 : x - 10 + 10 = x := Int32.sub_add_cancel x 10
  rw [← e2, e, Nat.add_comm]; exact nI_add j 10
theorem q_10m {j : Nat} (h : 10 ≤ j) : nI j - (10 : Int32) = nI (j - 10) := by
  have := q_subI (j - 10) 10
  rw [show j - 10 + 10 = j from by omega] at this; exact this
theorem qa_wantS {s A Q : am_M} (cd : q_cd s A) (w : q_wd A) (qc : q_qc s Q) (qw : q_qw A Q) (x : Int32) : p_CB_wantSource s x ∧ ((f_CB_wantSource s x = 1 ∧ ¬ ∃ src, x = nI src ∧ q_isS A Q src) ∨ (f_CB_wantSource s x = 0 ∧ ∃ src, x = nI src ∧ q_isS A Q src)) := by
  have h8 := qw.1.2
  have h4 := w.1.2
  have hT := qd_wantT cd w x
  have hQ := qa_wantQ qc qw (x - 10)
  refine ⟨⟨fun _ _ => trivial, fun _ _ => trivial⟩, ?_⟩
  unfold f_CB_wantSource
  rw [hT, hQ]
  by_cases c : x < 10
  · rw [if_pos c]
    rcases q_isT_c w x with g | ⟨g, T, hT4, rfl⟩
    · rw [g, if_pos rfl]
      refine Or.inl ⟨rfl, ?_⟩
      rintro ⟨src, rfl, hs⟩
      rcases hs with hs | ⟨hs1, hs2⟩
      · unfold q_isT at g
        rw [q_in_1 hs (by omega)] at g
        exact absurd g (by decide)
      · exact absurd c (qu_10 hs1 (by omega))
    · rw [g, if_neg i10]
      exact Or.inr ⟨rfl, T, rfl, Or.inl hT4⟩
  · rw [if_neg c]
    rcases q_in_c (q_nq Q) (by omega) (x - 10) with g | ⟨g, j, hj, e⟩
    · rw [g, if_pos rfl]
      refine Or.inl ⟨rfl, ?_⟩
      rintro ⟨src, rfl, hs⟩
      rcases hs with hs | ⟨hs1, hs2⟩
      · exact absurd (qt_10 (by omega)) c
      · rw [q_10m hs1, q_in_1 (show src - 10 < q_nq Q by omega) (by omega)] at g
        exact absurd g (by decide)
    · rw [g, if_neg i10]
      exact Or.inr ⟨rfl, 10 + j, q_10s e, Or.inr ⟨by omega, by omega⟩⟩
theorem qm_isS {t A Q : am_M} (md : q_md t A) (w : q_wd A) (qm : q_qm t Q) (qw : q_qw A Q) (x : Int32) : p_MO_isSource t x ∧ ((f_MO_isSource t x = 0 ∧ ¬ ∃ src, x = nI src ∧ q_isS A Q src) ∨ (f_MO_isSource t x = 1 ∧ ∃ src, x = nI src ∧ q_isS A Q src)) := by
  have h8 := qw.1.2
  have h4 := w.1.2
  have hT := qd_isT md w x
  obtain ⟨pq, hq⟩ := qm_isQ qm qw (x - 10)
  unfold p_MO_isSource f_MO_isSource
  rw [hT, hq]
  refine ⟨⟨qd_pisT _ _, fun _ => ⟨pq, fun _ => trivial, fun _ => trivial⟩, fun _ => trivial⟩, ?_⟩
  rcases q_isT_c w x with g | ⟨g, T, hT4, rfl⟩
  · rw [g, if_pos rfl]
    rcases q_in_c (q_nq Q) (by omega) (x - 10) with k | ⟨k, j, hj, e⟩
    · rw [k, if_pos rfl]
      refine Or.inl ⟨rfl, ?_⟩
      rintro ⟨src, rfl, hs⟩
      rcases hs with hs | ⟨hs1, hs2⟩
      · unfold q_isT at g
        rw [q_in_1 hs (by omega)] at g
        exact absurd g (by decide)
      · rw [q_10m hs1, q_in_1 (show src - 10 < q_nq Q by omega) (by omega)] at k
        exact absurd k (by decide)
    · rw [k, if_neg i10]
      exact Or.inr ⟨rfl, 10 + j, q_10s e, Or.inr ⟨by omega, by omega⟩⟩
  · rw [g, if_neg i10]
    exact Or.inr ⟨rfl, T, rfl, Or.inl hT4⟩
theorem qd_width {s A : am_M} (cd : q_cd s A) {t : Nat} (ht : t < 4) : p_BA_widthOf s (nI t) ∧ f_BA_widthOf s (nI t) = A 208 t := by
  unfold p_BA_widthOf f_BA_widthOf
  rw [if_neg (qz (by omega)), if_pos (qt_4 ht), nI_clamp (n := t) (by omega), cd.2.1 t ht]
  exact ⟨⟨fun _ => trivial, fun _ => ⟨fun _ => ⟨vp_in_nI (by omega) (by omega), trivial⟩, fun _ => trivial⟩⟩, rfl⟩
theorem qa_wantSC {s A R Q : am_M} (cd : q_cd s A) (w : q_wd A) (wr : q_wr A R) (cb : q_cb s 9 10 11 R) (qc : q_qc s Q) (qw : q_qw A Q) {src : Nat} (hs : q_isS A Q src) (x2 : Int32) : p_CB_wantSourceColumn s (nI src) x2 ∧ ∃ e t, f_CB_wantSourceColumn s (nI src) x2 = (e, t) ∧ q_out s t (fun a b => q_FD a b ∨ a = 66) ∧ ((e = 1 ∧ ¬ ∃ c, x2 = nI c ∧ c < q_wx A R Q src) ∨ (e = 0 ∧ ∃ c, x2 = nI c ∧ c < q_wx A R Q src)) := by
  have h8 := qw.1.2
  have h4 := w.1.2
  have hs' : src < 4 ∨ (10 ≤ src ∧ src < 10 + q_nq Q) := by unfold q_isS at hs; omega
  have hwx := q_wx_le (R := R) w qw hs'
  -- the test of the column
  have tst : ∀ t : am_M, ∃ e, (if x2 < 0 then ((1 : Nat), t) else (if x2 < nI (q_wx A R Q src) then (0, t) else (1, t))) = (e, t) ∧ ((e = 1 ∧ ¬ ∃ c, x2 = nI c ∧ c < q_wx A R Q src) ∨ (e = 0 ∧ ∃ c, x2 = nI c ∧ c < q_wx A R Q src)) := fun t => by
    rcases pk_ix x2 (n := q_wx A R Q src) (by omega) with c2 | c2 | ⟨c, hc, rfl⟩
    · rw [if_pos c2]
      refine ⟨1, rfl, Or.inl ⟨rfl, ?_⟩⟩
      rintro ⟨c, rfl, hcw⟩
      exact absurd c2 (qz (by omega))
    · have c3 : ¬ x2 < 0 := fun q => by
        rw [Int32.lt_iff_toInt_lt] at q
        rw [Int32.le_iff_toInt_le, nI_toInt (by omega)] at c2
        have z : (0 : Int32).toInt = 0 := by decide
        omega
      have c4 : ¬ x2 < nI (q_wx A R Q src) := fun q => by
        rw [Int32.lt_iff_toInt_lt] at q
        rw [Int32.le_iff_toInt_le] at c2
        omega
      rw [if_neg c3, if_neg c4]
      refine ⟨1, rfl, Or.inl ⟨rfl, ?_⟩⟩
      rintro ⟨c, rfl, h⟩
      exact absurd c2 (nI_ge h (by omega))
    · rw [if_neg (qz (by omega)), if_pos (nI_lt hc (by omega))]
      exact ⟨0, rfl, Or.inr ⟨rfl, c, rfl, hc⟩⟩
  unfold p_CB_wantSourceColumn f_CB_wantSourceColumn
  by_cases h : src < 10
  · have c1 : nI src < (10 : Int32) := qt_10 h
    obtain ⟨d1, d2⟩ := qd_width cd (show src < 4 by omega)
    have ew : A 208 src = nI (q_wx A R Q src) := by
      unfold q_wx; rw [if_pos h]; exact (w.2.1 src (by omega)).1
    rw [if_pos c1, d2, ew]
    obtain ⟨e, e1, e2⟩ := tst s
    exact ⟨⟨fun _ => ⟨d1, fun _ => trivial, fun _ => ⟨fun _ => trivial, fun _ => trivial⟩⟩, fun q => absurd c1 q⟩, e, s, e1, fun _ _ _ => rfl, e2⟩
  · have c1 : ¬ nI src < (10 : Int32) := qu_10 (by omega) (by omega)
    obtain ⟨F1, t, F2, F3, -⟩ := qa_width cd w wr cb qc qw (show src - 10 < q_nq Q by omega)
    rw [if_neg c1, q_10m (by omega), F2]
    rw [show 10 + (src - 10) = src from by omega]
    dsimp only
    obtain ⟨e, e1, e2⟩ := tst t
    exact ⟨⟨fun q => absurd q c1, fun _ => ⟨F1, fun _ => trivial, fun _ => ⟨fun _ => trivial, fun _ => trivial⟩⟩⟩, e, t, e1, F3, e2⟩
/-- is a source a cross question? -/
def q_xS (Q : am_M) (src : Nat) : Prop := 10 ≤ src ∧ Q (67 + 7 * (src - 10)) 0 = 2
theorem qa_noX {s A Q : am_M} (w : q_wd A) (qc : q_qc s Q) (qw : q_qw A Q) {src : Nat} (hs : q_isS A Q src) : p_CB_wantNoCross s (nI src) ∧ ((f_CB_wantNoCross s (nI src) = 2 ∧ q_xS Q src) ∨ (f_CB_wantNoCross s (nI src) = 0 ∧ ¬ q_xS Q src)) := by
  have h8 := qw.1.2
  have h4 := w.1.2
  unfold p_CB_wantNoCross f_CB_wantNoCross
  unfold q_isS at hs
  by_cases h : src < 10
  · have c1 : nI src < (10 : Int32) := qt_10 h
    rw [if_pos c1]
    exact ⟨⟨fun _ => trivial, fun q => absurd c1 q⟩, Or.inr ⟨rfl, fun q => by have := q.1; omega⟩⟩
  · have c1 : ¬ nI src < (10 : Int32) := qu_10 (by omega) (by omega)
    obtain ⟨Q1, Q2⟩ := qa_q s (show src - 10 < 8 by omega)
    rw [if_neg c1, q_10m (by omega), Q2, qc.2 _ (by omega) (by omega)]
    refine ⟨⟨fun q => absurd q c1, fun _ => ⟨Q1, ⟨by omega, (qa_sh (by omega)).1⟩, fun _ => trivial, fun _ => trivial⟩⟩, ?_⟩
    by_cases q : Q (67 + 7 * (src - 10)) 0 = 2
    · rw [if_pos q]; exact Or.inl ⟨rfl, by omega, q⟩
    · rw [if_neg q]; exact Or.inr ⟨rfl, fun q2 => q q2.2⟩
theorem qm_isX {t A Q : am_M} (w : q_wd A) (qm : q_qm t Q) (qw : q_qw A Q) {src : Nat} (hs : q_isS A Q src) : p_MO_isCross t (nI src) ∧ ((f_MO_isCross t (nI src) = 1 ∧ q_xS Q src) ∨ (f_MO_isCross t (nI src) = 0 ∧ ¬ q_xS Q src)) := by
  have h8 := qw.1.2
  have h4 := w.1.2
  obtain ⟨pq, hq⟩ := qm_isQ qm qw (nI src - 10)
  unfold p_MO_isCross f_MO_isCross
  rw [hq]
  unfold q_isS at hs
  by_cases h : src < 10
  · have g : q_in (q_nq Q) (nI src - 10) = 0 := by
      rcases q_in_c (q_nq Q) (by omega) (nI src - 10) with g | ⟨-, j, hj, e⟩
      · exact g
      · have := (nI_eq (by omega) (by omega)).mp (q_10s e)
        omega
    rw [g, if_pos rfl]
    exact ⟨⟨pq, fun _ => trivial, fun q => absurd rfl q⟩, Or.inr ⟨rfl, fun q => by have := q.1; omega⟩⟩
  · rw [q_10m (by omega), q_in_1 (show src - 10 < q_nq Q by omega) (by omega), if_neg i10, nI_clamp (n := src - 10) (by omega), (qm.2 (src - 10) (by omega)).1]
    rw [q_10m (by omega)] at pq
    refine ⟨⟨pq, fun q => absurd q i10, fun _ => ⟨vp_in_nI (by omega) (by omega), fun _ => trivial, fun _ => trivial⟩⟩, ?_⟩
    by_cases q : Q (67 + 7 * (src - 10)) 0 = 2
    · rw [if_pos q]; exact Or.inl ⟨rfl, by omega, q⟩
    · rw [if_neg q]; exact Or.inr ⟨rfl, fun q2 => q q2.2⟩
theorem qa_qplace {s A Q : am_M} (qc : q_qc s Q) (qw : q_qw A Q) : f_CB_wantQuestionPlace s = (if q_nq Q < 8 then 0 else 3) := by
  have h8 := qw.1.2
  have e : s 52 3 = nI (q_nq Q) := qc.1.trans qw.1.1
  unfold f_CB_wantQuestionPlace
  rw [e]
  by_cases c : q_nq Q < 8
  · rw [if_pos c, if_pos (qt_8 c)]
  · rw [if_neg c, if_neg (qu_8 (by omega) (by omega))]
end

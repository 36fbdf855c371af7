noncomputable section
theorem op_condition_ok {c d : Nat} (hcd : c ≤ d) : op_condition (pu_R c) (pu_R d) := by
  intro s a1 a2 a3 a4 a5 h
  replace h := h.mono hcd
  have h' := h
  obtain ⟨hP, Z, hZ⟩ := h
  obtain ⟨cd, oc, md, wd⟩ : q_x1 s (Z 6) := hZ 1
  obtain ⟨cb, mb, wr⟩ : q_x3 s (Z 6) (Z 8) := hZ 3
  obtain ⟨qc, qm, qw⟩ : q_x5 s (Z 6) (Z 11) := hZ 5
  have h8 := qw.1.2
  obtain ⟨pa, e, t1, W1, W2, W3⟩ := qa_wantC cd wd wr cb qc qw a1 a3
  have o1 := q_FD_LU (Q := Z 11) W2
  obtain ⟨cd1, md1, cb1, mb1, qc1, qm1⟩ := q_LU_all o1 qw cd md cb mb qc qm
  obtain ⟨E1, e2, t2, E2, E3, E4, E5⟩ := qm_errQ md1 wd wr mb1 qm1 qw a1 a3
  rcases W3 with ⟨rfl, hno⟩ | ⟨rfl, j, c0, rfl, rfl, hj, hc⟩
  · have := E4 hno
    subst this
    obtain ⟨F1, F2⟩ := qm_condE (x2 := a2) (x4 := a4) (x5 := a5) (by decide) E1 E2
    exact on_condition_1 (v := 0) (s1 := t1) (w := 0) (t := am_set t2 207 0 1) (by unfold f_CB_condition; rw [W1]; rfl) (by unfold p_CB_condition; rw [W1]; exact ⟨pa, fun q => absurd (show (1 : Nat) = 0 from q) (by decide)⟩) F1 F2 am_set_q (pu_look hP hZ (q_out_t o1 (q_out_t (q_LD_LU E3) q_207_LU)))
  have e5 := E5 j c0 rfl rfl hj hc
  obtain ⟨P1, P2⟩ := qa_plainQ qc1 (show j < 8 by omega)
  by_cases ck : Z 11 (67 + 7 * j) 0 = 0
  rotate_left
  · rw [if_neg ck] at P2 e5
    subst e5
    obtain ⟨F1, F2⟩ := qm_condE (x2 := a2) (x4 := a4) (x5 := a5) (by decide) E1 E2
    refine on_condition_2 (v := 0) (s1 := t1) (w := 0) (t := am_set t2 207 0 2) ?_ ?_ F1 F2 am_set_q (pu_look hP hZ (q_out_t o1 (q_out_t (q_LD_LU E3) q_207_LU)))
    · unfold f_CB_condition; rw [W1, if_pos rfl]
      dsimp only
      rw [P2]; rfl
    · unfold p_CB_condition; rw [W1]
      dsimp only
      rw [P2]
      exact ⟨pa, fun _ => ⟨P1, fun q => absurd (show (2 : Nat) = 0 from q) (by decide)⟩⟩
  rw [if_pos ck] at P2 e5
  subst e5
  obtain ⟨src, -, -, -, -, m, g1, g2, g3, g4⟩ := q_flds wd qw hj
  obtain ⟨Q1, Q2⟩ := qa_q t1 (show j < 8 by omega)
  have psh : 67 + 7 * j < 207 ∧ am_sh (67 + 7 * j) = (0, 4, 17) := ⟨by omega, (qa_sh (by omega)).1⟩
  have h12 : t1 (67 + 7 * j) 12 = nI m := by rw [qc1.2 _ (by omega) (by omega)]; exact g1
  have i6 : nI m < (6 : Int32) ↔ m < 6 := ⟨fun q => by
    by_cases c : m < 6
    · exact c
    · exact absurd q (qu_6 (by omega) (by omega)), fun q => qt_6 q⟩
  have pC : p_CB_condition s (nI j) a2 (nI c0) a4 a5 := by
    unfold p_CB_condition
    rw [W1]
    dsimp only
    rw [P2, Q2, h12]
    exact ⟨pa, fun _ => ⟨P1, fun _ => ⟨fun _ => trivial, fun _ => ⟨fun _ => trivial, fun _ => ⟨fun _ => trivial, fun _ => ⟨fun _ => trivial, fun _ => ⟨fun _ => trivial, fun _ => ⟨fun _ => ⟨Q1, psh, fun q => ⟨(qa_addC (show j < 8 by omega) (i6.mp q) h12 a2 (nI c0) a4 a5).1, trivial⟩, fun _ => trivial⟩, fun _ => trivial⟩⟩⟩⟩⟩⟩⟩⟩
  by_cases hok : q_cok a2 a4 a5
  rotate_left
  · obtain ⟨F1, F2⟩ := qm_condB hok E1 E2
    refine on_condition_2 (v := 0) (s1 := t1) (w := 0) (t := am_set t2 207 0 2) ?_ pC F1 F2 am_set_q (pu_look hP hZ (q_out_t o1 (q_out_t (q_LD_LU E3) q_207_LU)))
    unfold f_CB_condition
    rw [W1, if_pos rfl]
    dsimp only
    rw [P2, if_pos rfl]
    by_cases h1 : a2 < 0
    · rw [if_pos h1]
    rw [if_neg h1]
    by_cases h2 : (3 : Int32) ≤ a2
    · rw [if_pos h2]
    rw [if_neg h2]
    by_cases h3 : a4 < 0
    · rw [if_pos h3]
    rw [if_neg h3]
    by_cases h4 : (3 : Int32) < a4
    · rw [if_pos h4]
    rw [if_neg h4]
    by_cases h5 : a5 < (-999999 : Int32)
    · rw [if_pos h5]
    rw [if_neg h5]
    by_cases h6 : a5 ≤ (999999 : Int32)
    · exact absurd ⟨h1, h2, h3, h4, h5, h6⟩ hok
    rw [if_neg h6]
  have hok' := hok
  obtain ⟨h1, h2, h3, h4, h5, h6⟩ := hok'
  have fC : f_CB_condition s (nI j) a2 (nI c0) a4 a5 = (if t1 (67 + 7 * j) 12 < (6 : Int32) then (0, (f_QU_addCondition t1 (67 + 7 * j) a2 (nI c0) a4 a5).1, (f_QU_addCondition t1 (67 + 7 * j) a2 (nI c0) a4 a5).2) else (3, 0, t1)) := by
    unfold f_CB_condition
    rw [W1, if_pos rfl]
    dsimp only
    rw [P2, if_pos rfl, if_neg h1, if_neg h2, if_neg h3, if_neg h4, if_neg h5, if_pos h6, Q2]
  have i6' : t1 (67 + 7 * j) 12 < (6 : Int32) ↔ m < 6 := by rw [h12]; exact i6
  have e43 : ∀ u : am_M, q_qm u (Z 11) → u 243 j = nI m := fun u q => by
    obtain ⟨-, -, -, -, -, -, e43, -⟩ := q.2 j hj
    exact e43.trans g1
  have qm2 := q_LD_qm h8 E3 qm1
  by_cases c6 : m < 6
  rotate_left
  · rw [if_neg (fun q => c6 (i6'.mp q))] at fC
    obtain ⟨F1, F2⟩ := qm_condG (show j < 8 by omega) g3 (e43 t2 qm2) hok E1 E2
    rw [if_neg c6] at F2
    exact on_condition_3 (v := 0) (s1 := t1) (w := 0) (t := am_set t2 207 0 3) fC pC F1 F2 am_set_q (pu_look hP hZ (q_out_t o1 (q_out_t (q_LD_LU E3) q_207_LU)))
  clear E1 E2 E3 E4 E5 t2 qm2
  obtain ⟨D1, D2⟩ := qa_addC (show j < 8 by omega) c6 h12 a2 (nI c0) a4 a5
  rw [if_pos (i6'.mpr c6), D2] at fC
  -- the model
  have ou : q_out t1 (am_set (q_ac9 t1 j m a2 (nI c0) a4 a5) 262 0 (nI (m + 1))) (fun a b => (67 + 7 * j ≤ a ∧ a ≤ 73 + 7 * j) ∨ a = 262) := fun a b q => by
    rw [am_set_p (by omega), q_ac9_o (by omega) (by omega)]
  have mdU := q_md_out ou (fun a b q => by omega) md1
  have mbU := q_mb_out ou (fun a b q => by omega) mb1
  have qmU := q_qm_out h8 ou (fun a b q => by omega) qm1
  have ouc : ∀ a, 67 ≤ a → a ≤ 122 → am_set (q_ac9 t1 j m a2 (nI c0) a4 a5) 262 0 (nI (m + 1)) a = q_ac9 (Z 11) j m a2 (nI c0) a4 a5 a := fun a q1 q2 => by
    rw [am_set_o (by omega)]; exact q_ac9_c (qc1.2 a q1 q2)
  have w262 : am_set (q_ac9 t1 j m a2 (nI c0) a4 a5) 262 0 (nI (m + 1)) 262 0 = nI (m + 1) := am_set_q
  have w52 : am_set (q_ac9 t1 j m a2 (nI c0) a4 a5) 262 0 (nI (m + 1)) 52 3 = Z 11 52 3 := by rw [ou _ _ (by omega)]; exact qc1.1
  obtain ⟨E1, e2, t2, E2, E3, -, E5⟩ := qm_errQ mdU wd wr mbU qmU qw (nI j) (nI c0)
  have e5 := E5 j c0 rfl rfl hj hc
  rw [if_pos ck] at e5
  subst e5
  have qm2 := q_LD_qm h8 E3 qmU
  obtain ⟨F1, F2⟩ := qm_condG (show j < 8 by omega) g3 (e43 t2 qm2) hok E1 E2
  rw [if_pos c6] at F2
  generalize hu : am_set (q_ac9 t1 j m a2 (nI c0) a4 a5) 262 0 (nI (m + 1)) = u at *
  have oV : ∀ a b, (a ≠ 243 ∨ b ≠ j) → (¬ (244 ≤ a ∧ a ≤ 247) ∨ b ≠ 6 * j + m) → ¬ (a = 207 ∧ b = 0) → q_am9 (am_set t2 207 0 0) j m a2 (nI c0) a4 a5 a b = t2 a b := fun a b q1 q2 q3 => by
    rw [q_am9_o q1 q2, am_set_p (by omega)]
  have vV := @q_am9_v (am_set t2 207 0 0) j m a2 (nI c0) a4 a5
  have z0 : q_am9 (am_set t2 207 0 0) j m a2 (nI c0) a4 a5 207 0 = 0 := by rw [q_am9_o (by omega) (by omega), am_set_q]
  generalize q_am9 (am_set t2 207 0 0) j m a2 (nI c0) a4 a5 = t at *
  have l0 : ∀ b, ¬ q_LD (Z 11) 262 b := fun b q => by have := q_LD_w q; omega
  obtain ⟨⟨l, hl, rfl⟩, ⟨r, hr, rfl⟩, hv1, hv2⟩ := q_cok_v hok
  obtain ⟨V1, V2, V3, V4, V5⟩ := @q_ac9_v (Z 11) j m (nI l) (nI c0) (nI r) a5
  have oP : ∀ a b, (a ≠ 67 + 7 * j ∨ b ≠ 12) → (¬ (70 + 7 * j ≤ a ∧ a ≤ 73 + 7 * j) ∨ b ≠ m) → q_ac9 (Z 11) j m (nI l) (nI c0) (nI r) a5 a b = Z 11 a b := fun a b q1 q2 => q_ac9_o q1 q2
  generalize q_ac9 (Z 11) j m (nI l) (nI c0) (nI r) a5 = P at *
  have hwx : c0 < q_c (Z 11 (67 + 7 * j) 7) := by
    have e := q_wx_n (A := Z 6) (R := Z 8) (Q := Z 11) (src := 10 + j) (Or.inr (by rw [show 10 + j - 10 = j from by omega, ck]; decide))
    rw [e] at hc
    unfold q_sw at hc
    rw [if_neg (by omega), show 10 + j - 10 = j from by omega] at hc
    exact hc
  refine og_condition (hn := n9_nI (by first | omega | (have := qw.1.2; omega) | (have := wd.1.2; omega))) (v := nI (m + 1)) (s1 := q_ac9 t1 j m (nI l) (nI c0) (nI r) a5) (w := nI (m + 1)) (t := t) fC pC (by rw [hu]; exact F1) (by rw [hu]; exact F2) ?_ ?_ ?_
  · exact z0
  · rw [oV _ _ (by omega) (by omega) (by omega), E3 _ _ (l0 0)]; exact w262
  have enq : q_nq P = q_nq (Z 11) := by unfold q_nq; rw [oP 52 3 (by omega) (by omega)]
  have h4 := wd.1.2
  have oT : ∀ a b, a < 207 → t a b = u a b := fun a b q => by
    rw [oV a b (by omega) (by omega) (by omega), E3 a b (fun q2 => by have := q_LD_w q2; omega)]
  obtain ⟨vV1, vV2, vV3, vV4, vV5⟩ := vV
  refine pu_asked (P := P) hP hZ (fun a b hab => ?_) ⟨⟨?_, fun a q1 q2 => ?_⟩, ⟨?_, fun i hi => ?_⟩, ⟨?_, ?_⟩, fun i hi => ?_, fun i hi1 hi2 => ?_⟩ ⟨?_, fun q hq => ?_⟩
  · have n1 : ¬ q_LU (Z 11) a b := fun q => hab (q_LU_own q)
    have n2 : ¬ (67 ≤ a ∧ a ≤ 122) := fun q => hab (by rw [pu_own_11 (by omega)]; decide)
    have n3 : ¬ (236 ≤ a ∧ a ≤ 247) := fun q => hab (by rw [pu_own_11 (by omega)]; decide)
    have n4 : ¬ (a = 207 ∧ b = 0) := fun q => n1 (Or.inr (Or.inr (Or.inr (Or.inr q))))
    have n5 : ¬ (a = 262) := fun q => n1 (Or.inr (Or.inr (Or.inr (Or.inl q))))
    rw [oV a b (by omega) (by omega) n4, E3 a b (fun q => n1 (Or.inr (Or.inr (Or.inl q)))), ou a b (by omega), o1 a b n1]
  · rw [oT _ _ (by omega), w52, oP _ _ (by omega) (by omega)]
  · rw [← ouc a q1 q2]
    funext b
    exact oT a b (by omega)
  · rw [oV _ _ (by omega) (by omega) (by omega), oP _ _ (by omega) (by omega)]; exact qm2.1
  · rw [enq] at hi
    obtain ⟨f1, f2, f3, f4, f5, f6, f7, f8, f9, f10⟩ := qm2.2 i hi
    obtain ⟨-, -, -, -, -, m', g1', g2', g3', -⟩ := q_flds wd qw hi
    rw [g2'] at f8
    have k0 : P (67 + 7 * i) 0 = Z 11 (67 + 7 * i) 0 := oP _ _ (by omega) (by omega)
    refine ⟨?_, ?_, fun q => ?_, ?_, fun q => ⟨?_, ?_⟩, fun q => ?_, ?_, fun i' hi' => ?_, fun q => ?_, fun c hc' => ?_⟩
    · rw [oV _ _ (by omega) (by omega) (by omega), k0]; exact f1
    · rw [oV _ _ (by omega) (by omega) (by omega), oP _ _ (by omega) (by omega)]; exact f2
    · rw [oV _ _ (by omega) (by omega) (by omega), oP _ _ (by omega) (by omega)]; exact f3 (by rw [← k0]; exact q)
    · rw [oV _ _ (by omega) (by omega) (by omega), oP _ _ (by omega) (by omega)]; exact f4
    · rw [oV _ _ (by omega) (by omega) (by omega), oP _ _ (by omega) (by omega)]; exact (f5 (by rw [← k0]; exact q)).1
    · rw [oV _ _ (by omega) (by omega) (by omega), oP _ _ (by omega) (by omega)]; exact (f5 (by rw [← k0]; exact q)).2
    · rw [oV _ _ (by omega) (by omega) (by omega), oP _ _ (by omega) (by omega)]; exact f6 (by rw [← k0]; exact q)
    · by_cases e : i = j
      · rw [e]; exact vV1.trans V1.symm
      · rw [oV _ _ (by omega) (by omega) (by omega), oP _ _ (by omega) (by omega)]; exact f7
    · by_cases e : i = j
      · subst e
        have em : m' = m := (nI_eq (by omega) (by omega)).mp (g1'.symm.trans g1)
        have ec : q_c (P (67 + 7 * i) 12) = m + 1 := by rw [V1]; exact nI_clamp (by omega)
        rw [ec] at hi'
        by_cases e2 : i' = m
        · rw [e2]; exact ⟨vV2.trans V2.symm, vV3.trans V3.symm, vV4.trans V4.symm, vV5.trans V5.symm⟩
        · obtain ⟨d1, d2, d3, d4⟩ := f8 i' (by omega)
          refine ⟨?_, ?_, ?_, ?_⟩
          · rw [oV _ _ (by omega) (by omega) (by omega), oP _ _ (by omega) (by omega)]; exact d1
          · rw [oV _ _ (by omega) (by omega) (by omega), oP _ _ (by omega) (by omega)]; exact d2
          · rw [oV _ _ (by omega) (by omega) (by omega), oP _ _ (by omega) (by omega)]; exact d3
          · rw [oV _ _ (by omega) (by omega) (by omega), oP _ _ (by omega) (by omega)]; exact d4
      · have ec : q_c (P (67 + 7 * i) 12) = m' := by rw [oP _ _ (by omega) (by omega)]; exact g2'
        rw [ec] at hi'
        obtain ⟨d1, d2, d3, d4⟩ := f8 i' hi'
        refine ⟨?_, ?_, ?_, ?_⟩
        · rw [oV _ _ (by omega) (by omega) (by omega), oP _ _ (by omega) (by omega)]; exact d1
        · rw [oV _ _ (by omega) (by omega) (by omega), oP _ _ (by omega) (by omega)]; exact d2
        · rw [oV _ _ (by omega) (by omega) (by omega), oP _ _ (by omega) (by omega)]; exact d3
        · rw [oV _ _ (by omega) (by omega) (by omega), oP _ _ (by omega) (by omega)]; exact d4
    · rw [oV _ _ (by omega) (by omega) (by omega), oP _ _ (by omega) (by omega)]; exact f9 (by rw [← k0]; exact q)
    · rw [oV _ _ (by omega) (by omega) (by omega), oP _ _ (by omega) (by omega)]; exact f10 c hc'
  · rw [enq, oP _ _ (by omega) (by omega)]; exact qw.1.1
  · rw [enq]; exact h8
  · rw [enq] at hi
    refine q_q1_e h4 (fun i' _ b hb => oP _ _ (by omega) (by omega)) (fun i' _ => ⟨funext fun b => oP _ _ (by omega) (by omega), funext fun b => oP _ _ (by omega) (by omega)⟩) (fun q => ?_) (fun q w hw hw6 hcond => ?_) (qw.2.1 i hi)
    · refine oP _ _ ?_ (by omega)
      by_cases e : i = j
      · rw [e] at q; exact absurd ck q
      · omega
    · obtain ⟨m', c1, c2, c3⟩ := hcond
      by_cases e : i = j
      · subst e
        have em : m' = m := (nI_eq (by omega) (by omega)).mp (c1.symm.trans g1)
        have ew : q_c (Z 11 (67 + 7 * i) 7) = w := by rw [hw]; exact nI_clamp (by omega)
        rw [ew] at hwx
        refine ⟨m + 1, V1, by omega, fun i' hi' => ?_⟩
        by_cases e2 : i' = m
        · rw [e2]; exact ⟨l, c0, r, hl, hwx, hr, V2, V3, V4, by rw [V5]; exact hv1, by rw [V5]; exact hv2⟩
        · obtain ⟨l', c', r', d1, d2, d3, d4, d5, d6, d7, d8⟩ := c3 i' (by omega)
          exact ⟨l', c', r', d1, d2, d3, by rw [oP _ _ (by omega) (by omega)]; exact d4, by rw [oP _ _ (by omega) (by omega)]; exact d5, by rw [oP _ _ (by omega) (by omega)]; exact d6, by rw [oP _ _ (by omega) (by omega)]; exact d7, by rw [oP _ _ (by omega) (by omega)]; exact d8⟩
      · refine ⟨m', by rw [oP _ _ (by omega) (by omega)]; exact c1, c2, fun i' hi' => ?_⟩
        obtain ⟨l', c', r', d1, d2, d3, d4, d5, d6, d7, d8⟩ := c3 i' hi'
        exact ⟨l', c', r', d1, d2, d3, by rw [oP _ _ (by omega) (by omega)]; exact d4, by rw [oP _ _ (by omega) (by omega)]; exact d5, by rw [oP _ _ (by omega) (by omega)]; exact d6, by rw [oP _ _ (by omega) (by omega)]; exact d7, by rw [oP _ _ (by omega) (by omega)]; exact d8⟩
  · rw [enq] at hi1
    obtain ⟨d1, d2, d3, d4, d5, d6, d7, d8⟩ := qw.2.2 i hi1 hi2
    refine ⟨?_, ?_, ?_, ?_, ?_, ?_, ?_, fun c hc' => ⟨?_, ?_⟩⟩
    · rw [oP _ _ (by omega) (by omega)]; exact d1
    · rw [oP _ _ (by omega) (by omega)]; exact d2
    · rw [oP _ _ (by omega) (by omega)]; exact d3
    · rw [oP _ _ (by omega) (by omega)]; exact d4
    · rw [oP _ _ (by omega) (by omega)]; exact d5
    · rw [oP _ _ (by omega) (by omega)]; exact d6
    · rw [oP _ _ (by omega) (by omega)]; exact d7
    · rw [oP _ _ (by omega) (by omega)]; exact (d8 c hc').1
    · rw [oP _ _ (by omega) (by omega)]; exact (d8 c hc').2
  · rw [enq]; exact Nat.le_refl _
  · exact ⟨oP _ _ (by omega) (by omega), oP _ _ (by omega) (by omega)⟩
end

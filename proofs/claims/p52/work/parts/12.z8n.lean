noncomputable section
theorem q_LD_0 {Q s t : am_M} (h : q_out s t (q_LD Q)) : t 207 0 = s 207 0 ∧ t 262 0 = s 262 0 := ⟨h 207 0 (fun q => by have := q_LD_w q; omega), h 262 0 (fun q => by have := q_LD_w q; omega)⟩
theorem op_answers_ok {c d : Nat} (hcd : c ≤ d) : op_answers (pu_R c) (pu_R d) := by
  intro s a1 h
  replace h := h.mono hcd
  have h' := h
  obtain ⟨hP, Z, hZ⟩ := h
  obtain ⟨cd, oc, md, wd⟩ : q_x1 s (Z 6) := hZ 1
  obtain ⟨cb, mb, wr⟩ : q_x3 s (Z 6) (Z 8) := hZ 3
  obtain ⟨qc, qm, qw⟩ : q_x5 s (Z 6) (Z 11) := hZ 5
  have h8 := qw.1.2
  have hQ := qa_wantQ qc qw a1
  obtain ⟨pq, hm⟩ := qm_isQ qm qw a1
  rcases q_in_c (q_nq (Z 11)) (by omega) a1 with g | ⟨g, j, hj, rfl⟩
  · rw [g, if_pos rfl] at hQ
    rw [g] at hm
    have e1 := pr_holds1 s (x := 1) (by decide)
    refine on_answers_1 (v := 0) (s1 := s) (w := 0) (t := am_set s 207 0 1) (by unfold f_CB_answers; rw [hQ]; rfl) (by unfold p_CB_answers; rw [hQ]; exact fun q => absurd q (by decide)) ?_ ?_ am_set_q (pu_R_thrown h')
    · unfold p_MO_answers p_MO_answers_14; rw [hm, e1]; exact ⟨pq, fun _ => ⟨fun _ => trivial, fun q => absurd rfl q⟩, fun q => absurd rfl q⟩
    · unfold f_MO_answers f_MO_answers_14; rw [hm, e1, if_pos rfl, if_pos rfl]
  rw [g, if_neg i10] at hQ
  obtain ⟨F1, t1, F2, F3, F4⟩ := qa_find cd wd wr cb qc qw hj
  have o1 := q_FD_LU (Q := Z 11) F3
  have o2 := q_out_t o1 (q_out_t (q_262_LU (v := nI (q_sh (Z 8) (Z 11) (10 + j)).length)) (q_207_LU (v := 0)))
  have hv0 : am_set (am_set t1 262 0 (nI (q_sh (Z 8) (Z 11) (10 + j)).length)) 207 0 0 207 0 = 0 := am_set_q
  have hv2 : am_set (am_set t1 262 0 (nI (q_sh (Z 8) (Z 11) (10 + j)).length)) 207 0 0 262 0 = nI (q_sh (Z 8) (Z 11) (10 + j)).length := (am_set_p (by omega)).trans am_set_q
  have oU := q_out_t o1 (q_262_LU (v := nI (q_sh (Z 8) (Z 11) (10 + j)).length))
  obtain ⟨-, -, -, -, -, qmU⟩ := q_LU_all oU qw cd md cb mb qc qm
  obtain ⟨-, mdV, -, mbV, -, qmV⟩ := q_LU_all o2 qw cd md cb mb qc qm
  obtain ⟨pqU, hmU⟩ := qm_isQ qmU qw (nI j)
  rw [g] at hmU
  obtain ⟨L1, t2, L2, L3, L4⟩ := qm_lays_q mdV wd wr mbV qmV qw hj
  have esl : q_sl (10 + j) = j := by unfold q_sl; rw [if_neg (by omega)]; omega
  have hval := L4.1
  rw [esl] at hval
  have e0 := pr_holds0 (am_set t1 262 0 (nI (q_sh (Z 8) (Z 11) (10 + j)).length))
  obtain ⟨z1, z2⟩ := q_LD_0 L3
  refine og_answers (v := nI (q_sh (Z 8) (Z 11) (10 + j)).length) (s1 := t1) (w := nI (q_sh (Z 8) (Z 11) (10 + j)).length) (t := t2) (by unfold f_CB_answers; rw [hQ, F2]; rfl) (by unfold p_CB_answers; rw [hQ]; exact fun _ => ⟨F1, trivial⟩) ?_ ?_ (z1.trans hv0) (z2.trans hv2) (pu_look hP hZ (q_out_t o2 (q_LD_LU L3)))
  · unfold p_MO_answers p_MO_answers_14
    rw [hmU, e0]
    exact ⟨pqU, fun q => absurd q i10, fun _ => ⟨fun q => absurd q i10, fun _ => ⟨L1, vp_in_nI (by omega) (by omega), trivial⟩⟩⟩
  · unfold f_MO_answers f_MO_answers_14
    rw [hmU, e0, if_neg i10, if_neg i10]
    dsimp only
    rw [L2, nI_clamp (n := j) (by omega), hval]
/-- the class's width of a question -/
theorem qa_width {s A R Q : am_M} (cd : q_cd s A) (w : q_wd A) (wr : q_wr A R) (cb : q_cb s 9 10 11 R) (qc : q_qc s Q) (qw : q_qw A Q) {j : Nat} (hj : j < q_nq Q) : p_AS_widthOf s (nI j) ∧ ∃ t, f_AS_widthOf s (nI j) = (nI (q_wx A R Q (10 + j)), t) ∧ q_out s t (fun a b => q_FD a b ∨ a = 66) ∧ (Q (67 + 7 * j) 0 = 2 → q_csh A R Q t (10 + j)) := by
  have h8 := qw.1.2
  obtain ⟨Q1, Q2⟩ := qa_q s (show j < 8 by omega)
  have psh : 67 + 7 * j < 207 ∧ am_sh (67 + 7 * j) = (0, 4, 17) := ⟨by omega, (qa_sh (by omega)).1⟩
  have hk : s (67 + 7 * j) 0 = Q (67 + 7 * j) 0 := by rw [qc.2 _ (by omega) (by omega)]
  have h7 : s (67 + 7 * j) 7 = Q (67 + 7 * j) 7 := by rw [qc.2 _ (by omega) (by omega)]
  unfold p_AS_widthOf f_AS_widthOf
  rw [Q2, hk, h7]
  by_cases k2 : Q (67 + 7 * j) 0 = 2
  · obtain ⟨F1, t, F2, F3, F4⟩ := qa_find cd w wr cb qc qw hj
    rw [if_pos k2, F2]
    dsimp only
    rw [F4.2.1]
    exact ⟨⟨Q1, psh, fun _ => ⟨F1, trivial⟩, fun q => absurd k2 q⟩, t, rfl, F3, fun _ => F4⟩
  · have e : Q (67 + 7 * j) 7 = nI (q_wx A R Q (10 + j)) := by
      unfold q_wx q_fI
      rw [if_neg (by omega), show 10 + j - 10 = j from by omega, if_neg k2]
      obtain ⟨x, -, -, -, -, -, x6⟩ := q_q1_src w qw hj
      rcases x6 with ⟨-, -, -, -, u, W, n, -, a2, -, -, a5, -⟩ | ⟨-, a2, -⟩
      · rw [a2, q_cI (n := W) (by omega)]
      · rw [a2, q_cI (n := 5) (by omega)]
    rw [if_neg k2, e]
    exact ⟨⟨Q1, psh, fun q => absurd q k2, fun _ => trivial⟩, s, rfl, fun _ _ _ => rfl, fun q => absurd q k2⟩
theorem op_columns_ok {c d : Nat} (hcd : c ≤ d) : op_columns (pu_R c) (pu_R d) := by
  intro s a1 h
  replace h := h.mono hcd
  have h' := h
  obtain ⟨hP, Z, hZ⟩ := h
  obtain ⟨cd, oc, md, wd⟩ : q_x1 s (Z 6) := hZ 1
  obtain ⟨cb, mb, wr⟩ : q_x3 s (Z 6) (Z 8) := hZ 3
  obtain ⟨qc, qm, qw⟩ : q_x5 s (Z 6) (Z 11) := hZ 5
  have h8 := qw.1.2
  have hQ := qa_wantQ qc qw a1
  obtain ⟨pq, hm⟩ := qm_isQ qm qw a1
  rcases q_in_c (q_nq (Z 11)) (by omega) a1 with g | ⟨g, j, hj, rfl⟩
  · rw [g, if_pos rfl] at hQ
    rw [g] at hm
    have e1 := pr_holds1 s (x := 1) (by decide)
    refine on_columns_1 (v := 0) (s1 := s) (w := 0) (t := am_set s 207 0 1) (by unfold f_CB_columns; rw [hQ]; rfl) (by unfold p_CB_columns; rw [hQ]; exact fun q => absurd q (by decide)) ?_ ?_ am_set_q (pu_R_thrown h')
    · unfold p_MO_columns p_MO_columns_14; rw [hm, e1]; exact ⟨pq, fun _ => ⟨fun _ => trivial, fun q => absurd rfl q⟩, fun q => absurd rfl q⟩
    · unfold f_MO_columns f_MO_columns_14; rw [hm, e1, if_pos rfl, if_pos rfl]
  rw [g, if_neg i10] at hQ
  obtain ⟨F1, t1, F2, F3, -⟩ := qa_width cd wd wr cb qc qw hj
  have o1 := q_FD_LU (Q := Z 11) F3
  have o2 := q_out_t o1 (q_out_t (q_262_LU (v := nI (q_wx (Z 6) (Z 8) (Z 11) (10 + j)))) (q_207_LU (v := 0)))
  have hv0 : am_set (am_set t1 262 0 (nI (q_wx (Z 6) (Z 8) (Z 11) (10 + j)))) 207 0 0 207 0 = 0 := am_set_q
  have hv2 : am_set (am_set t1 262 0 (nI (q_wx (Z 6) (Z 8) (Z 11) (10 + j)))) 207 0 0 262 0 = nI (q_wx (Z 6) (Z 8) (Z 11) (10 + j)) := (am_set_p (by omega)).trans am_set_q
  have oU := q_out_t o1 (q_262_LU (v := nI (q_wx (Z 6) (Z 8) (Z 11) (10 + j))))
  obtain ⟨-, -, -, -, -, qmU⟩ := q_LU_all oU qw cd md cb mb qc qm
  obtain ⟨-, mdV, -, mbV, -, qmV⟩ := q_LU_all o2 qw cd md cb mb qc qm
  obtain ⟨pqU, hmU⟩ := qm_isQ qmU qw (nI j)
  rw [g] at hmU
  obtain ⟨L1, t2, L2, L3, L4⟩ := qm_lays_q mdV wd wr mbV qmV qw hj
  have esl : q_sl (10 + j) = j := by unfold q_sl; rw [if_neg (by omega)]; omega
  have hval := L4.2.1
  rw [esl] at hval
  have e0 := pr_holds0 (am_set t1 262 0 (nI (q_wx (Z 6) (Z 8) (Z 11) (10 + j))))
  obtain ⟨z1, z2⟩ := q_LD_0 L3
  refine og_columns (v := nI (q_wx (Z 6) (Z 8) (Z 11) (10 + j))) (s1 := t1) (w := nI (q_wx (Z 6) (Z 8) (Z 11) (10 + j))) (t := t2) (by unfold f_CB_columns; rw [hQ, F2]; rfl) (by unfold p_CB_columns; rw [hQ]; exact fun _ => ⟨F1, trivial⟩) ?_ ?_ (z1.trans hv0) (z2.trans hv2) (pu_look hP hZ (q_out_t o2 (q_LD_LU L3)))
  · unfold p_MO_columns p_MO_columns_14
    rw [hmU, e0]
    exact ⟨pqU, fun q => absurd q i10, fun _ => ⟨fun q => absurd q i10, fun _ => ⟨L1, vp_in_nI (by omega) (by omega), trivial⟩⟩⟩
  · unfold f_MO_columns f_MO_columns_14
    rw [hmU, e0, if_neg i10, if_neg i10]
    dsimp only
    rw [L2, nI_clamp (n := j) (by omega), hval]
theorem op_answer_ok {c d : Nat} (hcd : c ≤ d) : op_answer (pu_R c) (pu_R d) := by
  intro s a1 a2 a3 h
  replace h := h.mono hcd
  have h' := h
  obtain ⟨hP, Z, hZ⟩ := h
  obtain ⟨cd, oc, md, wd⟩ : q_x1 s (Z 6) := hZ 1
  obtain ⟨cb, mb, wr⟩ : q_x3 s (Z 6) (Z 8) := hZ 3
  obtain ⟨qc, qm, qw⟩ : q_x5 s (Z 6) (Z 11) := hZ 5
  have h8 := qw.1.2
  obtain ⟨pa, e, t1, A1, A2, A3⟩ := qa_wantA cd wd wr cb qc qw a1 a2 a3
  have o1 := q_FD_LU (Q := Z 11) A2
  rcases A3 with ⟨rfl, hno⟩ | ⟨rfl, j, i, k, rfl, rfl, rfl, hj, hi, hk, F4⟩
  · obtain ⟨-, md1, -, mb1, -, qm1⟩ := q_LU_all o1 qw cd md cb mb qc qm
    obtain ⟨pm, v, t2, B1, B2, B3⟩ := qm_isA md1 wd wr mb1 qm1 qw a1 a2 a3
    rcases B3 with ⟨rfl, -⟩ | ⟨rfl, j, i, k, e1, e2, e3, hj, hi, hk, -⟩
    rotate_left
    · exact absurd ⟨j, i, k, e1, e2, e3, hj, hi, hk⟩ hno
    have e1 := pr_holds1 t2 (x := 1) (by decide)
    refine on_answer_1 (v := 0) (s1 := t1) (w := 0) (t := am_set t2 207 0 1) (by unfold f_CB_answer; rw [A1]; rfl) (by unfold p_CB_answer; rw [A1]; exact ⟨pa, fun q => absurd (show (1 : Nat) = 0 from q) (by decide)⟩) ?_ ?_ am_set_q (pu_look hP hZ (q_out_t o1 (q_out_t (q_LD_LU B2) q_207_LU)))
    · unfold p_MO_answer p_MO_answer_16; rw [B1, e1]; exact ⟨pm, fun _ => ⟨fun _ => trivial, fun q => absurd rfl q⟩, fun q => absurd rfl q⟩
    · unfold f_MO_answer f_MO_answer_16; rw [B1, if_pos rfl]; dsimp only; rw [e1, if_pos rfl]
  · have hlen := q_sh_len (R := Z 8) wd qw (10 + j) (by omega)
    have hwx := q_wx_le (R := Z 8) wd qw (src := 10 + j) (Or.inr ⟨by omega, by omega⟩)
    have hget := qa_get t1 (show i < 30 by omega) (show k < 54 by omega)
    have hcell := (F4.2.2.1 i hi).1 k hk
    rw [Nat.zero_add] at hcell
    rw [hcell] at hget
    generalize hV : ((q_sh (Z 8) (Z 11) (10 + j)).getD i q_A0).1 k = V at *
    have oU := q_out_t o1 (q_262_LU (v := V))
    obtain ⟨-, mdU, -, mbU, -, qmU⟩ := q_LU_all oU qw cd md cb mb qc qm
    obtain ⟨pm, v, t2, B1, B2, B3⟩ := qm_isA mdU wd wr mbU qmU qw (nI j) (nI i) (nI k)
    rcases B3 with ⟨rfl, hno⟩ | ⟨rfl, j', i', k', e1, e2, e3, hj', hi', hk', M4⟩
    · exact absurd ⟨j, i, k, rfl, rfl, rfl, hj, hi, hk⟩ hno
    obtain rfl : j = j' := (nI_eq (by omega) (by omega)).mp e1
    have esl : q_sl (10 + j) = j := by unfold q_sl; rw [if_neg (by omega)]; omega
    have hm := (M4.2.2.1 i hi k hk).1
    rw [esl, Nat.zero_add, hV] at hm
    have e0 := pr_holds0 t2
    have ix : (1620 : Int32) * nI j + (54 : Int32) * nI i + nI k = nI (1620 * j + 54 * i + k) := by rw [qw_1620, qw_54, nI_add, nI_add]
    have ht : am_set t2 207 0 0 250 (1620 * j + 54 * i + k) = V := (am_set_p (by omega)).trans hm
    refine og_answer (v := V) (s1 := t1) (w := V) (t := am_set t2 207 0 0) (by unfold f_CB_answer; rw [A1, if_pos rfl]; dsimp only; rw [hget.2]) (by unfold p_CB_answer; rw [A1]; exact ⟨pa, fun _ => ⟨hget.1, trivial⟩⟩) ?_ ?_ am_set_q (by rw [am_set_p (by omega), (q_LD_0 B2).2, am_set_q]) (pu_look hP hZ (q_out_t oU (q_out_t (q_LD_LU B2) q_207_LU)))
    · unfold p_MO_answer p_MO_answer_16; rw [B1, e0, ix]; exact ⟨pm, fun q => absurd q i10, fun _ => ⟨fun q => absurd q i10, fun _ => ⟨vp_in_nI (by omega) (by omega), trivial⟩⟩⟩
    · unfold f_MO_answer f_MO_answer_16
      rw [B1, if_neg i10]
      dsimp only
      rw [e0, if_neg i10, ix, nI_clamp (n := 1620 * j + 54 * i + k) (by omega)]
      dsimp only
      rw [ht]
end

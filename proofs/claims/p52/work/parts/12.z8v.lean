noncomputable section
-- steps that have a column of a plain question
theorem qm_errQ {s A R Q : am_M} (md : q_md s A) (w : q_wd A) (wr : q_wr A R) (mb : q_mb s R) (qm : q_qm s Q) (qw : q_qw A Q) (x1 x2 : Int32) : p_MO_errorOfQuestion s x1 x2 ∧ ∃ e t, f_MO_errorOfQuestion s x1 x2 = (e, t) ∧ q_out s t (q_LD Q) ∧ (¬ q_gC A R Q x1 x2 → e = 1) ∧ ∀ j c, x1 = nI j → x2 = nI c → j < q_nq Q → c < q_wx A R Q (10 + j) → e = if Q (67 + 7 * j) 0 = 0 then 0 else 2 := by
  have h8 := qw.1.2
  obtain ⟨p1, hQ⟩ := qm_isQ qm qw x1
  unfold p_MO_errorOfQuestion f_MO_errorOfQuestion
  rw [hQ]
  rcases q_in_c (q_nq Q) (by omega) x1 with g | ⟨g, j, hj, rfl⟩
  · rw [g, if_pos rfl]
    refine ⟨⟨p1, fun _ => trivial, fun q => absurd rfl q⟩, 1, s, rfl, fun _ _ _ => rfl, fun _ => rfl, fun j c e1 _ hj _ => ?_⟩
    rw [e1, q_in_1 hj (by omega)] at g
    exact absurd g (by decide)
  rw [g, if_neg i10]
  obtain ⟨ph, v, t, B1, B2, B3, B4⟩ := qm_hasC md w wr mb qm qw (nI j + 10) x2
  have qmT := q_LD_qm h8 B2 qm
  rw [B1, nI_clamp (n := j) (by omega)]
  rcases B4 with ⟨rfl, hno⟩ | ⟨rfl, src, c, e1, rfl, e3, e4⟩
  · rw [if_pos rfl]
    refine ⟨⟨p1, fun q => absurd q i10, fun _ => ⟨ph, fun _ => trivial, fun q => absurd rfl q⟩⟩, 1, t, rfl, B2, fun _ => rfl, fun j' c e1 e2 hj' hc => ?_⟩
    exact absurd ((q_gC_S w qw).mp ⟨j', c, e1, e2, hj', hc⟩).2 hno
  · rw [if_neg i10]
    have hk : t 236 j = Q (67 + 7 * j) 0 := (qmT.2 j hj).1
    have v8 : vp_in (nI j) 8 := vp_in_nI (by omega) (by omega)
    have es : src = 10 + j := by
      have e10 : nI j + (10 : Int32) = nI (10 + j) := by rw [Nat.add_comm]; exact nI_add j 10
      rw [e10] at e1
      have h4 := w.1.2
      exact ((nI_eq (by omega) (by omega)).mp e1).symm
    dsimp only
    refine ⟨⟨p1, fun q => absurd q i10, fun _ => ⟨ph, fun q => absurd q i10, fun _ => ⟨v8, fun _ => trivial, fun _ => trivial⟩⟩⟩, (if Q (67 + 7 * j) 0 = 0 then 0 else 2), t, ?_, B2, fun q => absurd ⟨j, c, rfl, rfl, hj, by rw [← es]; exact e4⟩ q, fun j' c' e1 e2 hj' hc => ?_⟩
    · by_cases c9 : Q (67 + 7 * j) 0 = 0
      · rw [if_pos (hk.trans c9), if_pos c9]
      · rw [if_neg (fun q => c9 (hk.symm.trans q)), if_neg c9]
    · have : j = j' := (nI_eq (by omega) (by omega)).mp e1
      rw [← this]
theorem qa_plainQ {t Q : am_M} (qc : q_qc t Q) {j : Nat} (hj : j < 8) : p_CB_wantPlain t (nI j) ∧ f_CB_wantPlain t (nI j) = (if Q (67 + 7 * j) 0 = 0 then 0 else 2) := by
  obtain ⟨Q1, Q2⟩ := qa_q t hj
  unfold p_CB_wantPlain f_CB_wantPlain
  rw [Q2, qc.2 _ (by omega) (by omega)]
  exact ⟨⟨Q1, ⟨by omega, (qa_sh hj).1⟩, fun _ => trivial, fun _ => trivial⟩, rfl⟩
theorem qm_es39 (s : am_M) (x1 x2 x3 x4 x5 y : Int32) (h : y ≠ 0) : p_MO_errorOfStep_39 s x1 x2 x3 x4 x5 y ∧ f_MO_errorOfStep_39 s x1 x2 x3 x4 x5 y = (y, s) := by
  unfold p_MO_errorOfStep_39 f_MO_errorOfStep_39
  rw [if_neg h]
  exact ⟨⟨fun q => absurd q h, fun _ => trivial⟩, rfl⟩
theorem qm_es18 (s : am_M) (x1 x2 x3 x4 y : Int32) (h : y ≠ 0) : p_MO_errorOfStep_18 s x1 x2 x3 x4 y ∧ f_MO_errorOfStep_18 s x1 x2 x3 x4 y = (y, s) := by
  obtain ⟨h1, h2⟩ := qm_es39 s x1 x2 x3 x4 y y h
  unfold p_MO_errorOfStep_18 f_MO_errorOfStep_18 p_MO_errorOfStep_37 f_MO_errorOfStep_37
  rw [if_neg h]
  exact ⟨⟨fun q => absurd q h, fun _ => h1⟩, h2⟩
/-- the model finds what is wrong with a step -/
theorem qm_errS1 {s A R Q : am_M} (md : q_md s A) (w : q_wd A) (wr : q_wr A R) (mb : q_mb s R) (qm : q_qm s Q) (qw : q_qw A Q) {x1 x2 x3 x4 : Int32} {n : Nat} (ha : p_MO_isAct s x1 ∧ f_MO_isAct s x1 = q_in n x1) (h : q_in n x1 = 0 ∨ ¬ q_gC A R Q x2 x3) : p_MO_errorOfStep s x1 x2 x3 x4 ∧ ∃ t, f_MO_errorOfStep s x1 x2 x3 x4 = (1, t) ∧ q_out s t (q_LD Q) := by
  obtain ⟨ha1, ha2⟩ := ha
  unfold p_MO_errorOfStep f_MO_errorOfStep
  rw [ha2]
  by_cases c : q_in n x1 = 0
  · obtain ⟨h1, h2⟩ := qm_es18 s x1 x2 x3 x4 1 (by decide)
    rw [if_pos c]
    exact ⟨⟨ha1, fun _ => h1, fun q => absurd c q⟩, s, h2, fun _ _ _ => rfl⟩
  · obtain ⟨p1, e, t, E1, E2, E3, -⟩ := qm_errQ md w wr mb qm qw x2 x3
    have := E3 (h.resolve_left c)
    subst this
    obtain ⟨h1, h2⟩ := qm_es18 t x1 x2 x3 x4 1 (by decide)
    rw [if_neg c, E1]
    exact ⟨⟨ha1, fun q => absurd q c, fun _ => ⟨p1, h1⟩⟩, t, h2, E2⟩
theorem qm_errS2 {s A R Q : am_M} (md : q_md s A) (w : q_wd A) (wr : q_wr A R) (mb : q_mb s R) (qm : q_qm s Q) (qw : q_qw A Q) {j k q0 c : Nat} {x4 : Int32} (ha : p_MO_isAct s (nI j) ∧ f_MO_isAct s (nI j) = 1) (hj : j < 4) (h255 : s 255 j = nI k) (hk : k ≤ 6) (hq : q0 < q_nq Q) (hc : c < q_wx A R Q (10 + q0)) : p_MO_errorOfStep s (nI j) (nI q0) (nI c) x4 ∧ ∃ t, f_MO_errorOfStep s (nI j) (nI q0) (nI c) x4 = ((if Q (67 + 7 * q0) 0 = 0 then (if f_MO_isNumber s x4 = 0 then 2 else if k < 6 then 0 else 3) else 2), t) ∧ q_out s t (q_LD Q) := by
  obtain ⟨ha1, ha2⟩ := ha
  unfold p_MO_errorOfStep f_MO_errorOfStep
  rw [ha2, if_neg i10]
  obtain ⟨p1, e, t, E1, E2, -, E4⟩ := qm_errQ md w wr mb qm qw (nI q0) (nI c)
  have e4 := E4 q0 c rfl rfl hq hc
  have t255 : t 255 j = nI k := by rw [E2 _ _ (fun q => by have := q_LD_w q; omega)]; exact h255
  rw [E1]
  dsimp only
  by_cases ck : Q (67 + 7 * q0) 0 = 0
  · rw [if_pos ck] at e4 ⊢
    subst e4
    have vj : vp_in (nI j) 4 := vp_in_nI hj (by omega)
    have en : f_MO_isNumber t x4 = f_MO_isNumber s x4 := rfl
    unfold p_MO_errorOfStep_18 f_MO_errorOfStep_18
    rw [en, if_pos rfl]
    by_cases cn : f_MO_isNumber s x4 = 0
    · obtain ⟨h1, h2⟩ := qm_es39 t (nI j) (nI q0) (nI c) x4 0 2 (by decide)
      rw [if_pos cn, if_pos cn]
      exact ⟨⟨ha1, fun q => absurd q i10, fun _ => ⟨p1, fun _ => ⟨fun _ => h1, fun q => absurd cn q⟩, fun q => absurd rfl q⟩⟩, t, h2, E2⟩
    · rw [if_neg cn, if_neg cn]
      unfold p_MO_errorOfStep_37 f_MO_errorOfStep_37 p_MO_errorOfStep_39 f_MO_errorOfStep_39
      rw [if_pos rfl, nI_clamp (n := j) (by omega), t255]
      refine ⟨⟨ha1, fun q => absurd q i10, fun _ => ⟨p1, fun _ => ⟨fun q => absurd q cn, fun _ => ⟨fun _ => ⟨vj, fun _ => trivial, fun _ => trivial⟩, fun _ => trivial⟩⟩, fun q => absurd rfl q⟩⟩, t, ?_, E2⟩
      by_cases c6 : k < 6
      · rw [if_pos c6, if_neg (fun q => by have := (qe_6 (by omega)).mp q; omega)]
      · rw [if_neg c6, if_pos ((qe_6 (by omega)).mpr (by omega))]
  · rw [if_neg ck] at e4 ⊢
    subst e4
    obtain ⟨h1, h2⟩ := qm_es18 t (nI j) (nI q0) (nI c) x4 2 (by decide)
    exact ⟨⟨ha1, fun q => absurd q i10, fun _ => ⟨p1, h1⟩⟩, t, h2, E2⟩
end

noncomputable section
theorem op_stepRemove_ok {c d : Nat} (hcd : c ≤ d) : op_stepRemove (pu_R c) (pu_R d) := by
  intro s a1 a2 a3 h
  replace h := h.mono hcd
  have h' := h
  obtain ⟨hP, Z, hZ⟩ := h
  obtain ⟨cd, oc, md, wd⟩ : q_x1 s (Z 6) := hZ 1
  obtain ⟨cb, mb, wr⟩ : q_x3 s (Z 6) (Z 8) := hZ 3
  obtain ⟨qc, qm, qw⟩ : q_x5 s (Z 6) (Z 11) := hZ 5
  obtain ⟨vc, vm, vw⟩ : q_x6 s (Z 6) (Z 11) (Z 12) := hZ 6
  have h8 := qw.1.2
  have h4 := wd.1.2
  obtain ⟨n, n4, A1, A2, A3⟩ := qv_act h'.nact a1
  -- what is refused by the model
  have no : ∀ (u t : am_M) (y x1 x2 x3 x4 : Int32), y ≠ 0 → x4 = 0 → p_MO_errorOfStep u x1 x2 x3 x4 → f_MO_errorOfStep u x1 x2 x3 x4 = (y, t) → p_MO_stepRemove u x1 x2 x3 ∧ f_MO_stepRemove u x1 x2 x3 = (0, am_set t 207 0 y) := fun u t y x1 x2 x3 x4 hy e9 hp hf => by
    subst e9
    unfold p_MO_stepRemove f_MO_stepRemove
    rw [hf]
    dsimp only
    rw [pr_holds1 t hy]
    exact ⟨⟨hp, fun _ => trivial, fun q => absurd rfl q⟩, rfl⟩
  rcases q_in_c n (by omega) a1 with g | ⟨g, j, hj, rfl⟩
  · rw [g, if_pos rfl] at A1
    obtain ⟨E1, t, E2, E3⟩ := qm_errS1 (x2 := a2) (x3 := a3) (x4 := 0) md wd wr mb qm qw (A3 s rfl) (Or.inl g)
    obtain ⟨F1, F2⟩ := no s t 1 a1 a2 a3 0 (by decide) rfl E1 E2
    exact on_stepRemove_1 (v := 0) (s1 := s) (w := 0) (t := am_set t 207 0 1) (by unfold f_CB_stepRemove; rw [A1]; rfl) (by unfold p_CB_stepRemove; rw [A1]; exact fun q => absurd (show (1 : Nat) = 0 from q) (by decide)) F1 F2 am_set_q (pu_look hP hZ (q_out_t (q_LD_LU E3) q_207_LU))
  rw [g, if_neg i10] at A1
  obtain ⟨pa, e, t1, W1, W2, W3⟩ := qa_wantC cd wd wr cb qc qw a2 a3
  have o1 := q_FD_LU (Q := Z 11) W2
  obtain ⟨cd1, md1, cb1, mb1, qc1, qm1⟩ := q_LU_all o1 qw cd md cb mb qc qm
  have a60 : t1 207 60 = s 207 60 := o1 207 60 (fun q => by have := q_LU_w q; omega)
  have o12 : ∀ a b, (126 ≤ a ∧ a ≤ 181) ∨ (255 ≤ a ∧ a ≤ 260) → t1 a b = s a b := fun a b h => o1 a b (fun q => by have := q_LU_w q; omega)
  have A4 := A3 t1 a60
  rcases W3 with ⟨rfl, hno⟩ | ⟨rfl, q0, c0, rfl, rfl, hq, hc⟩
  · obtain ⟨E1, t, E2, E3⟩ := qm_errS1 (x4 := 0) md1 wd wr mb1 qm1 qw A4 (Or.inr hno)
    obtain ⟨F1, F2⟩ := no t1 t 1 (nI j) a2 a3 0 (by decide) rfl E1 E2
    exact on_stepRemove_1 (v := 0) (s1 := t1) (w := 0) (t := am_set t 207 0 1) (by unfold f_CB_stepRemove; rw [A1, if_pos rfl, W1]; rfl) (by unfold p_CB_stepRemove; rw [A1, W1]; exact fun _ => ⟨pa, fun q => absurd (show (1 : Nat) = 0 from q) (by decide)⟩) F1 F2 am_set_q (pu_look hP hZ (q_out_t o1 (q_out_t (q_LD_LU E3) q_207_LU)))
  rw [g] at A4
  obtain ⟨w1, w2, w3⟩ := vw j (by omega)
  obtain ⟨k, hk⟩ : ∃ k, k = q_c (Z 12 (126 + 14 * j) 1) := ⟨_, rfl⟩
  rw [← hk] at w1 w2 w3
  have hs : t1 (126 + 14 * j) 1 = nI k := by rw [o12 _ _ (by omega), vc _ (by omega) (by omega)]; exact w1
  have h255 : t1 255 j = nI k := by rw [o12 _ _ (by omega), (vm j (by omega)).1]; exact w1
  obtain ⟨P1, P2⟩ := qv_place (show j < 4 by omega) w2 hs
  obtain ⟨Q1, Q2⟩ := qa_plainQ qc1 (show q0 < 8 by omega)
  have vj : vp_in (nI j) 4 := vp_in_nI (by omega) (by omega)
  obtain ⟨E1, t, E2, E3⟩ := qm_errS2 (x4 := 0) md1 wd wr mb1 qm1 qw A4 (show j < 4 by omega) h255 w2 hq hc
  by_cases ck : Z 11 (67 + 7 * q0) 0 = 0
  rotate_left
  · rw [if_neg ck] at Q2 E2
    obtain ⟨F1, F2⟩ := no t1 t 2 (nI j) (nI q0) (nI c0) 0 (by decide) rfl E1 E2
    refine on_stepRemove_2 (v := 0) (s1 := t1) (w := 0) (t := am_set t 207 0 2) ?_ ?_ F1 F2 am_set_q (pu_look hP hZ (q_out_t o1 (q_out_t (q_LD_LU E3) q_207_LU)))
    · unfold f_CB_stepRemove; rw [A1, if_pos rfl, W1, if_pos rfl]
      dsimp only
      rw [Q2]; rfl
    · unfold p_CB_stepRemove; rw [A1, W1]
      dsimp only
      rw [Q2]
      exact fun _ => ⟨pa, fun _ => ⟨Q1, fun q => absurd (show (2 : Nat) = 0 from q) (by decide)⟩⟩
  rw [if_pos ck] at Q2 E2
  have v2 : f_MO_isNumber t1 0 = 1 := by unfold f_MO_isNumber f_MO_in; decide
  have nz : ¬ f_MO_isNumber t1 0 = 0 := by rw [v2]; exact i10
  have hv := q_num_v v2
  rw [if_neg nz] at E2
  by_cases hk6 : k < 6
  rotate_left
  · rw [if_neg hk6] at P2 E2
    obtain ⟨F1, F2⟩ := no t1 t 3 (nI j) (nI q0) (nI c0) 0 (by decide) rfl E1 E2
    refine on_stepRemove_3 (v := 0) (s1 := t1) (w := 0) (t := am_set t 207 0 3) ?_ ?_ F1 F2 am_set_q (pu_look hP hZ (q_out_t o1 (q_out_t (q_LD_LU E3) q_207_LU)))
    · unfold f_CB_stepRemove; rw [A1, if_pos rfl, W1, if_pos rfl]
      dsimp only
      rw [Q2, if_pos rfl, P2]; rfl
    · unfold p_CB_stepRemove; rw [A1, W1]
      dsimp only
      rw [Q2, P2]
      exact fun _ => ⟨pa, fun _ => ⟨Q1, fun _ => ⟨P1, fun q => absurd (show (3 : Nat) = 0 from q) (by decide)⟩⟩⟩
  rw [if_pos hk6] at P2
  clear E1 E2 E3 t
  obtain ⟨l1, l2, -⟩ := qv_lk j (by omega)
  obtain ⟨D1, D2⟩ := qc_adds (show j < 4 by omega) hk6 hs 2 (nI q0) (nI c0) 0
  have ou : q_out t1 (am_set (q_cs9 t1 j k 2 (nI q0) (nI c0) 0) 262 0 (nI (k + 1))) (fun a _ => (126 ≤ a ∧ a ≤ 181) ∨ a = 262) := fun a b q => by
    rw [am_set_p (by omega), q_cs9_o (by omega) (by omega)]
  have mdU := q_md_out ou (fun a b q => by omega) md1
  have mbU := q_mb_out ou (fun a b q => by omega) mb1
  have qmU := q_qm_out h8 ou (fun a b q => by omega) qm1
  have A5 := A3 _ ((ou 207 60 (by omega)).trans a60)
  rw [g] at A5
  have e255 : am_set (q_cs9 t1 j k 2 (nI q0) (nI c0) 0) 262 0 (nI (k + 1)) 255 j = nI k := by rw [ou _ _ (by omega)]; exact h255
  have w262 : am_set (q_cs9 t1 j k 2 (nI q0) (nI c0) 0) 262 0 (nI (k + 1)) 262 0 = nI (k + 1) := am_set_q
  have ouc : ∀ a, 126 ≤ a → a ≤ 181 → am_set (q_cs9 t1 j k 2 (nI q0) (nI c0) 0) 262 0 (nI (k + 1)) a = q_cs9 (Z 12) j k 2 (nI q0) (nI c0) 0 a := fun a h1 h2 => by
    rw [am_set_o (by omega)]; exact q_cs9_c (by rw [← vc a h1 h2]; exact funext (fun b => o12 a b (Or.inl ⟨h1, h2⟩)))
  have hC : f_CB_stepRemove s (nI j) (nI q0) (nI c0) = (0, nI (k + 1), q_cs9 t1 j k 2 (nI q0) (nI c0) 0) := by
    unfold f_CB_stepRemove; rw [A1, if_pos rfl, W1, if_pos rfl]
    dsimp only
    rw [Q2, if_pos rfl, P2, if_pos rfl, nI_clamp (n := j) (by omega), l1, D2]
  have pC : p_CB_stepRemove s (nI j) (nI q0) (nI c0) := by
    unfold p_CB_stepRemove; rw [A1, W1]
    dsimp only
    rw [Q2, P2, nI_clamp (n := j) (by omega), l1]
    exact fun _ => ⟨pa, fun _ => ⟨Q1, fun _ => ⟨P1, fun _ => ⟨vj, l2, D1, trivial⟩⟩⟩⟩
  obtain ⟨E1, t3, E2, E3⟩ := qm_errS2 (x4 := 0) mdU wd wr mbU qmU qw A5 (show j < 4 by omega) e255 w2 hq hc
  generalize hu : am_set (q_cs9 t1 j k 2 (nI q0) (nI c0) 0) 262 0 (nI (k + 1)) = u at *
  have nzU : ¬ f_MO_isNumber u 0 = 0 := nz
  rw [if_pos ck, if_neg nzU, if_pos hk6] at E2
  have x255 : am_set t3 207 0 0 255 j = nI k := by rw [am_set_p (by omega), E3 _ _ (fun q => by have := q_LD_w q; omega)]; exact e255
  obtain ⟨M1, t, M2, M3, M4, M5, M6, M7, M8, M9⟩ := qm_adds (u := am_set t3 207 0 0) (show j < 4 by omega) hk6 x255 2 (nI q0) (nI c0) 0
  obtain ⟨V1, V2, V3, V4, V5⟩ := @q_cs9_v (Z 12) j k 2 (nI q0) (nI c0) 0
  refine og_stepRemove (hn := n9_nI (by first | omega | (have := qw.1.2; omega) | (have := wd.1.2; omega))) (v := nI (k + 1)) (s1 := q_cs9 t1 j k 2 (nI q0) (nI c0) 0) (w := nI (k + 1)) (t := t) hC pC ?_ ?_ ?_ ?_ ?_
  · rw [hu]
    unfold p_MO_stepRemove; rw [E2]
    dsimp only
    rw [pr_holds0 t3]
    exact ⟨E1, fun q => absurd q i10, fun _ => ⟨M1, trivial⟩⟩
  · rw [hu]
    unfold f_MO_stepRemove
    rw [E2]
    dsimp only
    rw [pr_holds0 t3]
    dsimp only
    rw [if_neg i10, M2]
  · rw [M3 _ _ (by omega), am_set_q]
  · rw [M3 _ _ (by omega), am_set_p (by omega), E3 _ _ (fun q => by have := q_LD_w q; omega)]; exact w262
  have hwx : c0 < q_c (Z 11 (67 + 7 * q0) 7) := by
    have e := q_wx_n (A := Z 6) (R := Z 8) (Q := Z 11) (src := 10 + q0) (Or.inr (by rw [show 10 + q0 - 10 = q0 from by omega, ck]; decide))
    rw [e] at hc
    unfold q_sw at hc
    rw [if_neg (by omega), show 10 + q0 - 10 = q0 from by omega] at hc
    exact hc
  have hadd := qv_add (s := s) (t := t) (V := Z 12) (W := q_cs9 (Z 12) j k 2 (nI q0) (nI c0) 0) (A := Z 6) (Q := Z 11) (show j < 4 by omega) hk6 w1 vm vw (fun a b q => q_cs9_o (by omega) (by omega)) V1 (Or.inl ⟨Or.inr V2, ⟨q0, c0, V3, hq, ck, V4, hwx⟩, by rw [V5]; exact hv⟩) (fun a b h1 h2 q => by rw [M3 a b q, am_set_p (by omega), E3 a b (fun q => by have := q_LD_w q; omega), ou a b (by omega), o12 a b (by omega)]) M4 (M5.trans V2.symm) (fun q => absurd (V2.symm.trans q) (by decide)) (fun _ => ⟨M6.trans V3.symm, M8.trans V5.symm⟩) (fun _ => M7.trans V4.symm)
  refine pu_step hP hZ (fun a b q => ?_) (fun a h1 h2 => ?_) hadd.1 hadd.2
  · have n0 : ¬ q_LU (Z 11) a b := fun q2 => q (Or.inl q2)
    have n1 : ¬ (a = 262) := fun q2 => n0 (Or.inr (Or.inr (Or.inr (Or.inl q2))))
    have n2 : ¬ (a = 207 ∧ b = 0) := fun q2 => n0 (Or.inr (Or.inr (Or.inr (Or.inr q2))))
    have n3 : ¬ ((126 ≤ a ∧ a ≤ 181) ∨ (255 ≤ a ∧ a ≤ 260)) := fun q2 => q (Or.inr q2)
    have n4 : ¬ q_LD (Z 11) a b := fun q2 => n0 (Or.inr (Or.inr (Or.inl q2)))
    rw [M3 a b (by omega), am_set_p (by omega), E3 a b n4, ou a b (by omega), o1 a b n0]
  · rw [← ouc a h1 h2]
    funext b
    rw [M3 a b (by omega), am_set_p (by omega), E3 a b (fun q => by have := q_LD_w q; omega)]
end

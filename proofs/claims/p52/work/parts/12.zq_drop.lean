noncomputable section
theorem op_drop_ok {c d : Nat} (hcd : c ≤ d) : op_drop (pu_R c) (pu_R d) := by
  intro s a1 a2 h
  replace h := h.mono hcd
  have h' := h
  obtain ⟨hP, Z, hZ⟩ := h
  obtain ⟨cd, oc, md, wd⟩ : q_x1 s (Z 6) := hZ 1
  obtain ⟨uc, um, uw⟩ := q_x2_p (hZ 2 : q_x2 s (Z 7))
  obtain ⟨cb, mb, wr⟩ : q_x3 s (Z 6) (Z 8) := hZ 3
  obtain ⟨qc, qm, qw⟩ : q_x5 s (Z 6) (Z 11) := hZ 5
  have h8 := qw.1.2
  have hT := qd_wantC cd wd a1 a2
  have d29 : ∀ (u : am_M) (y : Int32), y ≠ 0 → p_MO_drop_29 u a1 a2 y ∧ f_MO_drop_29 u a1 a2 y = (0, am_set u 207 0 y) := fun u y hy => by
    unfold p_MO_drop_29 f_MO_drop_29
    rw [pr_holds1 u hy]
    exact ⟨⟨fun _ => trivial, fun q => absurd rfl q⟩, rfl⟩
  rcases q_isC_c wd a1 a2 with g | ⟨g, T, C, ht, ht4, hc, hc6, rfl, rfl⟩
  · rw [g, if_pos rfl] at hT
    have hI := qd_isC md wd a1 a2
    rw [g] at hI
    refine on_drop_1 (v := 0) (s1 := s) (w := 0) (t := am_set s 207 0 1) (by unfold f_CB_drop; rw [hT]; rfl) (by unfold p_CB_drop; rw [hT]; exact ⟨qd_pwantC _ _ _, fun q => absurd (show (1 : Nat) = 0 from q) (by decide)⟩) ?_ ?_ am_set_q (pu_R_thrown h')
    · unfold p_MO_drop; rw [hI]; exact ⟨qd_pisC md wd _ _, fun _ => (d29 s 1 (by decide)).1, fun q => absurd rfl q⟩
    · unfold f_MO_drop; rw [hI, if_pos rfl]; exact (d29 s 1 (by decide)).2
  rw [g, if_neg i10] at hT
  have hI := qd_isC md wd (nI T) (nI C)
  rw [g] at hI
  have hN := qd_notD cd wd ht hc ht4 hc6
  by_cases k3 : Z 6 209 (6 * T + C) = 3
  · rw [if_pos k3] at hN
    obtain ⟨pk, hk⟩ := qd_kind md wd ht4 hc6
    refine on_drop_2 (v := 0) (s1 := s) (w := 0) (t := am_set s 207 0 2) (by unfold f_CB_drop; rw [hT, if_pos rfl, hN]; rfl) (by unfold p_CB_drop; rw [hT, hN]; exact ⟨qd_pwantC _ _ _, fun _ => ⟨qd_pnotD _ _ _, fun q => absurd (show (2 : Nat) = 0 from q) (by decide)⟩⟩) ?_ ?_ am_set_q (pu_R_thrown h')
    · unfold p_MO_drop; rw [hI, hk]; exact ⟨qd_pisC md wd _ _, fun q => absurd q i10, fun _ => ⟨pk, fun _ => (d29 s 2 (by decide)).1, fun q => absurd k3 q⟩⟩
    · unfold f_MO_drop; rw [hI, hk, if_neg i10, if_pos k3]; exact (d29 s 2 (by decide)).2
  rw [if_neg k3] at hN
  have dm : ∀ u : am_M, q_md u (Z 6) → (p_MO_drop_29 u (nI T) (nI C) 0 → p_MO_drop u (nI T) (nI C)) ∧ f_MO_drop u (nI T) (nI C) = f_MO_drop_29 u (nI T) (nI C) 0 := fun u mu => by
    have hIu := qd_isC mu wd (nI T) (nI C)
    rw [g] at hIu
    obtain ⟨pku, hku⟩ := qd_kind mu wd ht4 hc6
    unfold p_MO_drop f_MO_drop
    rw [hIu, hku, if_neg i10, if_neg k3]
    exact ⟨fun q => ⟨qd_pisC mu wd _ _, fun q2 => absurd q2 i10, fun _ => ⟨pku, fun q2 => absurd q2 k3, fun _ => q⟩⟩, rfl⟩
  obtain ⟨pu1, pu2, hu⟩ := qc_isUsed cd wd uc uw qc qw ht4 hc6
  have qmW : ∀ (T2 : am_M) (v : Int32), q_out s T2 q_PC → q_qm (am_set (am_set T2 262 0 v) 207 0 0) (Z 11) := fun T2 v o => by
    have o2 : q_out s (am_set (am_set T2 262 0 v) 207 0 0) (fun a b => q_PC a b ∨ a = 262 ∨ (a = 207 ∧ b = 0)) := fun a b q => by
      rw [am_set_p (by omega), am_set_p (by omega), o a b (fun q2 => q (Or.inl q2))]
    exact q_qm_out h8 o2 (fun a b q => by unfold q_PC at q; omega) qm
  -- refused
  have refuse : ¬ q_free (Z 6) (Z 7) (Z 11) T C → ((¬ f_BA_isUsed s (nI T) (nI C) = 0) ∨ (f_BA_isUsed s (nI T) (nI C) = 0 ∧ ¬ f_AS_isUsed s (nI T) (nI C) = 0)) → p_LA_drop s (nI T) (nI C) ∧ p_MO_drop (f_LA_drop s (nI T) (nI C)).2 (nI T) (nI C) ∧ pu_B (pu_R d) (f_LA_drop s (nI T) (nI C)).1 (f_MO_drop (f_LA_drop s (nI T) (nI C)).2 (nI T) (nI C)) := fun hnf hcase => by
    obtain ⟨r1, r2, r3, r4, r5, r6⟩ := q_re16 s 8 (nI T) (-1) (nI C)
    have hfd : q_fd (f_RE_set s 16 8 (nI T) (-1) (nI C)) 16 0 (q_L8 T C) := ⟨r3, r4, r5, r6⟩
    have hg8 : q_good (q_L8 T C) = 0 := rfl
    obtain ⟨pt, T2, hT2, cd2⟩ := qc_done (s := s) (q_out_w r2 (fun a b q => by omega)) (q_cd_out r2 (fun a b q => by omega) cd) (q_oc_out r2 (fun a b q => by omega) oc) (q_cb_out r2 (fun a b q => by omega) cb) hfd
    rw [hg8] at pt hT2
    have href : f_BA_refuse s 8 (nI T) (nI C) = (0, f_RE_set s 16 8 (nI T) (-1) (nI C)) := rfl
    have hC : f_CB_drop s (nI T) (nI C) = (0, 0, T2) := by
      unfold f_CB_drop
      rw [hT, if_pos rfl, hN, if_pos rfl, href]
      dsimp only
      rw [hT2]
      rcases hcase with q | ⟨q, q2⟩
      · rw [if_neg q]
      · rw [if_pos q, if_neg q2]
    have pC : p_CB_drop s (nI T) (nI C) := by
      have rf : p_BA_refuse s 8 (nI T) (nI C) := ⟨r1, trivial⟩
      unfold p_CB_drop
      rw [hT, hN, href]
      dsimp only
      rw [hT2]
      refine ⟨qd_pwantC _ _ _, fun _ => ⟨qd_pnotD _ _ _, fun _ => ⟨pu1, fun q => ⟨pu2, fun q2 => ?_, fun _ => ⟨rf, pt, Or.inl rfl, trivial⟩⟩, fun _ => ⟨rf, pt, Or.inl rfl, trivial⟩⟩⟩⟩
      rcases hcase with r | ⟨r, r2⟩
      · exact absurd q r
      · exact absurd q2 r2
    obtain ⟨mU, bU, uU, mU2, bU2, uU2⟩ := q_PC_m cd2.1 md mb um 0
    obtain ⟨m1, m2⟩ := qm_isUsed mU2 wd uU2 uw (qmW T2 0 cd2.1) qw ht4 hc6
    have nz : ¬ f_MO_isUsed (am_set (am_set T2 262 0 0) 207 0 0) (nI T) (nI C) = 0 := fun q => hnf (m2.mp q)
    have e29 : p_MO_drop_29 (am_set T2 262 0 0) (nI T) (nI C) 0 ∧ f_MO_drop_29 (am_set T2 262 0 0) (nI T) (nI C) 0 = (0, q_td (am_set (am_set T2 262 0 0) 207 0 0) 8 (nI T) (-1) (nI C)) := by
      unfold p_MO_drop_29 f_MO_drop_29
      rw [pr_holds0]
      dsimp only
      rw [if_neg i10, if_neg nz]
      exact ⟨⟨fun q => absurd q i10, fun _ => ⟨m1, fun q => absurd q nz, fun _ => trivial⟩⟩, rfl⟩
    have ot := q_td_o (am_set (am_set T2 262 0 0) 207 0 0) 8 (nI T) (-1) (nI C)
    have hm3 : q_mdone (am_set (am_set T2 262 0 0) 207 0 0) (q_td (am_set (am_set T2 262 0 0) 207 0 0) 8 (nI T) (-1) (nI C)) (q_L8 T C) (q_pick (q_L8 T C) (Z 6) (Z 6)) (q_pick (q_L8 T C) (Z 8) (Z 8)) := ⟨q_out_w ot (fun a b q => by unfold q_PM; omega), q_md_out ot (fun a b q => by omega) mU2, q_mb_out ot (fun a b q => by omega) bU2, q_td_v _ _ _ _ _, by rw [hg8, if_pos rfl]; exact ot _ _ (by omega)⟩
    have hfin := pu_done (v := 0) (A1 := Z 6) (R1 := Z 8) hP hZ cd2 hm3 (fun q => absurd q (by unfold q_L8; simp)) q_dq_0 (fun q => absurd q (by unfold q_L8; simp))
    exact og_drop (v := 0) (s1 := T2) (w := 0) (t := _) hC pC (by rw [if_pos rfl]; exact (dm _ mU).1 e29.1) (by rw [if_pos rfl]; exact (dm _ mU).2.trans e29.2) hfin.2.1 (by rw [if_pos rfl]; exact hfin.2.2) hfin.1
  rcases hu with ⟨b1, b2, hf⟩ | ⟨b1, hnf⟩ | ⟨b1, b2, hnf⟩
  rotate_left
  · exact refuse hnf (Or.inl b1)
  · exact refuse hnf (Or.inr ⟨b1, b2⟩)
  have wB := q_dp_wd wd ht hc hf.1
  obtain ⟨pB, pt, T2, hT2, cd2⟩ := qc_drop cd oc cb ht4 hc6 wB
  have hC : f_CB_drop s (nI T) (nI C) = (0, 1, T2) := by
    unfold f_CB_drop
    rw [hT, if_pos rfl, hN, if_pos rfl, if_pos b1, if_pos b2, hT2]
  have pC : p_CB_drop s (nI T) (nI C) := by
    unfold p_CB_drop
    rw [hT, hN, hT2]
    exact ⟨qd_pwantC _ _ _, fun _ => ⟨qd_pnotD _ _ _, fun _ => ⟨pu1, fun _ => ⟨pu2, fun _ => ⟨pB, pt, Or.inr rfl, trivial⟩, fun q => absurd b2 q⟩, fun q => absurd b1 q⟩⟩⟩
  obtain ⟨mU, bU, uU, mU2, bU2, uU2⟩ := q_PC_m cd2.1 md mb um 1
  obtain ⟨m1, m2⟩ := qm_isUsed mU2 wd uU2 uw (qmW T2 1 cd2.1) qw ht4 hc6
  obtain ⟨x1, t3, x2, hm3⟩ := qm_drop mU2 bU2 ht4 hc6 (nI (6 * T + C))
  have vk : vp_in (nI (6 * T + C)) 24 := vp_in_nI (by omega) (by omega)
  have e29 : p_MO_drop_29 (am_set T2 262 0 1) (nI T) (nI C) 0 ∧ f_MO_drop_29 (am_set T2 262 0 1) (nI T) (nI C) 0 = (1, t3) := by
    unfold p_MO_drop_29 f_MO_drop_29
    rw [pr_holds0]
    dsimp only
    rw [if_neg i10, if_pos (m2.mpr hf), qw_6, nI_add, nI_clamp (n := 6 * T + C) (by omega)]
    exact ⟨⟨fun q => absurd q i10, fun _ => ⟨m1, fun _ => ⟨vk, vk, vk, x1⟩, fun _ => trivial⟩⟩, x2⟩
  have hfin := pu_done (v := 1) (L := []) (A1 := q_dp (Z 6) (6 * T + C)) (R1 := q_dR (Z 8) T C 30) hP hZ cd2 hm3 (fun _ => ⟨wB, q_dR_wr wr hc6, by rw [q_dp_nt]; exact Nat.le_refl _, fun u _ => by rw [q_dR_0]; exact Nat.le_refl _, fun p _ => by rw [q_dR_1]; exact Or.inl rfl⟩) (q_dp_dq ht4 hc6 hf.2.2) (fun _ => gd_drop wd wB uw ht4 hc6 hf.1 hf.2.1 (q_x7_g (hZ 7)))
  exact og_drop (v := 1) (s1 := T2) (w := 1) (t := t3) hC pC (by rw [if_neg i10]; exact (dm _ mU).1 e29.1) (by rw [if_neg i10]; exact (dm _ mU).2.trans e29.2) hfin.2.1 (by rw [if_neg i10]; exact hfin.2.2) hfin.1
end

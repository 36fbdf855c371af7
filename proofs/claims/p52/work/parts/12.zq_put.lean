noncomputable section
theorem op_put_ok {c d : Nat} (hcd : c ≤ d) : op_put (pu_R c) (pu_R d) := by
  intro s a1 a2 a3 a4 h
  replace h := h.mono hcd
  have h' := h
  obtain ⟨hP, Z, hZ⟩ := h
  obtain ⟨cd, oc, md, wd⟩ : q_x1 s (Z 6) := hZ 1
  obtain ⟨uc, um, uw⟩ := q_x2_p (hZ 2 : q_x2 s (Z 7))
  obtain ⟨cb, mb, wr⟩ : q_x3 s (Z 6) (Z 8) := hZ 3
  have hT := qr_row cd wd cb a1 a2
  have hr := qr_isRow md wd wr.we mb a1 a2
  have p61 : ∀ (x5 y : Int32), y ≠ 0 → p_MO_put_61 s a1 a2 a3 a4 x5 y ∧ f_MO_put_61 s a1 a2 a3 a4 x5 y = (0, am_set s 207 0 y) := fun x5 y hy => by
    unfold p_MO_put_61 f_MO_put_61
    rw [pr_holds1 s hy]
    exact ⟨⟨fun _ => trivial, fun q => absurd rfl q⟩, rfl⟩
  have p22 : p_MO_put_22 s a1 a2 a3 a4 ∧ f_MO_put_22 s a1 a2 a3 a4 = (0, am_set s 207 0 1) := by
    unfold p_MO_put_22 f_MO_put_22 p_MO_put_23 f_MO_put_23
    rw [if_pos rfl]
    exact ⟨⟨fun _ => (p61 0 1 (by decide)).1, fun q => absurd rfl q⟩, (p61 0 1 (by decide)).2⟩
  rcases q_isR_c wd wr.we a1 a2 with g | ⟨g, T, r, ht, ht4, hr30, hrm, rfl, rfl, hh⟩
  · rw [g, if_pos rfl] at hT
    rw [g] at hr
    refine on_put_1 (v := 0) (s1 := s) (w := 0) (t := am_set s 207 0 1) (by unfold f_CB_put; rw [hT]; rfl) (by unfold p_CB_put; rw [hT]; exact ⟨qr_prow _ _ _, fun q => absurd q (by decide)⟩) ?_ ?_ am_set_q (pu_R_thrown h')
    · unfold p_MO_put; rw [hr.2]; exact ⟨hr.1, fun _ => p22.1, fun q => absurd rfl q⟩
    · unfold f_MO_put; rw [hr.2, if_pos rfl]; exact p22.2
  rw [g, if_neg i10] at hT
  rw [g] at hr
  have hT2 := qd_wantC cd wd (nI T) a3
  have hI2 := qd_isC md wd (nI T) a3
  rcases q_isC_c wd (nI T) a3 with k | ⟨k, T2, C, hT9, hT4, hC, hC6, e1, rfl⟩
  · rw [k, if_pos rfl] at hT2
    rw [k] at hI2
    refine on_put_1 (v := 0) (s1 := s) (w := 0) (t := am_set s 207 0 1) (by unfold f_CB_put; rw [hT, hT2]; rfl) (by unfold p_CB_put; rw [hT, hT2]; exact ⟨qr_prow _ _ _, fun _ => ⟨qd_pwantC _ _ _, fun q => absurd q (by decide)⟩⟩) ?_ ?_ am_set_q (pu_R_thrown h')
    · unfold p_MO_put; rw [hr.2, hI2]; exact ⟨hr.1, fun q => absurd q i10, fun _ => ⟨qd_pisC md wd _ _, fun _ => p22.1, fun q => absurd rfl q⟩⟩
    · unfold f_MO_put; rw [hr.2, hI2, if_neg i10, if_pos rfl]; exact p22.2
  rw [k, if_neg i10] at hT2
  rw [k] at hI2
  have eTT : T = T2 := (nI_eq (by omega) (by omega)).mp e1
  subst eTT
  have hS := qd_store cd ht4 hC6
  have hM := qm_stored md (k := 6 * T + C) (by omega)
  have ix : (6 : Int32) * nI T + nI C = nI (6 * T + C) := by rw [qw_6, nI_add]
  have no2 : (Z 6 209 (6 * T + C) ≠ 0 ∧ Z 6 209 (6 * T + C) ≠ 1) ∨ f_MO_isNumber s a4 = 0 → p_MO_put s (nI T) (nI r) (nI C) a4 ∧ f_MO_put s (nI T) (nI r) (nI C) a4 = (0, am_set s 207 0 2) := fun q => by
    have n10 : ¬ (1 : Int32) = 0 := i10
    unfold p_MO_put f_MO_put p_MO_put_23 f_MO_put_23 p_MO_put_60 f_MO_put_60
    rw [hr.2, hI2, if_neg i10, if_neg i10, if_neg i10, ix, hM.2]
    refine ⟨⟨hr.1, fun q => absurd q i10, fun _ => ⟨qd_pisC md wd _ _, fun q => absurd q i10, fun _ => ⟨fun q => absurd q i10, fun _ => ⟨hM.1, fun _ => (p61 1 2 (by decide)).1, fun z => ⟨fun _ => (p61 1 2 (by decide)).1, fun z2 => ?_⟩⟩⟩⟩⟩, ?_⟩
    · rcases q with q | q
      · rw [if_neg (fun z => z.elim q.1 q.2)] at z; exact absurd rfl z
      · exact absurd q z2
    · by_cases cs : Z 6 209 (6 * T + C) = 0 ∨ Z 6 209 (6 * T + C) = 1
      · rw [if_pos cs, if_neg i10]
        rcases q with q | q
        · exact absurd cs (fun z => z.elim q.1 q.2)
        · rw [if_pos q]; exact (p61 1 2 (by decide)).2
      · rw [if_neg cs, if_pos rfl]; exact (p61 1 2 (by decide)).2
  by_cases cs : Z 6 209 (6 * T + C) = 0 ∨ Z 6 209 (6 * T + C) = 1
  rotate_left
  · rw [if_neg cs] at hS
    have hno := no2 (Or.inl ⟨fun q => cs (Or.inl q), fun q => cs (Or.inr q)⟩)
    exact on_put_2 (v := 0) (s1 := s) (by unfold f_CB_put; rw [hT, hT2, hS]; rfl) (by unfold p_CB_put; rw [hT, hT2, hS]; exact ⟨qr_prow _ _ _, fun _ => ⟨qd_pwantC _ _ _, fun _ => ⟨qd_pstore _ _ _, fun q => absurd q (by decide)⟩⟩⟩) hno.1 hno.2 am_set_q (pu_R_thrown h')
  rw [if_pos cs] at hS
  rcases pr_value s a4 with ⟨v1, v2⟩ | ⟨v1, v2⟩
  rotate_left
  · have hno := no2 (Or.inr v2)
    exact on_put_2 (v := 0) (s1 := s) (by unfold f_CB_put; rw [hT, hT2, hS, v1]; rfl) (by unfold p_CB_put; rw [hT, hT2, hS, v1]; exact ⟨qr_prow _ _ _, fun _ => ⟨qd_pwantC _ _ _, fun _ => ⟨qd_pstore _ _ _, fun _ q => absurd q (by decide)⟩⟩⟩) hno.1 hno.2 am_set_q (pu_R_thrown h')
  have hv := q_num_v v2
  have hgood := fun q => q_put_wr (U := Z 7) (v := a4) wd wr hv cs ht4 hr30 hC6 q
  have hre := q_we_reck wd (q_put_we (x := 180 * T + 6 * r + C) wr.we hv)
  obtain ⟨pB, t1, hB, o1, cb1, fd1, -⟩ := qc_put (v := a4) cd oc wd wr.we cb uc uw ht4 hr30 hC6 cs hv
  have cdP : q_cd t1 (q_pick (q_brk (Z 6) (Z 7) (q_reck (Z 6) (q_put (Z 8) (180 * T + 6 * r + C) a4))) (Z 6) (Z 6)) := by
    have := q_cd_out o1 (fun a b q => by omega) cd
    rcases q_good_c (q_brk (Z 6) (Z 7) (q_reck (Z 6) (q_put (Z 8) (180 * T + 6 * r + C) a4))) with ⟨-, -, g3⟩ | ⟨-, -, g3⟩ <;> rw [g3] <;> exact this
  have ocP : q_oc t1 (q_pick (q_brk (Z 6) (Z 7) (q_reck (Z 6) (q_put (Z 8) (180 * T + 6 * r + C) a4))) (Z 6) (Z 6)) := by
    have := q_oc_out o1 (fun a b q => by omega) oc
    rcases q_good_c (q_brk (Z 6) (Z 7) (q_reck (Z 6) (q_put (Z 8) (180 * T + 6 * r + C) a4))) with ⟨-, -, g3⟩ | ⟨-, -, g3⟩ <;> rw [g3] <;> exact this
  obtain ⟨pt, t2, ht2, hcd2⟩ := qc_done (q_out_w o1 (fun a b q => by omega)) cdP ocP cb1 fd1
  have hmod := fun (u : am_M) (mu : q_md u (Z 6)) (bu : q_mb u (Z 8)) (uu : q_um u (Z 7)) => qm_put (v := a4) mu wd wr.we bu uu uw ht4 hr30 hC6 hv
  have hpickA : ∀ t3, q_md t3 (Z 6) → q_md t3 (q_pick (q_brk (Z 6) (Z 7) (q_reck (Z 6) (q_put (Z 8) (180 * T + 6 * r + C) a4))) (Z 6) (Z 6)) := fun t3 q => by
    rcases q_good_c (q_brk (Z 6) (Z 7) (q_reck (Z 6) (q_put (Z 8) (180 * T + 6 * r + C) a4))) with ⟨-, -, g3⟩ | ⟨-, -, g3⟩ <;> rw [g3] <;> exact q
  have hgd9 : q_brk (Z 6) (Z 7) (q_reck (Z 6) (q_put (Z 8) (180 * T + 6 * r + C) a4)) = [] → q_gd (Z 6) (Z 7) (q_reck (Z 6) (q_put (Z 8) (180 * T + 6 * r + C) a4)) := fun q => gd_reck wd (q_x7_g (hZ 7)).2.2 q
  generalize q_brk (Z 6) (Z 7) (q_reck (Z 6) (q_put (Z 8) (180 * T + 6 * r + C) a4)) = L at *
  have iO : (10 : Int32) * nI T + nI C = nI (10 * T + C) := by rw [qw_10, nI_add]
  have hC : f_CB_put s (nI T) (nI r) (nI C) a4 = (0, q_good L, t2) := by
    unfold f_CB_put
    rw [hT, hT2, hS, v1, iO, hB]
    dsimp only
    rw [ht2]; rfl
  have pC : p_CB_put s (nI T) (nI r) (nI C) a4 := by
    unfold p_CB_put
    rw [hT, hT2, hS, v1, iO, hB]
    dsimp only
    rw [ht2]
    exact ⟨qr_prow _ _ _, fun _ => ⟨qd_pwantC _ _ _, fun _ => ⟨qd_pstore _ _ _, fun _ _ => ⟨pB, pt, q_good_01 L, trivial⟩⟩⟩⟩
  obtain ⟨mU, bU, uU, mU2, bU2, uU2⟩ := q_PC_m hcd2.1 md mb um (if q_good L = 0 then 0 else 1)
  obtain ⟨pw, t3, ht3, o3, mb3, fd3⟩ := hmod _ mU2 bU2 uU2
  obtain ⟨pch, t4, ht4', o4, u4⟩ := @qm_chg t3 L
  have hrU := qr_isRow mU wd wr.we bU (nI T) (nI r)
  rw [g] at hrU
  have hIU := qd_isC mU wd (nI T) (nI C)
  rw [k] at hIU
  have hMU := qm_stored mU (k := 6 * T + C) (by omega)
  rw [if_pos cs] at hMU
  have v3 : f_MO_isNumber (am_set t2 262 0 (if q_good L = 0 then 0 else 1)) a4 = 1 := v2
  have hfin := pu_done (t2 := t2) (t3 := t4) (v := if q_good L = 0 then 0 else 1) (A1 := Z 6) hP hZ hcd2 ⟨fun a b hab => by
      unfold q_PM at hab
      rw [o4 a b (by omega), o3 a b (by omega)], hpickA _ (q_md_out o4 (fun a b q => by omega) (q_md_out o3 (fun a b q => by omega) mU2)), q_mb_out o4 (fun a b q => by omega) mb3, q_fd_out o4 (fun i j q => by omega) fd3, by
      rw [u4, o3 _ _ (by omega)]⟩ (fun q => ⟨wd, hgood q, Nat.le_refl _, fun u _ => by rw [hre.2.2, q_put_0]; exact Nat.le_refl _, fun p _ => by rw [hre.2.1, q_put_1]; exact Or.inl rfl⟩) q_dq_0 hgd9
  refine og_put (w := q_good L) (t := t4) hC pC ?_ ?_ hfin.2.1 hfin.2.2 hfin.1
  · unfold p_MO_put p_MO_put_23 p_MO_put_61
    rw [hrU.2, hIU, ix, hMU.2, v3, pr_holds0]
    dsimp only
    rw [ht3]
    dsimp only
    rw [ht4']
    exact ⟨hrU.1, fun q => absurd q i10, fun _ => ⟨qd_pisC mU wd _ _, fun q => absurd q i10, fun _ => ⟨fun q => absurd q i10, fun _ => ⟨hMU.1, fun q => absurd q i10, fun _ => ⟨fun q => absurd q i10, fun _ => ⟨fun q => absurd q i10, fun _ => ⟨pw, pch, q_good_01 L, trivial⟩⟩⟩⟩⟩⟩⟩
  · unfold f_MO_put f_MO_put_23 f_MO_put_61
    rw [hrU.2, hIU, if_neg i10, if_neg i10, if_neg i10, ix, hMU.2, if_neg i10, v3, if_neg i10, pr_holds0, if_neg i10]
    dsimp only
    rw [ht3]
    dsimp only
    rw [ht4']
end

noncomputable section
theorem op_remove_ok {c d : Nat} (hcd : c ≤ d) : op_remove (pu_R c) (pu_R d) := by
  intro s a1 a2 h
  replace h := h.mono hcd
  have h' := h
  obtain ⟨hP, Z, hZ⟩ := h
  obtain ⟨cd, oc, md, wd⟩ : q_x1 s (Z 6) := hZ 1
  obtain ⟨uc, um, uw⟩ := q_x2_p (hZ 2 : q_x2 s (Z 7))
  obtain ⟨cb, mb, wr⟩ : q_x3 s (Z 6) (Z 8) := hZ 3
  have hT := qr_row cd wd cb a1 a2
  have hr := qr_isRow md wd wr.we mb a1 a2
  rcases q_isR_c wd wr.we a1 a2 with g | ⟨g, T, r, ht, ht4, hr30, hrm, rfl, rfl, hh⟩
  · rw [g, if_pos rfl] at hT
    rw [g] at hr
    have h1 := pr_holds1 s (x := 1) (by decide)
    refine on_remove_1 (v := 0) (s1 := s) (w := 0) (t := am_set s 207 0 1) (by unfold f_CB_remove; rw [hT]; rfl) (by unfold p_CB_remove; rw [hT]; exact ⟨qr_prow _ _ _, fun q => absurd q (by decide)⟩) ?_ ?_ am_set_q (pu_R_thrown h')
    · unfold p_MO_remove p_MO_remove_15; rw [hr.2, h1]; exact ⟨hr.1, fun _ => ⟨fun _ => trivial, fun q => absurd rfl q⟩, fun q => absurd rfl q⟩
    · unfold f_MO_remove f_MO_remove_15; rw [hr.2, h1, if_pos rfl, if_pos rfl]
  rw [g, if_neg i10] at hT
  rw [g] at hr
  obtain ⟨pB, t1, hB, o1, cb1, fd1⟩ := qc_takeOut cd oc wd wr cb uc uw (T := T) (r := r) rfl (by omega)
  have hgood := fun q => q_rw_wr (U := Z 7) (G := q_gg (Z 6) (Z 8) (30 * T + r)) wd wr q
  have hmod := fun (u : am_M) (mu : q_md u (Z 6)) (bu : q_mb u (Z 8)) (uu : q_um u (Z 7)) => qm_removes mu wd wr bu uu uw (T := T) (r := r) rfl (by omega)
  have hre := q_reck_01 wd (q_rw_we (G := q_gg (Z 6) (Z 8) (30 * T + r)) wr)
  have hle : (∀ u, u < 4 → q_c (Z 8 0 u) ≤ q_c (q_reck (Z 6) (q_rw (Z 6) (Z 8) (q_gg (Z 6) (Z 8) (30 * T + r))) 0 u)) ∧ ∀ p, p < 120 → q_reck (Z 6) (q_rw (Z 6) (Z 8) (q_gg (Z 6) (Z 8) (30 * T + r))) 1 p = Z 8 1 p ∨ q_reck (Z 6) (q_rw (Z 6) (Z 8) (q_gg (Z 6) (Z 8) (30 * T + r))) 1 p = 0 :=
    ⟨fun u _ => by rw [hre.2, q_rw_0]; exact Nat.le_refl _, fun p _ => by rw [hre.1]; exact q_rw_1⟩
  have hgd9 : q_rL (Z 6) (Z 7) (Z 8) (q_gg (Z 6) (Z 8) (30 * T + r)) = [] → q_gd (Z 6) (Z 7) (q_reck (Z 6) (q_rw (Z 6) (Z 8) (q_gg (Z 6) (Z 8) (30 * T + r)))) := fun q => gd_reck wd (q_x7_g (hZ 7)).2.2 (by
    unfold q_rL at q
    by_cases hf : q_fb (Z 6) (Z 8) (q_gg (Z 6) (Z 8) (30 * T + r)) < 720
    · rw [if_pos hf] at q; exact absurd q (by unfold q_fbL; simp)
    · rw [if_neg hf] at q; exact q)
  generalize q_rL (Z 6) (Z 7) (Z 8) (q_gg (Z 6) (Z 8) (30 * T + r)) = L at *
  generalize q_reck (Z 6) (q_rw (Z 6) (Z 8) (q_gg (Z 6) (Z 8) (30 * T + r))) = R1 at *
  have hpA : q_pick L (Z 6) (Z 6) = Z 6 := by rcases q_good_c L with ⟨-, -, g3⟩ | ⟨-, -, g3⟩ <;> rw [g3]
  have cdP : q_cd t1 (q_pick L (Z 6) (Z 6)) := by rw [hpA]; exact q_cd_out o1 (fun a b q => by omega) cd
  have ocP : q_oc t1 (q_pick L (Z 6) (Z 6)) := by rw [hpA]; exact q_oc_out o1 (fun a b q => by omega) oc
  obtain ⟨pt, t2, ht2, hcd2⟩ := qc_done (q_out_w o1 (fun a b q => by omega)) cdP ocP cb1 fd1
  have hC : f_CB_remove s (nI T) (nI r) = (0, q_good L, t2) := by
    unfold f_CB_remove
    rw [hT, hB]
    dsimp only
    rw [ht2]; rfl
  have pC : p_CB_remove s (nI T) (nI r) := by
    unfold p_CB_remove
    rw [hT, hB]
    dsimp only
    rw [ht2]
    exact ⟨qr_prow _ _ _, fun _ => ⟨pB, pt, q_good_01 L, trivial⟩⟩
  obtain ⟨mU, bU, uU, mU2, bU2, uU2⟩ := q_PC_m hcd2.1 md mb um (if q_good L = 0 then 0 else 1)
  obtain ⟨pw, t3, ht3, o3, mb3, fd3⟩ := hmod _ mU2 bU2 uU2
  obtain ⟨pch, t4, ht4', o4, u4⟩ := @qm_chg t3 L
  have hrU := qr_isRow mU wd wr.we bU (nI T) (nI r)
  rw [g] at hrU
  have hfin := pu_done (t2 := t2) (t3 := t4) (v := if q_good L = 0 then 0 else 1) (A1 := Z 6) hP hZ hcd2 ⟨fun a b hab => by
      unfold q_PM at hab
      rw [o4 a b (by omega), o3 a b (by omega)], by rw [hpA]; exact q_md_out o4 (fun a b q => by omega) (q_md_out o3 (fun a b q => by omega) mU2), q_mb_out o4 (fun a b q => by omega) mb3, q_fd_out o4 (fun i j q => by omega) fd3, by
      rw [u4, o3 _ _ (by omega)]⟩ (fun q => ⟨wd, hgood q, Nat.le_refl _, hle⟩) q_dq_0 hgd9
  refine og_remove (w := if q_good L = 0 then 0 else 1) (t := t4) hC pC ?_ ?_ hfin.2.1 ?_ hfin.1
  · unfold p_MO_remove p_MO_remove_15
    rw [hrU.2, pr_holds0]
    dsimp only
    rw [ht3]
    dsimp only
    rw [ht4']
    exact ⟨hrU.1, fun q => absurd q i10, fun _ => ⟨fun q => absurd q i10, fun _ => ⟨pw, pch, fun _ => trivial, fun _ => trivial⟩⟩⟩
  · unfold f_MO_remove f_MO_remove_15
    rw [hrU.2, if_neg i10, pr_holds0, if_neg i10]
    dsimp only
    rw [ht3]
    dsimp only
    rw [ht4']
    by_cases q : q_good L = 0
    · rw [if_pos q, if_pos q]
    · rw [if_neg q, if_neg q]
  · rw [hfin.2.2]
    by_cases q : q_good L = 0
    · rw [if_pos q, if_pos rfl]
    · rw [if_neg q, if_neg i10]
end

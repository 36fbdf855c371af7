noncomputable section
theorem op_reckonAnew_ok {c d : Nat} (hcd : c ≤ d) : op_reckonAnew (pu_R c) (pu_R d) := by
  intro s a1 a2 a3 a4 a5 a6 h
  replace h := h.mono hcd
  have h' := h
  obtain ⟨hP, Z, hZ⟩ := h
  obtain ⟨cd, oc, md, wd⟩ : q_x1 s (Z 6) := hZ 1
  obtain ⟨uc, um, uw⟩ := q_x2_p (hZ 2 : q_x2 s (Z 7))
  obtain ⟨cb, mb, wr⟩ : q_x3 s (Z 6) (Z 8) := hZ 3
  have hT := qd_wantC cd wd a1 a2
  rcases q_isC_c wd a1 a2 with g | ⟨g, T, C, ht, ht4, hc, hc6, rfl, rfl⟩
  · rw [g, if_pos rfl] at hT
    have hI := qd_isC md wd a1 a2
    rw [g] at hI
    have p71 : p_MO_reckonAnew_71 s a1 a2 a3 a4 a5 a6 0 1 0 1 ∧ f_MO_reckonAnew_71 s a1 a2 a3 a4 a5 a6 0 1 0 1 = (0, am_set s 207 0 1) := by
      unfold p_MO_reckonAnew_71 f_MO_reckonAnew_71
      rw [pr_holds1 s (by decide)]
      exact ⟨⟨fun _ => trivial, fun q => absurd rfl q⟩, rfl⟩
    have hm : p_MO_reckonAnew s a1 a2 a3 a4 a5 a6 ∧ f_MO_reckonAnew s a1 a2 a3 a4 a5 a6 = (0, am_set s 207 0 1) := by
      unfold p_MO_reckonAnew f_MO_reckonAnew p_MO_reckonAnew_29 f_MO_reckonAnew_29 p_MO_reckonAnew_46 f_MO_reckonAnew_46 p_MO_reckonAnew_69 f_MO_reckonAnew_69
      rw [hI, if_pos rfl, if_pos rfl, if_neg i10]
      exact ⟨⟨qd_pisC md wd _ _, fun _ => ⟨fun _ => ⟨fun q => absurd q i10, fun _ => p71.1⟩, fun q => absurd rfl q⟩, fun q => absurd rfl q⟩, p71.2⟩
    exact on_reckonAnew_1 (v := 0) (s1 := s) (w := 0) (t := am_set s 207 0 1) (by unfold f_CB_reckonAnew; rw [hT]; rfl) (by unfold p_CB_reckonAnew; rw [hT]; exact ⟨qd_pwantC _ _ _, fun q => absurd q (by decide)⟩) hm.1 hm.2 am_set_q (pu_R_thrown h')
  rw [g, if_neg i10] at hT
  obtain ⟨k, hkk⟩ : ∃ k, 6 * T + C = k := ⟨_, rfl⟩
  have hk : k < 24 := by omega
  have hcol : f_BA_column s (nI T) (nI C) = 20 + k := by rw [qd_col ht4 hc6, hkk]
  have hkc := cd.2.2.1 k hk
  obtain ⟨fp, fq, ee, fe, fm, f3, f0⟩ := q_formE cd md wd ht4 a3 a4 a5 a6
  have hms := q_mra md wd g hkk hk a3 a4 a5 a6 fq fm
  have hee : ee = 0 ∨ ee = 1 ∨ ee = 2 := by omega
  rcases hee with rfl | rfl | rfl
  rotate_left
  · have hm := hms.1 (Or.inl (by decide))
    exact on_reckonAnew_1 (v := 0) (s1 := s) (w := 0) (t := am_set s 207 0 1) (by unfold f_CB_reckonAnew; rw [hT, fe]; rfl) (by unfold p_CB_reckonAnew; rw [hT, fe]; exact ⟨qd_pwantC _ _ _, fun _ => ⟨fp, fun q => absurd q (by decide)⟩⟩) hm.1 hm.2 am_set_q (pu_R_thrown h')
  · have hm := hms.1 (Or.inl (by decide))
    exact on_reckonAnew_2 (v := 0) (s1 := s) (w := 0) (t := am_set s 207 0 2) (by unfold f_CB_reckonAnew; rw [hT, fe]; rfl) (by unfold p_CB_reckonAnew; rw [hT, fe]; exact ⟨qd_pwantC _ _ _, fun _ => ⟨fp, fun q => absurd q (by decide)⟩⟩) hm.1 hm.2 am_set_q (pu_R_thrown h')
  have hf := f0 rfl
  by_cases k2 : Z 6 209 k = 2
  rotate_left
  · have n3 : ¬ s (20 + k) 0 = (3 : Int32) := fun q => k2 (q_kc_3.mp (hkc.symm.trans q))
    have hm := hms.1 (Or.inr k2)
    exact on_reckonAnew_2 (v := 0) (s1 := s) (w := 0) (t := am_set s 207 0 2) (by unfold f_CB_reckonAnew; rw [hT, fe, hcol, if_pos rfl, if_pos rfl, if_neg n3]) (by unfold p_CB_reckonAnew; rw [hT, fe, hcol]; exact ⟨qd_pwantC _ _ _, fun _ => ⟨fp, fun _ => ⟨qd_pcol _ _ _, ⟨by omega, qd_sh hk⟩, fun q => absurd q n3, fun _ => trivial⟩⟩⟩) hm.1 hm.2 am_set_q (pu_R_thrown h')
  have y3 : s (20 + k) 0 = (3 : Int32) := hkc.trans (q_kc_3.mpr k2)
  obtain ⟨wB, hwr, hnt⟩ := q_fm_wd (k := k) wd (by rw [show k / 6 = T from by omega]; exact hf)
  have eR := q_we_reck wB (hwr _ wr).we
  obtain ⟨pB, t1, hB, o1, cd1, oc1, cb1, fd1⟩ := qc_frm cd wd wr cb uc uw ht4 hc6 hkk hf
  have hmod := fun (u : am_M) (mu : q_md u (Z 6)) (bu : q_mb u (Z 8)) (uu : q_um u (Z 7)) => qm_71 mu wd wr bu uu uw hkk hc6 hk hf 1
  have hgood : q_fL (q_fm (Z 6) k a3 a4 a5 a6) (Z 7) (Z 8) T C = [] → q_wr (q_fm (Z 6) k a3 a4 a5 a6) (q_reck (q_fm (Z 6) k a3 a4 a5 a6) (Z 8)) := fun _ => q_wr_reck wB (hwr _ wr)
  have hgd9 : q_fL (q_fm (Z 6) k a3 a4 a5 a6) (Z 7) (Z 8) T C = [] → q_gd (q_fm (Z 6) k a3 a4 a5 a6) (Z 7) (q_reck (q_fm (Z 6) k a3 a4 a5 a6) (Z 8)) := fun q => gd_reck wB (dd_8 (funext fun _ => q_fm_o (by omega)) (funext fun _ => q_fm_o (by omega)) (q_x7_g (hZ 7)).2.2) (by
    unfold q_fL at q
    by_cases hf : q_str (q_fm (Z 6) k a3 a4 a5 a6) = 0
    · rw [if_pos hf] at q; exact absurd q (by simp)
    · rw [if_neg hf] at q; exact q)
  generalize q_fL (q_fm (Z 6) k a3 a4 a5 a6) (Z 7) (Z 8) T C = L at *
  obtain ⟨pt, t2, ht2, hcd2⟩ := qc_done o1 cd1 oc1 cb1 fd1
  have hC : f_CB_reckonAnew s (nI T) (nI C) a3 a4 a5 a6 = (0, q_good L, t2) := by
    unfold f_CB_reckonAnew
    rw [hT, fe, hcol, if_pos rfl, if_pos rfl, if_pos y3, hB]
    dsimp only
    rw [ht2]
  have pC : p_CB_reckonAnew s (nI T) (nI C) a3 a4 a5 a6 := by
    unfold p_CB_reckonAnew
    rw [hT, fe, hcol, hB]
    dsimp only
    rw [ht2]
    exact ⟨qd_pwantC _ _ _, fun _ => ⟨fp, fun _ => ⟨qd_pcol _ _ _, ⟨by omega, qd_sh hk⟩, fun _ => ⟨pB, pt, q_good_01 L, trivial⟩, fun q => absurd y3 q⟩⟩⟩
  obtain ⟨mU, bU, uU, mU2, bU2, uU2⟩ := q_PC_m hcd2.1 md mb um (if q_good L = 0 then 0 else 1)
  obtain ⟨q71, t3, ht3, hm3⟩ := hmod _ mU bU uU
  have cdU : q_cd (am_set t2 262 0 (if q_good L = 0 then 0 else 1)) (q_pick L (q_fm (Z 6) k a3 a4 a5 a6) (Z 6)) := q_cd_set (by omega) hcd2.2.1
  obtain ⟨-, fqU, eU, feU, fmU, -, -⟩ := q_formE cd mU wd ht4 a3 a4 a5 a6
  have eU0 : eU = 0 := feU.symm.trans fe
  rw [eU0] at fmU
  have hmU := (q_mra mU wd g hkk hk a3 a4 a5 a6 fqU fmU).2 rfl k2
  have hfin := pu_done (v := if q_good L = 0 then 0 else 1) hP hZ hcd2 hm3 (fun q => ⟨wB, hgood q, by rw [hnt]; exact Nat.le_refl _, fun u _ => by rw [eR.2.2]; exact Nat.le_refl _, fun p _ => by rw [eR.2.1]; exact Or.inl rfl⟩) (q_dq_k wd.1.2 (q_dk_of (q_fm_o (by omega)) (funext fun _ => q_fm_o (by omega)) (funext fun _ => q_fm_o (by omega)) (funext fun _ => q_fm_o (by omega)))) hgd9
  exact og_reckonAnew (w := q_good L) (t := t3) hC pC (hmU.2 q71) (hmU.1.trans ht3) hfin.2.1 hfin.2.2 hfin.1
end

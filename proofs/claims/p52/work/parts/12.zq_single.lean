noncomputable section
theorem op_single_ok {c d : Nat} (hcd : c ≤ d) : op_single (pu_R c) (pu_R d) := by
  intro s a1 a2 a3 h ha3
  replace h := h.mono hcd
  have h' := h
  obtain ⟨hP, Z, hZ⟩ := h
  obtain ⟨cd, oc, md, wd⟩ : q_x1 s (Z 6) := hZ 1
  obtain ⟨uc, um, uw⟩ := q_x2_p (hZ 2 : q_x2 s (Z 7))
  obtain ⟨cb, mb, wr⟩ : q_x3 s (Z 6) (Z 8) := hZ 3
  have hT := qd_wantC cd wd a1 a2
  have hE := @qd_estored s (Z 6) md wd a1 a2
  rcases q_isC_c wd a1 a2 with g | ⟨g, T, C, ht, ht4, hc, hc6, rfl, rfl⟩
  · rw [g, if_pos rfl] at hT hE
    refine on_single_1 (v := 0) (s1 := s) (w := 0) (t := am_set s 207 0 1) (by unfold f_CB_single; rw [hT]; rfl) (by unfold p_CB_single; rw [hT]; exact ⟨qd_pwantC _ _ _, fun q => absurd q (by decide)⟩) ?_ ?_ am_set_q (pu_R_thrown h')
    · unfold p_MO_single; rw [hE.2, pr_holds1 s (by decide)]; exact ⟨hE.1, fun _ => trivial, fun q => absurd rfl q⟩
    · unfold f_MO_single; rw [hE.2, pr_holds1 s (by decide)]; rfl
  rw [g, if_neg i10] at hT hE
  have eT : q_c (nI T) = T := nI_clamp (by omega)
  have eC : q_c (nI C) = C := nI_clamp (by omega)
  have hS := qd_store cd ht4 hc6
  rw [eT, eC] at hE
  by_cases cs : Z 6 209 (6 * T + C) = 0 ∨ Z 6 209 (6 * T + C) = 1
  rotate_left
  · rw [if_neg cs] at hS hE
    refine on_single_2 (v := 0) (s1 := s) (w := 0) (t := am_set s 207 0 2) (by unfold f_CB_single; rw [hT, hS]; rfl) (by unfold p_CB_single; rw [hT, hS]; exact ⟨qd_pwantC _ _ _, fun _ => ⟨qd_pstore _ _ _, fun q => absurd q (by decide)⟩⟩) ?_ ?_ am_set_q (pu_R_thrown h')
    · unfold p_MO_single; rw [hE.2, pr_holds1 s (by decide)]; exact ⟨hE.1, fun _ => trivial, fun q => absurd rfl q⟩
    · unfold f_MO_single; rw [hE.2, pr_holds1 s (by decide)]; rfl
  rw [if_pos cs] at hS hE
  have hk : 6 * T + C < 24 := by omega
  generalize hkk : 6 * T + C = k at *
  obtain ⟨w1, ho, hwr, hnt, hwe⟩ := q_fl_wd wd (a := 219) (k := k) (x := a3) (by omega) ha3 cs
  obtain ⟨pk, ps, T1, hT1, hfin⟩ := qc_flag (j := 6) (x := a3) cd oc w1 ho (hwe _ wr.we) cb uc uw hk (by omega) (by omega)
  have e5 : q_fld 6 = 219 := rfl
  rw [e5] at hT1 hfin
  obtain ⟨o1, cd1, cb1, fd1⟩ := hfin _ rfl
  have hfl := (wd.2.2.2.2.1 k hk).2
  have hfl2 : s (20 + k) 6 = 0 ∨ s (20 + k) 6 = 1 := by
    have ex : s (20 + k) 6 = Z 6 219 k := cd.2.2.2 k 6 hk (by omega) (by omega)
    rw [ex]
    rcases hfl with q | q
    · exact Or.inl q
    · exact Or.inr q.1
  have hfl3 : Z 6 219 k = 0 ∨ Z 6 219 k = 1 := by
    rcases hfl with q | q
    · exact Or.inl q
    · exact Or.inr q.1
  -- what remains of the list: its goodness
  have hmod := fun (u : am_M) (mu : q_md u (Z 6)) (bu : q_mb u (Z 8)) (uu : q_um u (Z 7)) => qm_flag (u := u) (k := k) (m := 219) (x := a3) mu w1 (hwe _ wr.we) bu uu uw (by omega) (by omega)
  have hgR : q_good (q_brk (am_set (Z 6) 219 k a3) (Z 7) (q_reck (am_set (Z 6) 219 k a3) (Z 8))) = 1 → q_wr (am_set (Z 6) 219 k a3) (q_reck (am_set (Z 6) 219 k a3) (Z 8)) := fun q => by
    refine q_wr_good (U := Z 7) w1 (hwe _ wr.we) (hwr _ wr).2.2.2.1 ?_
    rcases q_good_c (q_brk (am_set (Z 6) 219 k a3) (Z 7) (q_reck (am_set (Z 6) 219 k a3) (Z 8))) with ⟨g1, -⟩ | ⟨-, g2, -⟩
    · exact g1
    · rw [g2] at q; exact absurd q (by decide)
  have eR := q_we_reck w1 (hwe _ wr.we)
  have hpick := q_good_c (q_brk (am_set (Z 6) 219 k a3) (Z 7) (q_reck (am_set (Z 6) 219 k a3) (Z 8)))
  have hgd9 : q_brk (am_set (Z 6) 219 k a3) (Z 7) (q_reck (am_set (Z 6) 219 k a3) (Z 8)) = [] → q_gd (am_set (Z 6) 219 k a3) (Z 7) (q_reck (am_set (Z 6) 219 k a3) (Z 8)) := fun q => gd_reck w1 (dd_8 (am_set_o (by omega)) (am_set_o (by omega)) (q_x7_g (hZ 7)).2.2) q
  generalize q_brk (am_set (Z 6) 219 k a3) (Z 7) (q_reck (am_set (Z 6) 219 k a3) (Z 8)) = L at *
  generalize ht1 : (if q_good L = 0 then am_set T1 (20 + k) 6 (s (20 + k) 6) else T1) = t1 at *
  have hB : p_BA_changeSingle s (nI T) (nI C) a3 ∧ f_BA_changeSingle s (nI T) (nI C) a3 = (q_good L, t1) := by
    unfold p_BA_changeSingle f_BA_changeSingle
    rw [qd_col ht4 hc6, hkk, hT1]
    refine ⟨⟨qd_pcol _ _ _, ⟨by omega, qd_sh hk⟩, pk, ha3, ps, fun _ => ⟨hfl2, q_good_01 L, trivial⟩, fun _ => ⟨q_good_01 L, trivial⟩⟩, ?_⟩
    rw [← ht1]
    by_cases q : q_good L = 0
    · rw [if_pos q, if_pos q]
    · rw [if_neg q, if_neg q]
  obtain ⟨pt, t2, ht2, o2, fd2, u2⟩ := qc_tell fd1
  have hC : f_CB_single s (nI T) (nI C) a3 = (0, q_good L, t2) := by
    unfold f_CB_single
    rw [hT, hS, hB.2]
    dsimp only
    rw [ht2]; rfl
  have pC : p_CB_single s (nI T) (nI C) a3 := by
    unfold p_CB_single
    rw [hT, hS, hB.2]
    dsimp only
    rw [ht2]
    exact ⟨qd_pwantC _ _ _, fun _ => ⟨qd_pstore _ _ _, fun _ => ⟨hB.1, pt, q_good_01 L, trivial⟩⟩⟩
  have o3 : q_out s (am_set (am_set t2 262 0 (if q_good L = 0 then 0 else 1)) 207 0 0) (fun a b => (9 ≤ a ∧ a ≤ 11) ∨ (13 ≤ a ∧ a ≤ 16) ∨ a = 19 ∨ (a = 20 + k ∧ b = 6) ∨ a = 123 ∨ (a = 0 ∧ b = 7) ∨ a = 262 ∨ (a = 207 ∧ b = 0)) := fun a b hab => by
    rw [am_set_p (by omega), am_set_p (by omega), o2 a b (by omega), o1 a b (by omega)]
  have o4 : q_out s (am_set t2 262 0 (if q_good L = 0 then 0 else 1)) (fun a b => (9 ≤ a ∧ a ≤ 11) ∨ (13 ≤ a ∧ a ≤ 16) ∨ a = 19 ∨ (a = 20 + k ∧ b = 6) ∨ a = 123 ∨ (a = 0 ∧ b = 7) ∨ a = 262) := fun a b hab => by
    rw [am_set_p (by omega), o2 a b (by omega), o1 a b (by omega)]
  have hE2 := @qd_estored (am_set t2 262 0 (if q_good L = 0 then 0 else 1)) (Z 6) (q_md_out o4 (fun a b q => by omega) md) wd (nI T) (nI C)
  rw [g, if_neg i10, eT, eC, hkk, if_pos cs] at hE2
  obtain ⟨ps2, pk2, T2, hT2, hm2⟩ := hmod _ (q_md_out o3 (fun a b q => by omega) md) (q_mb_out o3 (fun a b q => by omega) mb) (q_um_out o3 (fun a b q => by omega) um)
  obtain ⟨pch, t3, ht3, o5, md3, mb3, fd3, u3⟩ := hm2 _ rfl
  have eu : am_set (am_set t2 262 0 (if q_good L = 0 then 0 else 1)) 207 0 0 219 k = Z 6 219 k := by
    have := (q_md_out o3 (fun a b q => by omega) md).2 219 (by omega) (by omega)
    rw [this]
  generalize hU : am_set (am_set t2 262 0 (if q_good L = 0 then 0 else 1)) 207 0 0 = u at *
  have hv : vp_in (nI k) 24 := vp_in_nI hk (by omega)
  have ix : (6 : Int32) * nI T + nI C = nI k := by rw [qw_6, nI_add, hkk]
  have hM : f_MO_single (am_set t2 262 0 (if q_good L = 0 then 0 else 1)) (nI T) (nI C) a3 = (q_good L, t3) := by
    unfold f_MO_single
    rw [hE2.2, pr_holds0, hU, ix, nI_clamp (n := k) (by omega)]
    dsimp only
    rw [hT2]
    dsimp only
    rw [if_neg i10]
    by_cases q : q_good L = 0
    · rw [if_pos q] at ht3 ⊢
      rw [ht3]
    · rw [if_neg q] at ht3 ⊢
      rw [ht3]
  have pM : p_MO_single (am_set t2 262 0 (if q_good L = 0 then 0 else 1)) (nI T) (nI C) a3 := by
    unfold p_MO_single
    rw [hE2.2, pr_holds0, hU, ix, nI_clamp (n := k) (by omega)]
    dsimp only
    rw [hT2]
    dsimp only
    refine ⟨hE2.1, fun q => absurd q i10, fun _ => ⟨hv, ps2, hv, ha3, pk2, fun q => ?_, fun q => ?_⟩⟩
    · rw [if_pos q] at pch ht3
      rw [ht3]
      exact ⟨hv, by rw [eu]; exact hfl3, pch, q_good_01 L, trivial⟩
    · rw [if_neg q] at pch ht3
      rw [ht3]
      exact ⟨hv, ha3, pch, q_good_01 L, trivial⟩
  refine og_single hC pC pM hM ?_ ?_ ?_
  · rw [o5 _ _ (by omega), ← hU]; exact am_set_q
  · rw [o5 _ _ (by omega), ← hU, am_set_p (by omega)]; exact am_set_q
  have oA : q_out s t3 q_P0 := fun a b hab => by
    unfold q_P0 at hab
    rw [o5 a b (by omega), o3 a b (by omega)]
  have cd3 : q_cd t3 (q_pick L (am_set (Z 6) 219 k a3) (Z 6)) := by
    refine q_cd_out o5 (fun a b q => by omega) ?_
    rw [← hU]
    exact q_cd_set (by omega) (q_cd_set (by omega) (q_cd_out o2 (fun a b q => by omega) cd1))
  have cb3 : q_cb t3 9 10 11 (q_pick L (q_reck (am_set (Z 6) 219 k a3) (Z 8)) (Z 8)) := by
    refine q_cb_out o5 (fun a b q => by omega) ?_
    rw [← hU]
    exact q_cb_set (by omega) (q_cb_set (by omega) (q_cb_out o2 (fun a b q => by omega) cb1))
  have oc3 : q_oc t3 (Z 6) := q_oc_out o5 (fun a b q => by omega) (q_oc_out o3 (fun a b q => by omega) oc)
  have fd4 : q_fd t3 123 0 L := by
    refine q_fd_out o5 (fun i j q => by omega) ?_
    rw [← hU]
    exact q_fd_out (P := fun a b => a = 262 ∨ (a = 207 ∧ b = 0)) (fun a b hab => by rw [am_set_p (by omega), am_set_p (by omega)]) (fun i j q => by omega) fd2
  have u07 : t3 0 7 = if q_good L = 0 then s 0 7 else 0 := by
    rw [o5 _ _ (by omega), ← hU, am_set_p (by omega), am_set_p (by omega), u2, o1 _ _ (by omega)]
  have u38 : t3 207 38 = if q_good L = 0 then s 207 38 else 0 := by
    rw [u3, o3 _ _ (by omega)]
  refine pu_chg0 hP hZ (q_P0_fr oA) fd4 fd3 (A' := q_pick L (am_set (Z 6) 219 k a3) (Z 6)) (R' := q_pick L (q_reck (am_set (Z 6) 219 k a3) (Z 8)) (Z 8)) ?_ ?_ ?_ (q_dq_p (q_dq_k wd.1.2 (q_dk_of (am_set_p (by omega)) (am_set_o (by omega)) (am_set_o (by omega)) (am_set_o (by omega))))) (q_gd_p hgd9)
  · rcases hpick with ⟨g1, g2, g3⟩ | ⟨g1, g2, g3⟩
    · rw [g3] at cd3 md3 ⊢
      exact ⟨cd3, q_oc_B ho oc3, md3, w1⟩
    · rw [g3] at cd3 md3 ⊢
      exact ⟨cd3, oc3, md3, wd⟩
  · rcases hpick with ⟨g1, g2, g3⟩ | ⟨g1, g2, g3⟩
    · rw [g3] at cb3 mb3 ⊢
      rw [g3]
      exact ⟨cb3, mb3, hgR g2⟩
    · rw [g3] at cb3 mb3 ⊢
      rw [g3]
      exact ⟨cb3, mb3, wr⟩
  · rcases hpick with ⟨g1, g2, g3⟩ | ⟨g1, g2, g3⟩
    · right
      rw [g2, if_neg i10] at u07 u38
      rw [g3, g3, hnt, eR.2.1, eR.2.2]
      exact ⟨u07, u38, Nat.le_refl _, fun _ _ => Nat.le_refl _, fun _ _ => Or.inl rfl⟩
    · left
      rw [g2, if_pos rfl] at u07 u38
      exact ⟨u07, u38, g3 _ _, g3 _ _⟩
end

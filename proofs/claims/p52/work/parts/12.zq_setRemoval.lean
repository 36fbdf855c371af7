noncomputable section
theorem op_setRemoval_ok {c d : Nat} (hcd : c ≤ d) : op_setRemoval (pu_R c) (pu_R d) := by
  intro s a1 a2 a3 h
  replace h := h.mono hcd
  have h' := h
  obtain ⟨hP, Z, hZ⟩ := h
  obtain ⟨cd, oc, md, wd⟩ : q_x1 s (Z 6) := hZ 1
  have hT := qd_wantC cd wd a1 a2
  have hI := qd_isC md wd a1 a2
  have p38 : ∀ y : Int32, y ≠ 0 → p_MO_setRemoval_38 s a1 a2 a3 y ∧ f_MO_setRemoval_38 s a1 a2 a3 y = (0, am_set s 207 0 y) := fun y hy => by
    unfold p_MO_setRemoval_38 f_MO_setRemoval_38
    rw [pr_holds1 s hy]
    exact ⟨⟨fun _ => trivial, fun q => absurd rfl q⟩, rfl⟩
  rcases q_isC_c wd a1 a2 with g | ⟨g, T, C, ht, ht4, hc, hc6, rfl, rfl⟩
  · rw [g, if_pos rfl] at hT
    rw [g] at hI
    refine on_setRemoval_1 (v := 0) (s1 := s) (w := 0) (t := am_set s 207 0 1) (by unfold f_CB_setRemoval; rw [hT]; rfl) (by unfold p_CB_setRemoval; rw [hT]; exact ⟨qd_pwantC _ _ _, fun q => absurd q (by decide)⟩) ?_ ?_ am_set_q (pu_R_thrown h')
    · unfold p_MO_setRemoval; rw [hI]; exact ⟨qd_pisC md wd _ _, fun _ => (p38 1 (by decide)).1, fun q => absurd rfl q⟩
    · unfold f_MO_setRemoval; rw [hI, if_pos rfl, (p38 1 (by decide)).2]
  rw [g, if_neg i10] at hT
  rw [g] at hI
  have hL := qd_link cd ht4 hc6
  have hK := qd_kind md wd ht4 hc6
  have hno : (Z 6 209 (6 * T + C) ≠ 1 ∨ f_MO_in s a3 (0 : Int32) (2 : Int32) = 0) → p_MO_setRemoval s (nI T) (nI C) a3 ∧ f_MO_setRemoval s (nI T) (nI C) a3 = (0, am_set s 207 0 2) := fun q => by
    unfold p_MO_setRemoval f_MO_setRemoval p_MO_setRemoval_37 f_MO_setRemoval_37
    rw [hI, if_neg i10, hK.2]
    refine ⟨⟨qd_pisC md wd _ _, fun q => absurd q i10, fun _ => ⟨hK.1, fun e => ⟨fun _ => (p38 2 (by decide)).1, fun e2 => ?_⟩, fun _ => (p38 2 (by decide)).1⟩⟩, ?_⟩
    · rcases q with q | q
      · exact absurd e q
      · exact absurd q e2
    · by_cases e : Z 6 209 (6 * T + C) = 1
      · rw [if_pos e]
        rcases q with q | q
        · exact absurd e q
        · rw [if_pos q]; exact (p38 2 (by decide)).2
      · rw [if_neg e]; exact (p38 2 (by decide)).2
  by_cases e : Z 6 209 (6 * T + C) = 1
  rotate_left
  · rw [if_neg e] at hL
    have := hno (Or.inl e)
    exact on_setRemoval_2 (v := 0) (s1 := s) (by unfold f_CB_setRemoval; rw [hT, hL]; rfl) (by unfold p_CB_setRemoval; rw [hT, hL]; exact ⟨qd_pwantC _ _ _, fun _ => ⟨qd_plink _ _ _, fun q => absurd q (by decide)⟩⟩) this.1 this.2 am_set_q (pu_R_thrown h')
  rw [if_pos e] at hL
  rcases qb_removal s a3 with ⟨v1, v2⟩ | ⟨v1, v2⟩
  rotate_left
  · have := hno (Or.inr v2)
    exact on_setRemoval_2 (v := 0) (s1 := s) (by unfold f_CB_setRemoval; rw [hT, hL, v1]; rfl) (by unfold p_CB_setRemoval; rw [hT, hL, v1]; exact ⟨qd_pwantC _ _ _, fun _ => ⟨qd_plink _ _ _, fun _ q => absurd q (by decide)⟩⟩) this.1 this.2 am_set_q (pu_R_thrown h')
  have hk24 : 6 * T + C < 24 := by omega
  have hC : f_CB_setRemoval s (nI T) (nI C) a3 = (0, Z 6 213 (6 * T + C), am_set (am_set s 0 7 0) (20 + (6 * T + C)) 4 a3) := by
    unfold f_CB_setRemoval f_CB_forgetActs
    rw [hT, hL, v1, qd_col ht4 hc6, am_set_p (by omega), cd.2.2.2 _ 4 hk24 (by omega) (by omega)]; rfl
  have hMo : ∀ u : am_M, q_md u (Z 6) → p_MO_setRemoval u (nI T) (nI C) a3 ∧ f_MO_setRemoval u (nI T) (nI C) a3 = (Z 6 213 (6 * T + C), am_set (am_set (am_set u 207 0 0) 213 (6 * T + C) a3) 207 38 0) := fun u mu => by
    have hI := qd_isC mu wd (nI T) (nI C)
    have hK := qd_kind mu wd ht4 hc6
    have v3 : f_MO_in u a3 (0 : Int32) (2 : Int32) = 1 := v2
    have hv : vp_in (nI (6 * T + C)) 24 := vp_in_nI hk24 (by omega)
    rw [g] at hI
    unfold p_MO_setRemoval f_MO_setRemoval p_MO_setRemoval_38 f_MO_setRemoval_38
    rw [hI, if_neg i10, hK.2, if_pos e, v3, if_neg i10, pr_holds0, if_neg i10, qw_6, nI_add, nI_clamp (n := 6 * T + C) (by omega)]
    refine ⟨⟨qd_pisC mu wd _ _, fun q => absurd q i10, fun _ => ⟨hK.1, fun _ => ⟨fun q => absurd q i10, fun _ => ⟨fun q => absurd q i10, fun _ => ⟨hv, hv, trivial⟩⟩⟩, fun q => absurd e q⟩⟩, ?_⟩
    dsimp only
    rw [am_set_p (by omega), mu.2 213 (by omega) (by omega)]
  have hm1 := hMo (am_set (am_set (am_set s 0 7 0) (20 + (6 * T + C)) 4 a3) 262 0 (Z 6 213 (6 * T + C))) (q_md_set (by omega) (q_md_set (by omega) (q_md_set (by omega) md)))
  refine og_setRemoval (hn := (q_x7_g (hZ 7)).2.2.2 _ hk24) hC (by unfold p_CB_setRemoval f_CB_forgetActs; rw [hT, hL, v1]; exact ⟨qd_pwantC _ _ _, fun _ => ⟨qd_plink _ _ _, fun _ _ => ⟨qd_pcol _ _ _, qd_ref _ _ _, trivial⟩⟩⟩) hm1.1 hm1.2 ?_ ?_ ?_
  · rw [am_set_p (by omega), am_set_p (by omega)]; exact am_set_q
  · rw [am_set_p (by omega), am_set_p (by omega), am_set_p (by omega)]; exact am_set_q
  refine pu_des (B := am_set (Z 6) 213 (6 * T + C) a3) hP hZ (am_set_p (by omega)) (fun a ha => am_set_o (by omega)) (fun k hk => ?_) ?_ ?_ ?_ ?_ ?_ ?_ (gd_rem wd (n9_rem v2) (q_x7_g (hZ 7)))
  · rw [am_set_o (by omega), am_set_o (by omega), am_set_o (by omega)]; exact wd.2.2.2.2.1 k hk
  · exact pu_fr_set (by decide) (pu_fr_set (by simp [pu_own]) (pu_fr_set (by decide) (pu_fr_set (by decide) (pu_fr_set (by rw [pu_own_col hk24]; decide) (pu_fr_set (by decide) pu_fr_0)))))
  · exact q_cd_set (by omega) (q_cd_set (by omega) (q_cd_set (by omega) (q_cd_set (by omega) (q_cd_fld (j := 4) hk24 (by omega) (by omega) (q_cd_set (by omega) cd)))))
  · exact q_md_set (by omega) (q_md_fld (by omega) (q_md_set (by omega) (q_md_set (by omega) (q_md_set (by omega) (q_md_set (by omega) md)))))
  · exact q_oc_set (by omega) (q_oc_set (by omega) (q_oc_set (by omega) (q_oc_set (by omega) (q_oc_set (by omega) (q_oc_set (by omega) oc)))))
  · repeat rw [am_set_p (by omega)]
    exact am_set_q
  · exact am_set_q
end

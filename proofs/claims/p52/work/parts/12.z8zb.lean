noncomputable section
def q_L8 (T C : Nat) : List q_It := [(8, T, q_m1, C)]
theorem qc_tell1 (s : am_M) : p_CB_tell s 1 ∧ ∃ t, f_CB_tell s 1 = (1, t) ∧ q_out s t (fun a b => a = 123 ∨ (a = 0 ∧ b = 7)) ∧ q_fd t 123 0 [] ∧ t 0 7 = 0 := by
  have pc : p_RE_copyFrom s 123 16 := ⟨⟨by omega, by decide +kernel⟩, q_pre123 _ _ _ _ _, ⟨by omega, by decide +kernel⟩, trivial⟩
  have pl : p_RE_clear s 123 := ⟨q_pre123 _ _ _ _ _, ⟨by omega, by decide +kernel⟩, trivial⟩
  refine ⟨⟨fun q => absurd q i10, fun _ => ⟨pl, Or.inr rfl, trivial⟩⟩, ?_⟩
  unfold f_CB_tell
  rw [if_neg i10]
  unfold f_RE_clear f_CB_forgetActs
  obtain ⟨r0, r1, r2, r3, r4⟩ := q_re123 s 0 (-1) (-1) (-1)
  refine ⟨_, rfl, fun a b hab => by rw [am_set_p (by omega), r0 a b (by omega)], ?_, am_set_q⟩
  exact ⟨by rw [am_set_p (by omega)]; exact r1, by rw [am_set_p (by omega)]; exact r2, by rw [am_set_p (by omega)]; exact r3, by rw [am_set_p (by omega)]; exact r4⟩
/-- the class drops a column -/
theorem qc_drop {s A R : am_M} (cd : q_cd s A) (oc : q_oc s A) (cb : q_cb s 9 10 11 R) {T C : Nat} (hT : T < 4) (hC : C < 6) (wB : q_wd (q_dp A (6 * T + C))) : p_BA_dropColumn s (nI T) (nI C) ∧ p_CB_tell (f_BA_dropColumn s (nI T) (nI C)) 1 ∧ ∃ t, f_CB_tell (f_BA_dropColumn s (nI T) (nI C)) 1 = (1, t) ∧ q_cdone s t [] (q_dp A (6 * T + C)) (q_dR R T C 30) := by
  have hcol := qd_col (s := s) hT hC
  have hk : 6 * T + C < 24 := by omega
  have o0 : q_out s (am_set (am_set (am_set s (20 + (6 * T + C)) 0 0) (20 + (6 * T + C)) 5 0) (20 + (6 * T + C)) 6 0) (fun a _ => a = 20 + (6 * T + C)) := fun a b q => by
    rw [am_set_p (Or.inl q), am_set_p (Or.inl q), am_set_p (Or.inl q)]
  have cd0 := q_dp_cd cd hk
  have cb0 : q_cb (am_set (am_set (am_set s (20 + (6 * T + C)) 0 0) (20 + (6 * T + C)) 5 0) (20 + (6 * T + C)) 6 0) 9 10 11 (q_dR R T C 0) := by
    rw [q_dR_z]; exact q_cb_out o0 (fun a b q => by omega) cb
  obtain ⟨S, s1, s2, s3, s4⟩ := qc_d25 hT hC (20 + (6 * T + C)) 30 0 am_F _ (by omega) (by rw [am_F_eq]; omega) cb0
  rw [nI_0] at s3 s4
  obtain ⟨o1, S2, o2, o3, o4⟩ := qo_C (q_cd_out s1 (fun a b q => by omega) cd0) wB
  have hdrop : f_BA_dropColumn s (nI T) (nI C) = S2 := by unfold f_BA_dropColumn; rw [hcol, s3, o2]
  have cd2 := q_cd_out o3 (fun a b q => by omega) (q_cd_out s1 (fun a b q => by omega) cd0)
  have cb2 := q_cb_out o3 (fun a b q => by omega) s2
  obtain ⟨pt, t, t1, t2, t3, t4⟩ := qc_tell1 S2
  rw [hdrop]
  refine ⟨?_, pt, t, t1, fun a b q => ?_, q_cd_out t2 (fun a b q => by omega) cd2, q_oc_out t2 (fun a b q => by omega) o4, q_cb_out t2 (fun a b q => by omega) cb2, t3, ?_⟩
  · unfold p_BA_dropColumn
    rw [hcol]
    exact ⟨qd_pcol _ _ _, ⟨by omega, qd_sh hk⟩, s4 o1⟩
  · unfold q_PC at q
    rw [t2 a b (by omega), o3 a b (by omega), s1 a b (by omega), o0 a b (by omega)]
  · rw [t4]; rfl
/-- the model drops a column -/
theorem qm_drop {s A R : am_M} (md : q_md s A) (mb : q_mb s R) {T C : Nat} (hT : T < 4) (hC : C < 6) (x3 : Int32) : p_MO_drop_89 am_F (am_set (am_set (am_set s 209 (6 * T + C) 3) 218 (6 * T + C) 0) 219 (6 * T + C) 0) (nI T) (nI C) x3 0 ∧ ∃ t, f_MO_drop_89 am_F (am_set (am_set (am_set s 209 (6 * T + C) 3) 218 (6 * T + C) 0) 219 (6 * T + C) 0) (nI T) (nI C) x3 0 = (1, t) ∧ q_mdone s t [] (q_dp A (6 * T + C)) (q_dR R T C 30) := by
  have o0 : q_out s (am_set (am_set (am_set s 209 (6 * T + C) 3) 218 (6 * T + C) 0) 219 (6 * T + C) 0) (fun a _ => a = 209 ∨ a = 218 ∨ a = 219) := fun a b q => by
    rw [am_set_p (by omega), am_set_p (by omega), am_set_p (by omega)]
  have md0 : q_md (am_set (am_set (am_set s 209 (6 * T + C) 3) 218 (6 * T + C) 0) 219 (6 * T + C) 0) (q_dp A (6 * T + C)) :=
    ⟨by rw [o0 _ _ (by omega), q_dp_o (by omega) (by omega) (by omega)]; exact md.1, fun a h1 h2 => am_set_c (am_set_c (am_set_c (md.2 a h1 h2)))⟩
  have mb0 : q_mb (am_set (am_set (am_set s 209 (6 * T + C) 3) 218 (6 * T + C) 0) 219 (6 * T + C) 0) (q_dR R T C 0) := by
    rw [q_dR_z]; exact q_mb_out o0 (fun a b q => by omega) mb
  obtain ⟨V, v1, v2, v3, v4⟩ := qm_d89 hT hC x3 30 0 am_F _ (by omega) (by rw [am_F_eq]; omega) mb0
  rw [nI_0] at v3 v4
  have ot := q_td_o V 0 (-1) (-1) (-1)
  obtain ⟨p1, t, c1, c2, c3⟩ := @qm_chg (q_td V 0 (-1) (-1) (-1)) []
  have c1 : f_MO_isChanged (q_td V 0 (-1) (-1) (-1)) 1 = (1, t) := c1
  have p1 : p_MO_isChanged (q_td V 0 (-1) (-1) (-1)) 1 := p1
  have e116 : p_MO_drop_116 V (nI T) (nI C) x3 (nI 30) ∧ f_MO_drop_116 V (nI T) (nI C) x3 (nI 30) = (1, t) := by
    have et : (f_MO_told V 0 (-1) (-1) (-1)).2 = q_td V 0 (-1) (-1) (-1) := rfl
    unfold p_MO_drop_116 f_MO_drop_116
    rw [et, c1]
    exact ⟨⟨p1, Or.inr rfl, trivial⟩, rfl⟩
  refine ⟨v4 e116.1, t, v3.trans e116.2, fun a b q => ?_, ?_, ?_, ?_, ?_⟩
  · unfold q_PM at q
    rw [c2 a b (by omega), ot a b (by omega), v1 a b (by omega), o0 a b (by omega)]
  · exact q_md_out c2 (fun a b q => by omega) (q_md_out ot (fun a b q => by omega) (q_md_out v1 (fun a b q => by omega) md0))
  · exact q_mb_out c2 (fun a b q => by omega) (q_mb_out ot (fun a b q => by omega) v2)
  · exact q_fd_out c2 (fun a b q => by omega) (q_td_v V 0 (-1) (-1) (-1))
  · rw [c3]; rfl
end

noncomputable section
theorem op_narrow_ok {c d : Nat} (hcd : c ≤ d) : op_narrow (pu_R c) (pu_R d) := by
  intro s a1 a2 a3 a4 h
  replace h := h.mono hcd
  have h' := h
  obtain ⟨hP, Z, hZ⟩ := h
  obtain ⟨cd, oc, md, wd⟩ : q_x1 s (Z 6) := hZ 1
  obtain ⟨uc, um, uw⟩ := q_x2_p (hZ 2 : q_x2 s (Z 7))
  obtain ⟨cb, mb, wr⟩ : q_x3 s (Z 6) (Z 8) := hZ 3
  have hT := qd_wantC cd wd a1 a2
  have hE := @qd_narrow s (Z 6) md wd a1 a2 a3 a4
  have no : ∀ y : Int32, y ≠ 0 → f_MO_errorOfNarrow s a1 a2 a3 a4 = y → p_MO_narrow s a1 a2 a3 a4 ∧ f_MO_narrow s a1 a2 a3 a4 = (0, am_set s 207 0 y) := fun y hy e => by
    unfold p_MO_narrow f_MO_narrow
    rw [e, pr_holds1 s hy]
    exact ⟨⟨hE.1, fun _ => trivial, fun q => absurd rfl q⟩, rfl⟩
  have hE2 := hE.2
  rcases q_isC_c wd a1 a2 with g | ⟨g, T, C, ht, ht4, hc, hc6, rfl, rfl⟩
  · rw [g, if_pos rfl] at hT hE2
    have hn := no 1 (by decide) hE2
    exact on_narrow_1 (v := 0) (s1 := s) (by unfold f_CB_narrow; rw [hT]; rfl) (by unfold p_CB_narrow; rw [hT]; exact ⟨qd_pwantC _ _ _, fun q => absurd q (by decide)⟩) hn.1 hn.2 am_set_q (pu_R_thrown h')
  have eT : q_c (nI T) = T := nI_clamp (by omega)
  have eC : q_c (nI C) = C := nI_clamp (by omega)
  rw [g, if_neg i10] at hT hE2
  rw [eT, eC] at hE2
  have hN := qd_numcol cd ht4 hc6
  by_cases c0 : Z 6 209 (6 * T + C) = 0
  rotate_left
  · rw [if_neg c0] at hN hE2
    have hn := no 2 (by decide) hE2
    exact on_narrow_2 (v := 0) (s1 := s) (by unfold f_CB_narrow; rw [hT, hN]; rfl) (by unfold p_CB_narrow; rw [hT, hN]; exact ⟨qd_pwantC _ _ _, fun _ => ⟨qd_pnumcol _ _ _, fun q => absurd q (by decide)⟩⟩) hn.1 hn.2 am_set_q (pu_R_thrown h')
  rw [if_pos c0] at hN hE2
  rcases qb_span s a3 a4 with ⟨v1, v2⟩ | ⟨v1, v2⟩
  rotate_left
  · rw [v2, if_pos rfl] at hE2
    have hn := no 2 (by decide) hE2
    exact on_narrow_2 (v := 0) (s1 := s) (by unfold f_CB_narrow; rw [hT, hN, v1]; rfl) (by unfold p_CB_narrow; rw [hT, hN, v1]; exact ⟨qd_pwantC _ _ _, fun _ => ⟨qd_pnumcol _ _ _, fun _ q => absurd q (by decide)⟩⟩) hn.1 hn.2 am_set_q (pu_R_thrown h')
  clear no hE2 hE
  have hk : 6 * T + C < 24 := by omega
  have hcol : f_BA_column s (nI T) (nI C) = 20 + (6 * T + C) := qd_col ht4 hc6
  have ix : (6 : Int32) * nI T + nI C = nI (6 * T + C) := by rw [qw_6, nI_add]
  have hnaw : q_brk (q_rg (Z 6) (6 * T + C) a3 a4) (Z 7) (q_reck (q_rg (Z 6) (6 * T + C) a3 a4) (q_na (Z 8) T C a3 a4 30)) = [] → q_wr (q_rg (Z 6) (6 * T + C) a3 a4) (q_reck (q_rg (Z 6) (6 * T + C) a3 a4) (q_na (Z 8) T C a3 a4 30)) := fun q => by
    obtain ⟨w1, ho, hwr, hnt, hwe⟩ := q_rg_wd (k := 6 * T + C) (lo := a3) (hi := a4) wd
    refine q_wr_good (U := Z 7) w1 (q_na_we (hwe _ wr.we)) (fun p e hp he hh hk => ?_) q
    rw [q_na_r (by omega)] at hh
    unfold q_na
    by_cases z : 2 = 2 ∧ (6 * p + e) / 180 = T ∧ (6 * p + e) % 6 = C ∧ (6 * p + e) / 6 % 30 < 30 ∧ q_ou (Z 8) T C a3 a4 ((6 * p + e) / 6 % 30)
    · rw [if_pos z]
    · rw [if_neg z]; exact (hwr _ wr).2.2.2.1 p e hp he hh hk
  have hna1 : q_na (Z 8) T C a3 a4 30 1 = Z 8 1 := q_na_r (by omega)
  have hna0 : q_na (Z 8) T C a3 a4 30 0 = Z 8 0 := q_na_r (by omega)
  have hmade := q_na_made wr.we (c := C) ht4 (lo := a3) (hi := a4)
  generalize hkk : 6 * T + C = k at *
  obtain ⟨w1, ho, hwr, hnt, hwe⟩ := q_rg_wd (k := k) (lo := a3) (hi := a4) wd
  have weN : q_we (q_rg (Z 6) k a3 a4) (q_na (Z 8) T C a3 a4 30) := q_na_we (hwe _ wr.we)
  -- the class
  obtain ⟨pk, S, s1, s2, s3⟩ := qk_keep cb
  have oS : q_out s (am_set (am_set S (20 + k) 1 a3) (20 + k) 2 a4) (fun a b => (13 ≤ a ∧ a ≤ 15) ∨ (a = 20 + k ∧ (b = 1 ∨ b = 2))) := fun a b hab => by
    rw [am_set_p (by omega), am_set_p (by omega), s2 a b (by omega)]
  have cdS : q_cd (am_set (am_set S (20 + k) 1 a3) (20 + k) 2 a4) (q_rg (Z 6) k a3 a4) := q_cd_fld (j := 2) hk (by omega) (by omega) (q_cd_fld (j := 1) hk (by omega) (by omega) (q_cd_out s2 (fun a b q => by omega) cd))
  have bfS : q_cb (am_set (am_set S (20 + k) 1 a3) (20 + k) 2 a4) 13 14 15 (Z 8) := q_cb_out2 (P := fun a b => a = 20 + k) (fun a b hab => by rw [am_set_p (by omega), am_set_p (by omega)]) (fun a b q => by omega) s3
  obtain ⟨B, b1, b2, b3, b4⟩ := qc_nar (R := Z 8) ht4 hc6 a3 a4 (20 + k) (s (20 + k) 1) (s (20 + k) 2) 30 0 am_F (am_set (am_set S (20 + k) 1 a3) (20 + k) 2 a4) (by omega) (by rw [am_F_eq]; omega) (by rw [q_na_0]; exact q_cb_out oS (fun a b q => by omega) cb)
  rw [nI_0] at b3 b4
  have oB : q_out s B (fun a b => a = 11 ∨ (13 ≤ a ∧ a ≤ 15) ∨ (a = 20 + k ∧ (b = 1 ∨ b = 2))) := fun a b hab => by rw [b1 a b (by omega), oS a b (by omega)]
  obtain ⟨ps, T1, t1, t2, t3, t4⟩ := qs_settle (q_cd_out b1 (fun a b q => by omega) cdS) (q_oc_B ho (q_oc_out oB (fun a b q => by omega) oc)) w1 weN b2 (q_uc_out oB (fun a b q => by omega) uc) uw (q_cb_out2 b1 (fun a b q => by omega) bfS)
  have cdT := q_cd_out t2 (fun a b q => by omega) (q_cd_out b1 (fun a b q => by omega) cdS)
  have oT : q_out s T1 (fun a b => (9 ≤ a ∧ a ≤ 11) ∨ (13 ≤ a ∧ a ≤ 16) ∨ a = 19 ∨ (a = 20 + k ∧ (b = 1 ∨ b = 2))) := fun a b hab => by rw [t2 a b (by omega), oB a b (by omega)]
  -- the model, from any memory like this one
  have hmod : ∀ u : am_M, q_md u (Z 6) → q_mb u (Z 8) → q_um u (Z 7) → p_MO_saves u 6 ∧ p_MO_beyond (f_MO_saves u 6) (nI T) (nI C) a3 a4 1 ∧ p_MO_isKept (am_set (am_set (f_MO_beyond (f_MO_saves u 6) (nI T) (nI C) a3 a4 1).2 210 k a3) 211 k a4) ∧ ∃ V, f_MO_isKept (am_set (am_set (f_MO_beyond (f_MO_saves u 6) (nI T) (nI C) a3 a4 1).2 210 k a3) 211 k a4) = (q_good (q_brk (q_rg (Z 6) k a3 a4) (Z 7) (q_reck (q_rg (Z 6) k a3 a4) (q_na (Z 8) T C a3 a4 30))), V) ∧ q_md V (q_rg (Z 6) k a3 a4) ∧ q_out u V (fun a b => (a = 207 ∧ (b = 15 ∨ (31 ≤ b ∧ b ≤ 34))) ∨ a = 210 ∨ a = 211 ∨ (220 ≤ a ∧ a ≤ 221) ∨ (228 ≤ a ∧ a ≤ 230) ∨ (a = 233 ∧ 4320 ≤ b) ∨ (a = 234 ∧ 720 ≤ b) ∨ (a = 235 ∧ 24 ≤ b)) ∧ q_mb V (q_pick (q_brk (q_rg (Z 6) k a3 a4) (Z 7) (q_reck (q_rg (Z 6) k a3 a4) (q_na (Z 8) T C a3 a4 30))) (q_reck (q_rg (Z 6) k a3 a4) (q_na (Z 8) T C a3 a4 30)) (Z 8)) ∧ q_fd V 207 31 (q_brk (q_rg (Z 6) k a3 a4) (Z 7) (q_reck (q_rg (Z 6) k a3 a4) (q_na (Z 8) T C a3 a4 30))) := fun u mu bu uu => by
    obtain ⟨p1, X, x1, x2, x3⟩ := qm_saves (l := 6) (by omega) bu
    have e6 : nI 6 = (6 : Int32) := rfl
    rw [e6] at p1 x1
    rw [x1]
    have z := qm_nar wr.we ht4 hc6 (lo := a3) (hi := a4) (q_c (Z 8 0 T)) 0 am_F 0 X (by omega) (by have := (wr.1 T ht4).2.1; rw [am_F_eq]; omega) (by rw [q_na_0]; exact q_mb_out x2 (fun a b q => by omega) bu)
    rw [nI_0] at z
    have z2 : p_MO_beyond X (nI T) (nI C) a3 a4 1 ∧ q_out X (f_MO_beyond X (nI T) (nI C) a3 a4 1).2 (fun a _ => a = 230) ∧ q_mb (f_MO_beyond X (nI T) (nI C) a3 a4 1).2 (q_na (Z 8) T C a3 a4 (q_c (Z 8 0 T))) := z
    rw [← hmade] at z2
    obtain ⟨z3, z4, z5⟩ := z2
    generalize (f_MO_beyond X (nI T) (nI C) a3 a4 1).2 = Y at z4 z5 ⊢
    have oY : q_out u Y (fun a b => a = 230 ∨ (a = 233 ∧ 4320 ≤ b) ∨ (a = 234 ∧ 720 ≤ b) ∨ (a = 235 ∧ 24 ≤ b)) := fun a b hab => by rw [z4 a b (by omega), x2 a b (by omega)]
    have o5 : q_out Y (am_set (am_set Y 210 k a3) 211 k a4) (fun a b => a = 210 ∨ a = 211) := fun a b hab => by rw [am_set_p (by omega), am_set_p (by omega)]
    have mdW : q_md (am_set (am_set Y 210 k a3) 211 k a4) (q_rg (Z 6) k a3 a4) := q_md_fld (by omega) (q_md_fld (by omega) (q_md_out oY (fun a b q => by omega) mu))
    obtain ⟨p2, V, y1, y2, y3, y4⟩ := qm_isKept mdW w1 weN (q_mb_out o5 (fun a b q => by omega) z5) (q_um_out o5 (fun a b q => by omega) (q_um_out oY (fun a b q => by omega) uu)) uw (q_mh_out o5 (fun a b q => by omega) (q_mh_out z4 (fun a b q => by omega) x3))
    exact ⟨p1, z3, p2, V, y1, q_md_out y2 (fun a b q => by omega) mdW, fun a b hab => by rw [y2 a b (by omega), o5 a b (by omega), oY a b (by omega)], y3, y4⟩
  have eR := q_we_reck w1 weN
  have hpick := q_good_c (q_brk (q_rg (Z 6) k a3 a4) (Z 7) (q_reck (q_rg (Z 6) k a3 a4) (q_na (Z 8) T C a3 a4 30)))
  have hgd9 : q_brk (q_rg (Z 6) k a3 a4) (Z 7) (q_reck (q_rg (Z 6) k a3 a4) (q_na (Z 8) T C a3 a4 30)) = [] → q_gd (q_rg (Z 6) k a3 a4) (Z 7) (q_reck (q_rg (Z 6) k a3 a4) (q_na (Z 8) T C a3 a4 30)) := fun q => gd_reck w1 (dd_8 (by unfold q_rg; rw [am_set_o (by omega), am_set_o (by omega)]) (by unfold q_rg; rw [am_set_o (by omega), am_set_o (by omega)]) (q_x7_g (hZ 7)).2.2) q
  generalize q_brk (q_rg (Z 6) k a3 a4) (Z 7) (q_reck (q_rg (Z 6) k a3 a4) (q_na (Z 8) T C a3 a4 30)) = L at *
  have ex1 : s (20 + k) 1 = Z 6 210 k := cd.2.2.2 k 1 hk (by omega) (by omega)
  have ex2 : s (20 + k) 2 = Z 6 211 k := cd.2.2.2 k 2 hk (by omega) (by omega)
  have cdB : q_cd (am_set (am_set T1 (20 + k) 1 (s (20 + k) 1)) (20 + k) 2 (s (20 + k) 2)) (Z 6) := by
    have h := q_cd_fld (x := Z 6 211 k) (j := 2) hk (by omega) (by omega) (q_cd_fld (x := Z 6 210 k) (j := 1) hk (by omega) (by omega) cdT)
    rw [ex1, ex2]
    have e : am_set (am_set (q_rg (Z 6) k a3 a4) 210 k (Z 6 210 k)) 211 k (Z 6 211 k) = Z 6 := q_rg_back
    have h2 : q_cd (am_set (am_set T1 (20 + k) 1 (Z 6 210 k)) (20 + k) 2 (Z 6 211 k)) (am_set (am_set (q_rg (Z 6) k a3 a4) 210 k (Z 6 210 k)) 211 k (Z 6 211 k)) := h
    rw [e] at h2; exact h2
  generalize ht1 : (if q_good L = 0 then am_set (am_set T1 (20 + k) 1 (s (20 + k) 1)) (20 + k) 2 (s (20 + k) 2) else T1) = t9
  have hB : p_BA_changeRange s (nI T) (nI C) a3 a4 ∧ f_BA_changeRange s (nI T) (nI C) a3 a4 = (q_good L, t9) := by
    unfold p_BA_changeRange f_BA_changeRange
    rw [hcol, s1, b3]
    unfold f_BA_changeRange_89
    rw [t1]
    refine ⟨⟨qd_pcol _ _ _, ⟨by omega, qd_sh hk⟩, pk, b4 ?_⟩, ?_⟩
    · unfold p_BA_changeRange_89
      rw [t1]
      exact ⟨ps, fun _ => ⟨⟨by omega, qd_sh hk⟩, q_good_01 L, trivial⟩, fun _ => ⟨q_good_01 L, trivial⟩⟩
    · rw [← ht1]
      by_cases q : q_good L = 0
      · rw [if_pos q, if_pos q]
      · rw [if_neg q, if_neg q]
  have o1 : q_out s t9 (fun a b => (9 ≤ a ∧ a ≤ 11) ∨ (13 ≤ a ∧ a ≤ 16) ∨ a = 19 ∨ (a = 20 + k ∧ (b = 1 ∨ b = 2))) := fun a b hab => by
    rw [← ht1]
    by_cases q : q_good L = 0
    · rw [if_pos q, am_set_p (by omega), am_set_p (by omega), oT a b hab]
    · rw [if_neg q, oT a b hab]
  have oK : q_out T1 t9 (fun a b => a = 20 + k) := fun a b hab => by
    rw [← ht1]
    by_cases q : q_good L = 0
    · rw [if_pos q, am_set_p (by omega), am_set_p (by omega)]
    · rw [if_neg q]
  have cd1 : q_cd t9 (q_pick L (q_rg (Z 6) k a3 a4) (Z 6)) := by
    rw [← ht1]
    rcases hpick with ⟨g1, g2, g3⟩ | ⟨g1, g2, g3⟩
    · rw [g2, if_neg i10, g3]; exact cdT
    · rw [g2, if_pos rfl, g3]; exact cdB
  have cb1 := q_cb_out oK (fun a b q => by omega) t3
  have fd1 := q_fd_out oK (fun i j q => by omega) t4
  obtain ⟨pt, t2', ht2, o2, fd2, u2⟩ := qc_tell fd1
  have hC : f_CB_narrow s (nI T) (nI C) a3 a4 = (0, q_good L, t2') := by
    unfold f_CB_narrow
    rw [hT, hN, v1, hB.2]
    dsimp only
    rw [ht2]; rfl
  have pC : p_CB_narrow s (nI T) (nI C) a3 a4 := by
    unfold p_CB_narrow
    rw [hT, hN, v1, hB.2]
    dsimp only
    rw [ht2]
    exact ⟨qd_pwantC _ _ _, fun _ => ⟨qd_pnumcol _ _ _, fun _ _ => ⟨hB.1, pt, q_good_01 L, trivial⟩⟩⟩
  have o3 : q_out s (am_set (am_set t2' 262 0 (if q_good L = 0 then 0 else 1)) 207 0 0) (fun a b => (9 ≤ a ∧ a ≤ 11) ∨ (13 ≤ a ∧ a ≤ 16) ∨ a = 19 ∨ (a = 20 + k ∧ (b = 1 ∨ b = 2)) ∨ a = 123 ∨ (a = 0 ∧ b = 7) ∨ a = 262 ∨ (a = 207 ∧ b = 0)) := fun a b hab => by
    rw [am_set_p (by omega), am_set_p (by omega), o2 a b (by omega), o1 a b (by omega)]
  have o4 : q_out s (am_set t2' 262 0 (if q_good L = 0 then 0 else 1)) (fun a b => (9 ≤ a ∧ a ≤ 11) ∨ (13 ≤ a ∧ a ≤ 16) ∨ a = 19 ∨ (a = 20 + k ∧ (b = 1 ∨ b = 2)) ∨ a = 123 ∨ (a = 0 ∧ b = 7) ∨ a = 262) := fun a b hab => by
    rw [am_set_p (by omega), o2 a b (by omega), o1 a b (by omega)]
  have hE2 := @qd_narrow (am_set t2' 262 0 (if q_good L = 0 then 0 else 1)) (Z 6) (q_md_out o4 (fun a b q => by omega) md) wd (nI T) (nI C) a3 a4
  rw [g, if_neg i10, eT, eC, hkk, if_pos c0, show f_MO_isSpan (am_set t2' 262 0 (if q_good L = 0 then 0 else 1)) a3 a4 = 1 from v2, if_neg i10] at hE2
  obtain ⟨ps2, pb2, pk2, V, hV, mdV, oV, mbV, fdV⟩ := hmod _ (q_md_out o3 (fun a b q => by omega) md) (q_mb_out o3 (fun a b q => by omega) mb) (q_um_out o3 (fun a b q => by omega) um)
  have eu1 : am_set (am_set t2' 262 0 (if q_good L = 0 then 0 else 1)) 207 0 0 210 k = Z 6 210 k := by
    have := (q_md_out o3 (fun a b q => by omega) md).2 210 (by omega) (by omega)
    rw [this]
  have eu2 : am_set (am_set t2' 262 0 (if q_good L = 0 then 0 else 1)) 207 0 0 211 k = Z 6 211 k := by
    have := (q_md_out o3 (fun a b q => by omega) md).2 211 (by omega) (by omega)
    rw [this]
  generalize hU : am_set (am_set t2' 262 0 (if q_good L = 0 then 0 else 1)) 207 0 0 = u at *
  have hv : vp_in (nI k) 24 := vp_in_nI hk (by omega)
  generalize hW : (if q_good L = 0 then am_set (am_set V 210 k (Z 6 210 k)) 211 k (Z 6 211 k) else am_set (am_set V 210 k a3) 211 k a4) = W
  obtain ⟨pch, t3', ht3, o5, u3⟩ := @qm_chg W L
  have oW : q_out V W (fun a b => a = 210 ∨ a = 211) := fun a b hab => by
    rw [← hW]
    by_cases q : q_good L = 0
    · rw [if_pos q, am_set_p (by omega), am_set_p (by omega)]
    · rw [if_neg q, am_set_p (by omega), am_set_p (by omega)]
  have mdW : q_md W (q_pick L (q_rg (Z 6) k a3 a4) (Z 6)) := by
    rw [← hW]
    rcases hpick with ⟨g1, g2, g3⟩ | ⟨g1, g2, g3⟩
    · rw [g2, if_neg i10, g3]
      have h := q_md_fld (a := 211) (k := k) (x := a4) (by omega) (q_md_fld (a := 210) (k := k) (x := a3) (by omega) mdV)
      rw [q_rg_again] at h; exact h
    · rw [g2, if_pos rfl, g3]
      have h := q_md_fld (a := 211) (k := k) (x := Z 6 211 k) (by omega) (q_md_fld (a := 210) (k := k) (x := Z 6 210 k) (by omega) mdV)
      rw [q_rg_back] at h; exact h
  have h101 : ∀ x : Int32, (q_good L ≠ 0 → x = a3) → (q_good L = 0 → x = Z 6 210 k) → p_MO_narrow_101 V (nI T) (nI C) a3 a4 (nI k) (Z 6 210 k) (Z 6 211 k) (q_good L) (nI k) x ∧ f_MO_narrow_101 V (nI T) (nI C) a3 a4 (nI k) (Z 6 210 k) (Z 6 211 k) (q_good L) (nI k) x = (q_good L, t3') := fun x hx1 hx2 => by
    unfold p_MO_narrow_101 f_MO_narrow_101
    rw [nI_clamp (n := k) (by omega)]
    by_cases q : q_good L = 0
    · rw [if_pos q] at hW
      rw [hx2 q, hW, ht3, if_pos q]
      exact ⟨⟨hv, fun _ => ⟨hv, pch, q_good_01 L, trivial⟩, fun z => absurd q z⟩, rfl⟩
    · rw [if_neg q] at hW
      rw [hx1 q, hW, ht3, if_neg q]
      exact ⟨⟨hv, fun z => absurd z q, fun _ => ⟨hv, pch, q_good_01 L, trivial⟩⟩, rfl⟩
  have hM : p_MO_narrow (am_set t2' 262 0 (if q_good L = 0 then 0 else 1)) (nI T) (nI C) a3 a4 ∧ f_MO_narrow (am_set t2' 262 0 (if q_good L = 0 then 0 else 1)) (nI T) (nI C) a3 a4 = (q_good L, t3') := by
    unfold p_MO_narrow f_MO_narrow
    rw [hE2.2, pr_holds0, hU, ix, nI_clamp (n := k) (by omega)]
    dsimp only
    rw [hV, eu1, eu2]
    dsimp only
    rw [if_neg i10]
    refine ⟨⟨hE2.1, fun q => absurd q i10, fun _ => ⟨hv, hv, ps2, pb2, hv, hv, pk2, fun q => (h101 _ (fun z => absurd q z) (fun _ => rfl)).1, fun q => (h101 _ (fun _ => rfl) (fun z => absurd z q)).1⟩⟩, ?_⟩
    by_cases q : q_good L = 0
    · rw [if_pos q]; exact (h101 _ (fun z => absurd q z) (fun _ => rfl)).2
    · rw [if_neg q]; exact (h101 _ (fun _ => rfl) (fun z => absurd z q)).2
  have oE : q_out u t3' (fun a b => (a = 207 ∧ (b = 15 ∨ (31 ≤ b ∧ b ≤ 34) ∨ b = 38)) ∨ a = 210 ∨ a = 211 ∨ (220 ≤ a ∧ a ≤ 221) ∨ (228 ≤ a ∧ a ≤ 230) ∨ (a = 233 ∧ 4320 ≤ b) ∨ (a = 234 ∧ 720 ≤ b) ∨ (a = 235 ∧ 24 ≤ b)) := fun a b hab => by
    rw [o5 a b (by omega), oW a b (by omega), oV a b (by omega)]
  refine og_narrow hC pC hM.1 hM.2 ?_ ?_ ?_
  · rw [oE _ _ (by omega), ← hU]; exact am_set_q
  · rw [oE _ _ (by omega), ← hU, am_set_p (by omega)]; exact am_set_q
  have oA : q_out s t3' q_P0 := fun a b hab => by
    unfold q_P0 at hab
    rw [oE a b (by omega), o3 a b (by omega)]
  have cd3 : q_cd t3' (q_pick L (q_rg (Z 6) k a3 a4) (Z 6)) := by
    refine q_cd_out oE (fun a b q => by omega) ?_
    rw [← hU]
    exact q_cd_set (by omega) (q_cd_set (by omega) (q_cd_out o2 (fun a b q => by omega) cd1))
  have cb3 : q_cb t3' 9 10 11 (q_pick L (q_reck (q_rg (Z 6) k a3 a4) (q_na (Z 8) T C a3 a4 30)) (Z 8)) := by
    refine q_cb_out oE (fun a b q => by omega) ?_
    rw [← hU]
    exact q_cb_set (by omega) (q_cb_set (by omega) (q_cb_out o2 (fun a b q => by omega) cb1))
  have oc3 : q_oc t3' (Z 6) := q_oc_out oE (fun a b q => by omega) (q_oc_out o3 (fun a b q => by omega) oc)
  have md3 : q_md t3' (q_pick L (q_rg (Z 6) k a3 a4) (Z 6)) := q_md_out o5 (fun a b q => by omega) mdW
  have mb3 := q_mb_out o5 (fun a b q => by omega) (q_mb_out oW (fun a b q => by omega) mbV)
  have fd3 := q_fd_out o5 (fun i j q => by omega) (q_fd_out oW (fun i j q => by omega) fdV)
  have fd4 : q_fd t3' 123 0 L := by
    refine q_fd_out oE (fun i j q => by omega) ?_
    rw [← hU]
    exact q_fd_out (P := fun a b => a = 262 ∨ (a = 207 ∧ b = 0)) (fun a b hab => by rw [am_set_p (by omega), am_set_p (by omega)]) (fun i j q => by omega) fd2
  have u07 : t3' 0 7 = if q_good L = 0 then s 0 7 else 0 := by
    rw [oE _ _ (by omega), ← hU, am_set_p (by omega), am_set_p (by omega), u2, o1 _ _ (by omega)]
  have u38 : t3' 207 38 = if q_good L = 0 then s 207 38 else 0 := by
    rw [u3, oW _ _ (by omega), oV _ _ (by omega), o3 _ _ (by omega)]
  refine pu_chg0 hP hZ (q_P0_fr oA) fd4 fd3 (A' := q_pick L (q_rg (Z 6) k a3 a4) (Z 6)) (R' := q_pick L (q_reck (q_rg (Z 6) k a3 a4) (q_na (Z 8) T C a3 a4 30)) (Z 8)) ?_ ?_ ?_ (q_dq_p (q_dq_k wd.1.2 (q_dk_of ((am_set_p (by omega)).trans (am_set_p (by omega))) ((am_set_o (by omega)).trans (am_set_o (by omega))) ((am_set_o (by omega)).trans (am_set_o (by omega))) ((am_set_o (by omega)).trans (am_set_o (by omega)))))) (q_gd_p hgd9)
  · rcases hpick with ⟨g1, g2, g3⟩ | ⟨g1, g2, g3⟩
    · rw [g3] at cd3 md3 ⊢
      exact ⟨cd3, q_oc_B ho oc3, md3, w1⟩
    · rw [g3] at cd3 md3 ⊢
      exact ⟨cd3, oc3, md3, wd⟩
  · rcases hpick with ⟨g1, g2, g3⟩ | ⟨g1, g2, g3⟩
    · rw [g3] at cb3 mb3 ⊢
      rw [g3]
      exact ⟨cb3, mb3, hnaw g1⟩
    · rw [g3] at cb3 mb3 ⊢
      rw [g3]
      exact ⟨cb3, mb3, wr⟩
  · rcases hpick with ⟨g1, g2, g3⟩ | ⟨g1, g2, g3⟩
    · right
      rw [g2, if_neg i10] at u07 u38
      rw [g3, g3, hnt, eR.2.1, eR.2.2, hna1, hna0]
      exact ⟨u07, u38, Nat.le_refl _, fun _ _ => Nat.le_refl _, fun _ _ => Or.inl rfl⟩
    · left
      rw [g2, if_pos rfl] at u07 u38
      exact ⟨u07, u38, g3 _ _, g3 _ _⟩
end

noncomputable section
-- choice: the operation
theorem op_choice_ok {c d : Nat} (hcd : c ≤ d) : op_choice (pu_R c) (pu_R d) := by
  intro s a1 a2 a3 a4 h
  replace h := h.mono hcd
  have h' := h
  obtain ⟨hP, Z, hZ⟩ := h
  obtain ⟨cd, oc, md, wd⟩ : q_x1 s (Z 6) := hZ 1
  obtain ⟨uc, um, uw⟩ := q_x2_p (hZ 2 : q_x2 s (Z 7))
  obtain ⟨cb, mb, wr⟩ : q_x3 s (Z 6) (Z 8) := hZ 3
  have hT := qr_row cd wd cb a1 a2
  have hr := qr_isRow md wd wr.we mb a1 a2
  have p55 : ∀ (x5 y : Int32), y ≠ 0 → p_MO_choice_55 s a1 a2 a3 a4 x5 y ∧ f_MO_choice_55 s a1 a2 a3 a4 x5 y = (0, am_set s 207 0 y) := fun x5 y hy => by
    unfold p_MO_choice_55 f_MO_choice_55
    rw [pr_holds1 s hy]
    exact ⟨⟨fun _ => trivial, fun q => absurd rfl q⟩, rfl⟩
  have p22 : p_MO_choice_22 s a1 a2 a3 a4 ∧ f_MO_choice_22 s a1 a2 a3 a4 = (0, am_set s 207 0 1) := by
    unfold p_MO_choice_22 f_MO_choice_22 p_MO_choice_23 f_MO_choice_23
    rw [if_pos rfl]
    exact ⟨⟨fun _ => (p55 0 1 (by decide)).1, fun q => absurd rfl q⟩, (p55 0 1 (by decide)).2⟩
  rcases q_isR_c wd wr.we a1 a2 with g | ⟨g, T, r, ht, ht4, hr30, hrm, rfl, rfl, hh⟩
  · rw [g, if_pos rfl] at hT
    rw [g] at hr
    refine on_choice_1 (v := 0) (s1 := s) (w := 0) (t := am_set s 207 0 1) (by unfold f_CB_choice; rw [hT]; rfl) (by unfold p_CB_choice; rw [hT]; exact ⟨qr_prow _ _ _, fun q => absurd q (by decide)⟩) ?_ ?_ am_set_q (pu_R_thrown h')
    · unfold p_MO_choice; rw [hr.2]; exact ⟨hr.1, fun _ => p22.1, fun q => absurd rfl q⟩
    · unfold f_MO_choice; rw [hr.2, if_pos rfl]; exact p22.2
  rw [g, if_neg i10] at hT
  rw [g] at hr
  have hT2 := qd_wantC cd wd (nI T) a3
  have hI2 := qd_isC md wd (nI T) a3
  rcases q_isC_c wd (nI T) a3 with k | ⟨k, T2, C, hT9, hT4, hC, hC6, e1, rfl⟩
  · rw [k, if_pos rfl] at hT2
    rw [k] at hI2
    refine on_choice_1 (v := 0) (s1 := s) (w := 0) (t := am_set s 207 0 1) (by unfold f_CB_choice; rw [hT, hT2]; rfl) (by unfold p_CB_choice; rw [hT, hT2]; exact ⟨qr_prow _ _ _, fun _ => ⟨qd_pwantC _ _ _, fun q => absurd q (by decide)⟩⟩) ?_ ?_ am_set_q (pu_R_thrown h')
    · unfold p_MO_choice; rw [hr.2, hI2]; exact ⟨hr.1, fun q => absurd q i10, fun _ => ⟨qd_pisC md wd _ _, fun _ => p22.1, fun q => absurd rfl q⟩⟩
    · unfold f_MO_choice; rw [hr.2, hI2, if_neg i10, if_pos rfl]; exact p22.2
  rw [k, if_neg i10] at hT2
  rw [k] at hI2
  have eTT : T = T2 := (nI_eq (by omega) (by omega)).mp e1
  subst eTT
  have hL := qd_link cd ht4 hC6
  have hkd := qd_kind md wd ht4 hC6
  have no2 : Z 6 209 (6 * T + C) ≠ 1 ∨ a4 < 0 → p_MO_choice s (nI T) (nI r) (nI C) a4 ∧ f_MO_choice s (nI T) (nI r) (nI C) a4 = (0, am_set s 207 0 2) := fun q => by
    unfold p_MO_choice f_MO_choice p_MO_choice_23 f_MO_choice_23 p_MO_choice_54 f_MO_choice_54
    rw [hr.2, hI2, hkd.2, if_neg i10, if_neg i10, if_neg i10]
    refine ⟨⟨hr.1, fun q => absurd q i10, fun _ => ⟨qd_pisC md wd _ _, fun q => absurd q i10, fun _ => ⟨fun q => absurd q i10, fun _ => ⟨hkd.1, fun z => ⟨fun _ => (p55 1 2 (by decide)).1, fun z2 => ?_⟩, fun _ => (p55 1 2 (by decide)).1⟩⟩⟩⟩, ?_⟩
    · rcases q with q | q
      · exact absurd z q
      · exact absurd q z2
    · by_cases c1 : Z 6 209 (6 * T + C) = 1
      · rw [if_pos c1, if_pos (q.resolve_left (fun z => z c1))]; exact (p55 1 2 (by decide)).2
      · rw [if_neg c1]; exact (p55 1 2 (by decide)).2
  by_cases c1 : Z 6 209 (6 * T + C) = 1
  rotate_left
  · rw [if_neg c1] at hL
    have hno := no2 (Or.inl c1)
    exact on_choice_2 (v := 0) (s1 := s) (by unfold f_CB_choice; rw [hT, hT2, hL]; rfl) (by unfold p_CB_choice; rw [hT, hT2, hL]; exact ⟨qr_prow _ _ _, fun _ => ⟨qd_pwantC _ _ _, fun _ => ⟨qd_plink _ _ _, fun q => absurd q (by decide)⟩⟩⟩) hno.1 hno.2 am_set_q (pu_R_thrown h')
  rw [if_pos c1] at hL
  by_cases c4 : a4 < 0
  · have n4 : ¬ 0 ≤ a4 := Int32.not_le.mpr c4
    have hno := no2 (Or.inr c4)
    exact on_choice_2 (v := 0) (s1 := s) (by unfold f_CB_choice; rw [hT, hT2, hL, if_pos rfl, if_pos rfl, if_pos rfl, if_neg n4]) (by unfold p_CB_choice; rw [hT, hT2, hL]; exact ⟨qr_prow _ _ _, fun _ => ⟨qd_pwantC _ _ _, fun _ => ⟨qd_plink _ _ _, fun _ => ⟨fun q => absurd q n4, fun _ => trivial⟩⟩⟩⟩) hno.1 hno.2 am_set_q (pu_R_thrown h')
  have p4 : 0 ≤ a4 := Int32.not_lt.mp c4
  clear no2 p55 p22
  have hk : 6 * T + C < 24 := by omega
  obtain ⟨tg1, tg2⟩ := wd.2.2.2.1 (6 * T + C) hk c1
  generalize hG : q_tg (Z 6) (6 * T + C) = G at *
  have h44 := wd.1.2
  have hG4 : G < 4 := by omega
  have f3 : s (20 + (6 * T + C)) 3 = nI G := by
    have h := cd.2.2.2 (6 * T + C) 3 hk (by omega) (by omega)
    exact h.trans tg1
  have er := wr.we.1 G hG4
  -- the class
  have hcl : ∃ S, p_CB_choice_49 am_F s (nI T) (nI r) (nI C) a4 (nI G) a4 ∧ f_CB_choice_49 am_F s (nI T) (nI r) (nI C) a4 (nI G) a4 = (0, (if (30 : Int32) ≤ a4 then -1 else q_cx (q_cP (Z 6) (Z 7) (Z 8) G (180 * T + 6 * r + C)) (30 - q_c a4) (q_c a4)), S) ∧ q_out s S (fun a _ => (9 ≤ a ∧ a ≤ 11) ∨ (13 ≤ a ∧ a ≤ 16) ∨ a = 19) ∧ q_cb S 9 10 11 (Z 8) := by
    rcases qx_30 a4 with q | q | ⟨j, hj, rfl⟩
    · exact absurd q c4
    · obtain ⟨n, hn⟩ : ∃ n, am_F = n + 1 := ⟨am_F - 1, by rw [am_F_eq]⟩
      rw [if_pos q, hn]
      unfold p_CB_choice_49 f_CB_choice_49
      rw [if_pos q]
      exact ⟨s, ⟨fun _ => trivial, fun z => absurd q z⟩, rfl, fun _ _ _ => rfl, cb⟩
    · rw [if_neg (ql_30 hj), show q_c (nI j) = j from nI_clamp (by omega)]
      obtain ⟨i1, S, i2, i3, i4⟩ := qc_ch wd wr.we uw ht4 hr30 hC6 hG4 (Or.inr c1) (nI j) (30 - j) j am_F s (by omega) (by rw [am_F_eq]; omega) cd oc cb uc
      exact ⟨S, i1, i2, i3, i4⟩
  obtain ⟨S, q1, q2, o1, cb1⟩ := hcl
  generalize hv : (if (30 : Int32) ≤ a4 then (-1 : Int32) else q_cx (q_cP (Z 6) (Z 7) (Z 8) G (180 * T + 6 * r + C)) (30 - q_c a4) (q_c a4)) = v at *
  have hC : f_CB_choice s (nI T) (nI r) (nI C) a4 = (0, v, S) := by
    unfold f_CB_choice
    rw [hT, hT2, hL, if_pos rfl, if_pos rfl, if_pos rfl, if_pos p4, qd_col ht4 hC6, f3]; exact q2
  have pC : p_CB_choice s (nI T) (nI r) (nI C) a4 := by
    unfold p_CB_choice
    rw [hT, hT2, hL, qd_col ht4 hC6, f3]
    exact ⟨qr_prow _ _ _, fun _ => ⟨qd_pwantC _ _ _, fun _ => ⟨qd_plink _ _ _, fun _ => ⟨fun _ => ⟨qd_pcol _ _ _, ⟨by omega, qd_sh hk⟩, q1⟩, fun q => absurd p4 q⟩⟩⟩⟩
  -- the model
  have oU : q_out s (am_set S 262 0 v) (fun a _ => (9 ≤ a ∧ a ≤ 11) ∨ (13 ≤ a ∧ a ≤ 16) ∨ a = 19 ∨ a = 262) := fun a b hab => by rw [am_set_p (by omega), o1 a b (by omega)]
  have oU2 : q_out s (am_set (am_set S 262 0 v) 207 0 0) (fun a b => (9 ≤ a ∧ a ≤ 11) ∨ (13 ≤ a ∧ a ≤ 16) ∨ a = 19 ∨ a = 262 ∨ (a = 207 ∧ b = 0)) := fun a b hab => by rw [am_set_p (by omega), oU a b (by omega)]
  have mU := q_md_out oU (fun a b q => by omega) md
  have bU := q_mb_out oU (fun a b q => by omega) mb
  have mU2 := q_md_out oU2 (fun a b q => by omega) md
  have bU2 := q_mb_out oU2 (fun a b q => by omega) mb
  have uU2 := q_um_out oU2 (fun a b q => by omega) um
  have hrU := qr_isRow mU wd wr.we bU (nI T) (nI r)
  rw [g] at hrU
  have hIU := qd_isC mU wd (nI T) (nI C)
  rw [k] at hIU
  have hkU := qd_kind mU wd ht4 hC6
  have ix : (6 : Int32) * nI T + nI C = nI (6 * T + C) := by rw [qw_6, nI_add]
  have e212 : am_set (am_set S 262 0 v) 207 0 0 212 (6 * T + C) = nI G := by
    rw [mU2.2 212 (by omega) (by omega)]; exact tg1
  have e0 : am_set (am_set S 262 0 v) 207 0 0 207 0 = 0 := am_set_q
  have e262 : am_set (am_set S 262 0 v) 207 0 0 262 0 = v := by rw [am_set_p (by omega)]; exact am_set_q
  have hcm : ∃ X, p_MO_choice_104 am_F (am_set (am_set S 262 0 v) 207 0 0) (nI T) (nI r) (nI C) a4 1 (am_set (am_set S 262 0 v) 207 0 0 207 31) (am_set (am_set S 262 0 v) 207 0 0 207 32) (am_set (am_set S 262 0 v) 207 0 0 207 33) (am_set (am_set S 262 0 v) 207 0 0 207 34) (nI G) a4 ∧ f_MO_choice_104 am_F (am_set (am_set S 262 0 v) 207 0 0) (nI T) (nI r) (nI C) a4 1 (am_set (am_set S 262 0 v) 207 0 0 207 31) (am_set (am_set S 262 0 v) 207 0 0 207 32) (am_set (am_set S 262 0 v) 207 0 0 207 33) (am_set (am_set S 262 0 v) 207 0 0 207 34) (nI G) a4 = (v, q_td X (am_set (am_set S 262 0 v) 207 0 0 207 31) (am_set (am_set S 262 0 v) 207 0 0 207 32) (am_set (am_set S 262 0 v) 207 0 0 207 33) (am_set (am_set S 262 0 v) 207 0 0 207 34)) ∧ q_out (am_set (am_set S 262 0 v) 207 0 0) X (fun a b => (a = 207 ∧ (b = 15 ∨ (31 ≤ b ∧ b ≤ 34))) ∨ (220 ≤ a ∧ a ≤ 221) ∨ (228 ≤ a ∧ a ≤ 230) ∨ (a = 233 ∧ 4320 ≤ b) ∨ (a = 234 ∧ 720 ≤ b) ∨ (a = 235 ∧ 24 ≤ b)) ∧ q_mb X (Z 8) := by
    generalize am_set (am_set S 262 0 v) 207 0 0 = u at *
    rcases qx_30 a4 with q | q | ⟨j, hj, rfl⟩
    · exact absurd q c4
    · obtain ⟨n, hn⟩ : ∃ n, am_F = n + 1 := ⟨am_F - 1, by rw [am_F_eq]⟩
      rw [if_pos q] at hv
      have hle : Z 8 0 G ≤ a4 := by
        rw [er.1]
        have h30 : nI (q_c (Z 8 0 G)) ≤ nI 30 := nI_le (by omega) (by omega)
        exact Int32.le_trans h30 q
      have h0 := qm_ch0 bU2 hG4 (nI T) (nI r) (nI C) a4 1 (u 207 31) (u 207 32) (u 207 33) (u 207 34) a4 hle n
      rw [hn, ← hv]
      exact ⟨u, h0.1, h0.2, fun _ _ _ => rfl, bU2⟩
    · have ej : q_c (nI j) = j := nI_clamp (by omega)
      rw [if_neg (ql_30 hj), ej] at hv
      obtain ⟨i1, X, i2, i3, i4⟩ := qm_ch wd wr.we uw ht4 hr30 hC6 tg2 (nI j) 1 (u 207 31) (u 207 32) (u 207 33) (u 207 34) (q_c (Z 8 0 G) - j) j am_F u rfl (by rw [am_F_eq]; omega) (by omega) mU2 bU2 uU2
      have hnone : ∀ i, q_c (Z 8 0 G) ≤ i → i < 30 → ¬ q_cP (Z 6) (Z 7) (Z 8) G (180 * T + 6 * r + C) i := fun i h1 h2 q => by
        have := (q_we_r wr.we hG4 h2 q.1).1
        omega
      have ev : q_cx (q_cP (Z 6) (Z 7) (Z 8) G (180 * T + 6 * r + C)) (q_c (Z 8 0 G) - j) j = v := by
        rw [← hv]
        have h := q_cx_a (P := q_cP (Z 6) (Z 7) (Z 8) G (180 * T + 6 * r + C)) (e := 30 - j - (q_c (Z 8 0 G) - j)) (q_c (Z 8 0 G) - j) j (fun i h1 h2 => hnone i (by omega) (by omega))
        rw [show q_c (Z 8 0 G) - j + (30 - j - (q_c (Z 8 0 G) - j)) = 30 - j from by omega] at h
        exact h.symm
      rw [ev] at i2
      exact ⟨X, i1, i2, i3, i4⟩
  obtain ⟨X, x1, x2, o3, mb3⟩ := hcm
  have hM : p_MO_choice (am_set S 262 0 v) (nI T) (nI r) (nI C) a4 ∧ f_MO_choice (am_set S 262 0 v) (nI T) (nI r) (nI C) a4 = (v, q_td X (am_set (am_set S 262 0 v) 207 0 0 207 31) (am_set (am_set S 262 0 v) 207 0 0 207 32) (am_set (am_set S 262 0 v) 207 0 0 207 33) (am_set (am_set S 262 0 v) 207 0 0 207 34)) := by
    unfold p_MO_choice f_MO_choice p_MO_choice_23 f_MO_choice_23 p_MO_choice_55 f_MO_choice_55
    rw [hrU.2, hIU, hkU.2, if_neg i10, if_neg i10, if_neg i10, if_pos c1, if_neg c4, pr_holds0, ix, nI_clamp (n := 6 * T + C) (by omega)]
    dsimp only
    rw [if_neg i10, e212]
    exact ⟨⟨hrU.1, fun q => absurd q i10, fun _ => ⟨qd_pisC mU wd _ _, fun q => absurd q i10, fun _ => ⟨fun q => absurd q i10, fun _ => ⟨hkU.1, fun _ => ⟨fun q => absurd q c4, fun _ => ⟨fun q => absurd q i10, fun _ => ⟨vp_in_nI hk (by omega), x1⟩⟩⟩, fun q => absurd c1 q⟩⟩⟩⟩, x2⟩
  have oT : q_out s (q_td X (am_set (am_set S 262 0 v) 207 0 0 207 31) (am_set (am_set S 262 0 v) 207 0 0 207 32) (am_set (am_set S 262 0 v) 207 0 0 207 33) (am_set (am_set S 262 0 v) 207 0 0 207 34)) (fun a b => (9 ≤ a ∧ a ≤ 11) ∨ (13 ≤ a ∧ a ≤ 16) ∨ a = 19 ∨ a = 262 ∨ (a = 207 ∧ (b = 0 ∨ b = 15)) ∨ (220 ≤ a ∧ a ≤ 221) ∨ (228 ≤ a ∧ a ≤ 230) ∨ (a = 233 ∧ 4320 ≤ b) ∨ (a = 234 ∧ 720 ≤ b) ∨ (a = 235 ∧ 24 ≤ b)) := fun a b hab => by
    obtain ⟨w1, w2, w3, w4⟩ := q_td_v X (am_set (am_set S 262 0 v) 207 0 0 207 31) (am_set (am_set S 262 0 v) 207 0 0 207 32) (am_set (am_set S 262 0 v) 207 0 0 207 33) (am_set (am_set S 262 0 v) 207 0 0 207 34)
    by_cases z : a = 207 ∧ 31 ≤ b ∧ b ≤ 34
    · obtain ⟨rfl, z1, z2⟩ := z
      have : b = 31 ∨ b = 32 ∨ b = 33 ∨ b = 34 := by omega
      rcases this with rfl | rfl | rfl | rfl
      · rw [w1, oU2 _ _ (by omega)]
      · rw [w2, oU2 _ _ (by omega)]
      · rw [w3, oU2 _ _ (by omega)]
      · rw [w4, oU2 _ _ (by omega)]
    · rw [q_td_o _ _ _ _ _ a b z, o3 a b (by omega), oU2 a b (by omega)]
  have mbT := q_mb_out (q_td_o X (am_set (am_set S 262 0 v) 207 0 0 207 31) (am_set (am_set S 262 0 v) 207 0 0 207 32) (am_set (am_set S 262 0 v) 207 0 0 207 33) (am_set (am_set S 262 0 v) 207 0 0 207 34)) (fun a b q => by omega) mb3
  have cbT : q_cb (q_td X (am_set (am_set S 262 0 v) 207 0 0 207 31) (am_set (am_set S 262 0 v) 207 0 0 207 32) (am_set (am_set S 262 0 v) 207 0 0 207 33) (am_set (am_set S 262 0 v) 207 0 0 207 34)) 9 10 11 (Z 8) := q_cb_out (q_td_o X _ _ _ _) (fun a b q => by omega) (q_cb_out o3 (fun a b q => by omega) (q_cb_set (by omega) (q_cb_set (by omega) cb1)))
  refine og_choice hC pC hM.1 hM.2 ?_ ?_ ?_
  · rw [q_td_o _ _ _ _ _ _ _ (by omega), o3 _ _ (by omega)]; exact e0
  · rw [q_td_o _ _ _ _ _ _ _ (by omega), o3 _ _ (by omega)]; exact e262
  generalize q_td X (am_set (am_set S 262 0 v) 207 0 0 207 31) (am_set (am_set S 262 0 v) 207 0 0 207 32) (am_set (am_set S 262 0 v) 207 0 0 207 33) (am_set (am_set S 262 0 v) 207 0 0 207 34) = t9 at *
  have hfr : pu_fr (· ∈ [0, 8]) s t9 := fun a b hab => oT a b (fun q => hab (by
    rcases q with q | q | q | q | ⟨q, z⟩ | q | q | q | q | q
    · rw [pu_own_8 (by omega)]; decide
    · unfold pu_own
      repeat (first | rw [if_neg (by omega)] | rw [if_pos (by omega)])
      decide
    · rw [q]; unfold pu_own
      repeat (first | rw [if_neg (by omega)] | rw [if_pos (by omega)])
      decide
    · rw [q]; unfold pu_own
      repeat (first | rw [if_neg (by omega)] | rw [if_pos (by omega)])
      decide
    · rw [q]
      rcases z with z | z <;> rw [z] <;> decide
    · unfold pu_own
      repeat (first | rw [if_neg (by omega)] | rw [if_pos (by omega)])
      decide
    · rw [pu_own_8 (by omega)]; decide
    · unfold pu_own
      repeat (first | rw [if_neg (by omega)] | rw [if_pos (by omega)])
      decide
    · unfold pu_own
      repeat (first | rw [if_neg (by omega)] | rw [if_pos (by omega)])
      decide
    · unfold pu_own
      repeat (first | rw [if_neg (by omega)] | rw [if_pos (by omega)])
      decide))
  refine pu_keepX (J := [0, 8]) (Y := Z) hP hZ hfr (fun _ _ => rfl) (fun i hi => ?_) (fun j hj => ?_)
  · have e : i = 0 ∨ i = 8 := by simpa using hi
    rcases e with rfl | rfl <;> exact trivial
  · have e : j ∈ [3, 4, 7] := hj
    have e : j = 3 ∨ j = 4 ∨ j = 7 := by simpa using e
    rcases e with rfl | rfl | rfl
    rotate_right
    · exact q_x7_d (hfr 0 7 (by decide)) rfl rfl rfl (fun _ _ => rfl) (hZ 7)
    · exact ⟨cbT, mbT, wr⟩
    · exact q_x4_d (fun a b q => hfr a b (by rcases q with q | q | q <;> rw [q] <;> decide)) rfl rfl (fun _ _ => rfl) (hZ 4)
end

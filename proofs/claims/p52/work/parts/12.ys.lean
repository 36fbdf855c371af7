noncomputable section
-- wouldLose, wouldLoseAll
theorem qd_numcol {s A : am_M} (cd : q_cd s A) {t c : Nat} (ht : t < 4) (hc : c < 6) : f_CB_wantNumberColumn s (nI t) (nI c) = if A 209 (6 * t + c) = 0 then 0 else 2 := by
  unfold f_CB_wantNumberColumn
  rw [qd_col ht hc, cd.2.2.1 _ (by omega)]
  by_cases c0 : A 209 (6 * t + c) = 0
  · rw [if_pos (q_kc_1.mpr c0), if_pos c0]
  · rw [if_neg (fun q => c0 (q_kc_1.mp q)), if_neg c0]
theorem qd_pnumcol (s : am_M) (x y : Int32) : p_CB_wantNumberColumn s x y := ⟨qd_pcol s x y, qd_ref s x y, fun _ => trivial, fun _ => trivial⟩
theorem qd_narrow {s A : am_M} (md : q_md s A) (w : q_wd A) {x y lo hi : Int32} : p_MO_errorOfNarrow s x y lo hi ∧ f_MO_errorOfNarrow s x y lo hi = if q_isC A x y = 0 then 1 else if A 209 (6 * q_c x + q_c y) = 0 then (if f_MO_isSpan s lo hi = 0 then 2 else 0) else 2 := by
  unfold p_MO_errorOfNarrow f_MO_errorOfNarrow
  rw [qd_isC md w]
  rcases q_isC_c w x y with g | ⟨g, T, C, ht, ht4, hc, hc6, rfl, rfl⟩
  · rw [g, if_pos rfl, if_pos rfl]
    exact ⟨⟨qd_pisC md w _ _, fun _ => trivial, fun q => absurd rfl q⟩, rfl⟩
  · have kd := qd_kind md w ht4 hc6
    rw [g, if_neg i10, if_neg i10, kd.2, show q_c (nI T) = T from nI_clamp (by omega), show q_c (nI C) = C from nI_clamp (by omega)]
    exact ⟨⟨qd_pisC md w _ _, fun q => absurd q i10, fun _ => ⟨kd.1, fun _ => ⟨fun _ => trivial, fun _ => trivial⟩, fun _ => trivial⟩⟩, rfl⟩
theorem op_wouldLose_ok {c d : Nat} (hcd : c ≤ d) : op_wouldLose (pu_R c) (pu_R d) := by
  intro s a1 a2 a3 a4 h
  replace h := h.mono hcd
  have h' := h
  obtain ⟨hP, Z, hZ⟩ := h
  obtain ⟨cd, oc, md, wd⟩ : q_x1 s (Z 6) := hZ 1
  obtain ⟨cb, mb, wr⟩ : q_x3 s (Z 6) (Z 8) := hZ 3
  have hT := qd_wantC cd wd a1 a2
  have hE := @qd_narrow s (Z 6) md wd a1 a2 a3 a4
  have no : ∀ y : Int32, y ≠ 0 → f_MO_errorOfNarrow s a1 a2 a3 a4 = y → p_MO_wouldLose s a1 a2 a3 a4 ∧ f_MO_wouldLose s a1 a2 a3 a4 = (0, am_set s 207 0 y) := fun y hy e => by
    unfold p_MO_wouldLose f_MO_wouldLose
    rw [e, pr_holds1 s hy]
    exact ⟨⟨hE.1, fun _ => trivial, fun q => absurd rfl q⟩, rfl⟩
  have hE2 := hE.2
  rcases q_isC_c wd a1 a2 with g | ⟨g, T, C, ht, ht4, hc, hc6, rfl, rfl⟩
  · rw [g, if_pos rfl] at hT hE2
    have hn := no 1 (by decide) hE2
    exact on_wouldLose_1 (v := 0) (s1 := s) (by unfold f_CB_wouldLose; rw [hT]; rfl) (by unfold p_CB_wouldLose; rw [hT]; exact ⟨qd_pwantC _ _ _, fun q => absurd q (by decide)⟩) hn.1 hn.2 am_set_q (pu_R_thrown h')
  have eT : q_c (nI T) = T := nI_clamp (by omega)
  have eC : q_c (nI C) = C := nI_clamp (by omega)
  rw [g, if_neg i10] at hT hE2
  rw [eT, eC] at hE2
  have hN := qd_numcol cd ht4 hc6
  by_cases c0 : Z 6 209 (6 * T + C) = 0
  rotate_left
  · rw [if_neg c0] at hN hE2
    have hn := no 2 (by decide) hE2
    exact on_wouldLose_2 (v := 0) (s1 := s) (by unfold f_CB_wouldLose; rw [hT, hN]; rfl) (by unfold p_CB_wouldLose; rw [hT, hN]; exact ⟨qd_pwantC _ _ _, fun _ => ⟨qd_pnumcol _ _ _, fun q => absurd q (by decide)⟩⟩) hn.1 hn.2 am_set_q (pu_R_thrown h')
  rw [if_pos c0] at hN hE2
  rcases qb_span s a3 a4 with ⟨v1, v2⟩ | ⟨v1, v2⟩
  rotate_left
  · rw [v2, if_pos rfl] at hE2
    have hn := no 2 (by decide) hE2
    exact on_wouldLose_2 (v := 0) (s1 := s) (by unfold f_CB_wouldLose; rw [hT, hN, v1]; rfl) (by unfold p_CB_wouldLose; rw [hT, hN, v1]; exact ⟨qd_pwantC _ _ _, fun _ => ⟨qd_pnumcol _ _ _, fun _ q => absurd q (by decide)⟩⟩) hn.1 hn.2 am_set_q (pu_R_thrown h')
  have hB := qc_out cb ht4 hc6 (lo := a3) (hi := a4) 30 0 am_F 0 (by omega) (by rw [am_F_eq]; omega)
  rw [nI_0, Int32.zero_add, q_ou_made wr.we ht4] at hB
  have hm4 := (wr.1 T ht4).2.1
  generalize hN9 : q_co (q_ou (Z 8) T C a3 a4) (q_c (Z 8 0 T)) 0 = N at *
  have mU := q_md_set (i := 262) (k := 0) (x := nI N) (by omega) md
  have bU := q_mb_set (i := 262) (k := 0) (x := nI N) (by omega) mb
  have hEU := @qd_narrow (am_set s 262 0 (nI N)) (Z 6) mU wd (nI T) (nI C) a3 a4
  rw [g, if_neg i10, eT, eC, if_pos c0, show f_MO_isSpan (am_set s 262 0 (nI N)) a3 a4 = 1 from v2, if_neg i10] at hEU
  have hM := qm_bey0 wr.we (q_mb_set (i := 207) (k := 0) (x := 0) (by omega) bU) ht4 hc6 (lo := a3) (hi := a4) (q_c (Z 8 0 T)) 0 am_F 0 (by omega) (by rw [am_F_eq]; omega)
  rw [nI_0, Int32.zero_add, hN9] at hM
  refine og_wouldLose (v := nI N) (s1 := s) (w := nI N) (t := am_set (am_set s 262 0 (nI N)) 207 0 0) ?_ ?_ ?_ ?_ am_set_q (by rw [am_set_p (by omega)]; exact am_set_q) (pu_R_thrown (pu_R_out h'))
  · unfold f_CB_wouldLose f_BA_countOutside; rw [hT, hN, v1, hB.2]; rfl
  · unfold p_CB_wouldLose p_BA_countOutside; rw [hT, hN, v1]; exact ⟨qd_pwantC _ _ _, fun _ => ⟨qd_pnumcol _ _ _, fun _ _ => ⟨hB.1, trivial⟩⟩⟩
  · unfold p_MO_wouldLose p_MO_beyond; rw [hEU.2, pr_holds0]; exact ⟨hEU.1, fun q => absurd q i10, fun _ => ⟨hM.1, trivial⟩⟩
  · unfold f_MO_wouldLose f_MO_beyond; rw [hEU.2, pr_holds0, if_neg i10]
    dsimp only
    rw [hM.2]
theorem qc_fill {s R : am_M} (cb : q_cb s 9 10 11 R) {t c : Nat} (ht : t < 4) (hc : c < 6) : ∀ (d j n : Nat) (x : Int32), j + d = 30 → d < n → p_BA_countFilled_5 n s (nI t) (nI c) x (nI j) ∧ f_BA_countFilled_5 n s (nI t) (nI c) x (nI j) = x + nI (q_co (q_ou R t c 1 0) d j) := by
  have any : ∀ v : Int32, v < 1 ∨ 0 < v := fun v => by
    rw [Int32.lt_iff_toInt_lt, Int32.lt_iff_toInt_lt]
    have h1 : (1 : Int32).toInt = 1 := by decide
    have h0 : (0 : Int32).toInt = 0 := by decide
    omega
  intro d
  induction d with
  | zero =>
    intro j n x h1 h2
    obtain ⟨n, rfl⟩ : ∃ k, n = k + 1 := ⟨n - 1, by omega⟩
    have c1 : (30 : Int32) ≤ nI j := qg_30 (by omega) (by omega)
    unfold p_BA_countFilled_5 f_BA_countFilled_5
    rw [if_pos c1]
    refine ⟨⟨fun _ => trivial, fun q => absurd c1 q⟩, ?_⟩
    show x = x + nI 0
    rw [nI_0, Int32.add_zero]
  | succ d ih =>
    intro j n x h1 h2
    obtain ⟨n, rfl⟩ : ∃ k, n = k + 1 := ⟨n - 1, by omega⟩
    have hj : j < 30 := by omega
    have c1 : ¬ (30 : Int32) ≤ nI j := ql_30 hj
    have hs := qr_has cb ht (nI j)
    have i0 := ih (j + 1) n x (by omega) (by omega)
    have i1 := ih (j + 1) n (x + 1) (by omega) (by omega)
    have hq : q_co (q_ou R t c 1 0) (d + 1) j = (if q_ou R t c 1 0 j then 1 else 0) + q_co (q_ou R t c 1 0) d (j + 1) := rfl
    unfold p_BA_countFilled_5 f_BA_countFilled_5 p_BA_countFilled_44 f_BA_countFilled_44
    rw [if_neg c1, hs, nI_1, hq]
    by_cases hh : R 1 (30 * t + j) = 0
    · rw [if_neg (fun q => (q_hs_I hj).mp q hh), if_pos rfl, if_neg (fun q => q.1 hh), Nat.zero_add]
      exact ⟨⟨fun q => absurd q c1, fun _ => ⟨qr_phas _ _ _, fun _ => i0.1, fun q => absurd rfl q⟩⟩, i0.2⟩
    rw [if_pos ((q_hs_I hj).mpr hh), if_neg i10, qr_cell cb ht hj hc hh]
    by_cases cv : R 2 (180 * t + 6 * j + c) = -1000000
    · rw [if_pos cv, if_neg (fun q => q.2.1 cv), Nat.zero_add]
      exact ⟨⟨fun q => absurd q c1, fun _ => ⟨qr_phas _ _ _, fun q => absurd q i10, fun _ => ⟨qr_pget _ _ _ _, fun _ => i0.1, fun q => absurd cv q⟩⟩⟩, i0.2⟩
    · rw [if_neg cv, if_pos ⟨hh, cv, any _⟩]
      refine ⟨⟨fun q => absurd q c1, fun _ => ⟨qr_phas _ _ _, fun q => absurd q i10, fun _ => ⟨qr_pget _ _ _ _, fun q => absurd q cv, fun _ => i1.1⟩⟩⟩, ?_⟩
      rw [i1.2, Int32.add_assoc, show (1 : Int32) + nI (q_co (q_ou R t c 1 0) d (j + 1)) = nI (1 + q_co (q_ou R t c 1 0) d (j + 1)) from nI_add 1 _]
theorem op_wouldLoseAll_ok {c d : Nat} (hcd : c ≤ d) : op_wouldLoseAll (pu_R c) (pu_R d) := by
  intro s a1 a2 h
  replace h := h.mono hcd
  have h' := h
  obtain ⟨hP, Z, hZ⟩ := h
  obtain ⟨cd, oc, md, wd⟩ : q_x1 s (Z 6) := hZ 1
  obtain ⟨cb, mb, wr⟩ : q_x3 s (Z 6) (Z 8) := hZ 3
  have hT := qd_wantC cd wd a1 a2
  have hI := qd_isC md wd a1 a2
  rcases q_isC_c wd a1 a2 with g | ⟨g, T, C, ht, ht4, hc, hc6, rfl, rfl⟩
  · rw [g, if_pos rfl] at hT
    rw [g] at hI
    refine on_wouldLoseAll_1 (v := 0) (s1 := s) (w := 0) (t := am_set s 207 0 1) (by unfold f_CB_wouldLoseAll; rw [hT]; rfl) (by unfold p_CB_wouldLoseAll; rw [hT]; exact ⟨qd_pwantC _ _ _, fun q => absurd q (by decide)⟩) ?_ ?_ am_set_q (pu_R_thrown h')
    · unfold p_MO_wouldLoseAll p_MO_wouldLoseAll_15; rw [hI, pr_holds1 s (by decide)]; exact ⟨qd_pisC md wd _ _, fun _ => ⟨fun _ => trivial, fun q => absurd rfl q⟩, fun q => absurd rfl q⟩
    · unfold f_MO_wouldLoseAll f_MO_wouldLoseAll_15; rw [hI, pr_holds1 s (by decide)]; rfl
  rw [g, if_neg i10] at hT
  have hB := qc_fill cb ht4 hc6 30 0 am_F 0 (by omega) (by rw [am_F_eq]; omega)
  rw [nI_0, Int32.zero_add, q_ou_made wr.we ht4] at hB
  have hm4 := (wr.1 T ht4).2.1
  generalize hN9 : q_co (q_ou (Z 8) T C 1 0) (q_c (Z 8 0 T)) 0 = N at *
  have mU := q_md_set (i := 262) (k := 0) (x := nI N) (by omega) md
  have bU := q_mb_set (i := 262) (k := 0) (x := nI N) (by omega) mb
  have hIU := qd_isC mU wd (nI T) (nI C)
  rw [g] at hIU
  have hM := qm_bey0 wr.we (q_mb_set (i := 207) (k := 0) (x := 0) (by omega) bU) ht4 hc6 (lo := 1) (hi := 0) (q_c (Z 8 0 T)) 0 am_F 0 (by omega) (by rw [am_F_eq]; omega)
  rw [nI_0, Int32.zero_add, hN9] at hM
  refine og_wouldLoseAll (v := nI N) (s1 := s) (w := nI N) (t := am_set (am_set s 262 0 (nI N)) 207 0 0) ?_ ?_ ?_ ?_ am_set_q (by rw [am_set_p (by omega)]; exact am_set_q) (pu_R_thrown (pu_R_out h'))
  · unfold f_CB_wouldLoseAll f_BA_countFilled; rw [hT, hB.2]; rfl
  · unfold p_CB_wouldLoseAll p_BA_countFilled; rw [hT]; exact ⟨qd_pwantC _ _ _, fun _ => ⟨hB.1, trivial⟩⟩
  · unfold p_MO_wouldLoseAll p_MO_wouldLoseAll_15 p_MO_beyond; rw [hIU, pr_holds0]; exact ⟨qd_pisC mU wd _ _, fun q => absurd q i10, fun _ => ⟨fun q => absurd q i10, fun _ => ⟨hM.1, trivial⟩⟩⟩
  · unfold f_MO_wouldLoseAll f_MO_wouldLoseAll_15 f_MO_beyond; rw [hIU, if_neg i10, pr_holds0, if_neg i10]
    dsimp only
    rw [hM.2]
end

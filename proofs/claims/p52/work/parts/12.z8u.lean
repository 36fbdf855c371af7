noncomputable section
theorem am_set_c {s V : am_M} {i k a : Nat} {x : Int32} (h : s a = V a) : am_set s i k x a = am_set V i k x a := by
  by_cases e : a = i
  · subst e; rw [am_set_s, am_set_s, h]
  · rw [am_set_o e, am_set_o e, h]
theorem q_cs9_c {s V : am_M} {j k a : Nat} {x1 x2 x3 x4 : Int32} (h : s a = V a) : q_cs9 s j k x1 x2 x3 x4 a = q_cs9 V j k x1 x2 x3 x4 a := am_set_c (am_set_c (am_set_c (am_set_c (am_set_c h))))
theorem op_stepIf_ok {c d : Nat} (hcd : c ≤ d) : op_stepIf (pu_R c) (pu_R d) := by
  intro s a1 a2 a3 h
  replace h := h.mono hcd
  have h' := h
  obtain ⟨hP, Z, hZ⟩ := h
  obtain ⟨qc, qm, qw⟩ : q_x5 s (Z 6) (Z 11) := hZ 5
  obtain ⟨vc, vm, vw⟩ : q_x6 s (Z 6) (Z 11) (Z 12) := hZ 6
  have h8 := qw.1.2
  obtain ⟨n, n4, A1, A2, A3⟩ := qv_act h'.nact a1
  have hQ := qa_wantQ qc qw a2
  have m62 : ∀ (u : am_M) (x4 y : Int32), y ≠ 0 → p_MO_stepIf_62 u a1 a2 a3 x4 y ∧ f_MO_stepIf_62 u a1 a2 a3 x4 y = (0, am_set u 207 0 y) := fun u x4 y hy => by
    unfold p_MO_stepIf_62 f_MO_stepIf_62
    rw [pr_holds1 u hy]
    exact ⟨⟨fun _ => trivial, fun q => absurd rfl q⟩, rfl⟩
  have m20 : p_MO_stepIf_20 s a1 a2 a3 ∧ f_MO_stepIf_20 s a1 a2 a3 = (0, am_set s 207 0 1) := by
    unfold p_MO_stepIf_20 f_MO_stepIf_20 p_MO_stepIf_21 f_MO_stepIf_21
    rw [if_pos rfl]
    exact ⟨⟨fun _ => (m62 s 0 1 (by decide)).1, fun q => absurd rfl q⟩, (m62 s 0 1 (by decide)).2⟩
  obtain ⟨B1, B2⟩ := A3 s rfl
  obtain ⟨C1, C2⟩ := qm_isQ qm qw a2
  rcases q_in_c n (by omega) a1 with g | ⟨g, j, hj, rfl⟩
  · rw [g, if_pos rfl] at A1
    rw [g] at B2
    refine on_stepIf_1 (v := 0) (s1 := s) (w := 0) (t := am_set s 207 0 1) (by unfold f_CB_stepIf; rw [A1]; rfl) (by unfold p_CB_stepIf; rw [A1]; exact fun q => absurd (show (1 : Nat) = 0 from q) (by decide)) ?_ ?_ am_set_q (pu_R_thrown h')
    · unfold p_MO_stepIf; rw [B2]; exact ⟨B1, fun _ => m20.1, fun q => absurd rfl q⟩
    · unfold f_MO_stepIf; rw [B2, if_pos rfl]; exact m20.2
  rw [g, if_neg i10] at A1
  rw [g] at B2
  rcases q_in_c (q_nq (Z 11)) (by omega) a2 with g2 | ⟨g2, q0, hq, rfl⟩
  · rw [g2, if_pos rfl] at hQ
    rw [g2] at C2
    refine on_stepIf_1 (v := 0) (s1 := s) (w := 0) (t := am_set s 207 0 1) (by unfold f_CB_stepIf; rw [A1, if_pos rfl, hQ]; rfl) (by unfold p_CB_stepIf; rw [A1, hQ]; exact fun _ q => absurd (show (1 : Nat) = 0 from q) (by decide)) ?_ ?_ am_set_q (pu_R_thrown h')
    · unfold p_MO_stepIf; rw [B2, C2]; exact ⟨B1, fun q => absurd q i10, fun _ => ⟨C1, fun _ => m20.1, fun q => absurd rfl q⟩⟩
    · unfold f_MO_stepIf; rw [B2, C2, if_neg i10, if_pos rfl]; exact m20.2
  rw [g2, if_neg i10] at hQ
  rw [g2] at C2
  obtain ⟨w1, w2, w3⟩ := vw j (by omega)
  obtain ⟨k, hk⟩ : ∃ k, k = q_c (Z 12 (126 + 14 * j) 1) := ⟨_, rfl⟩
  rw [← hk] at w1 w2 w3
  have hs : s (126 + 14 * j) 1 = nI k := by rw [vc _ (by omega) (by omega)]; exact w1
  have h255 : s 255 j = nI k := by rw [(vm j (by omega)).1]; exact w1
  obtain ⟨P1, P2⟩ := qv_place (show j < 4 by omega) w2 hs
  have vj : vp_in (nI j) 4 := vp_in_nI (by omega) (by omega)
  by_cases c1 : a3 < 1
  · have in0 : f_MO_in s a3 1 5 = 0 := by unfold f_MO_in; rw [if_pos c1]
    refine on_stepIf_2 (v := 0) (s1 := s) (w := 0) (t := am_set s 207 0 2) (by unfold f_CB_stepIf; rw [A1, if_pos rfl, hQ, if_pos rfl, if_pos c1]) (by unfold p_CB_stepIf; rw [A1, hQ]; exact fun _ _ => ⟨fun _ => trivial, fun q => absurd c1 q⟩) ?_ ?_ am_set_q (pu_R_thrown h')
    · unfold p_MO_stepIf p_MO_stepIf_21; rw [B2, C2, in0]; exact ⟨B1, fun q => absurd q i10, fun _ => ⟨C1, fun q => absurd q i10, fun _ => ⟨fun q => absurd q i10, fun _ => ⟨fun _ => (m62 s 1 2 (by decide)).1, fun q => absurd rfl q⟩⟩⟩⟩
    · unfold f_MO_stepIf f_MO_stepIf_21; rw [B2, C2, if_neg i10, if_neg i10, if_neg i10, in0, if_pos rfl]; exact (m62 s 1 2 (by decide)).2
  by_cases c2 : a3 < 6
  rotate_left
  · have in0 : f_MO_in s a3 1 5 = 0 := by unfold f_MO_in; rw [if_neg c1, if_pos (pr_5.mpr c2)]
    refine on_stepIf_2 (v := 0) (s1 := s) (w := 0) (t := am_set s 207 0 2) (by unfold f_CB_stepIf; rw [A1, if_pos rfl, hQ, if_pos rfl, if_neg c1, if_neg c2]) (by unfold p_CB_stepIf; rw [A1, hQ]; exact fun _ _ => ⟨fun _ => trivial, fun _ => ⟨fun q => absurd q c2, fun _ => trivial⟩⟩) ?_ ?_ am_set_q (pu_R_thrown h')
    · unfold p_MO_stepIf p_MO_stepIf_21; rw [B2, C2, in0]; exact ⟨B1, fun q => absurd q i10, fun _ => ⟨C1, fun q => absurd q i10, fun _ => ⟨fun q => absurd q i10, fun _ => ⟨fun _ => (m62 s 1 2 (by decide)).1, fun q => absurd rfl q⟩⟩⟩⟩
    · unfold f_MO_stepIf f_MO_stepIf_21; rw [B2, C2, if_neg i10, if_neg i10, if_neg i10, in0, if_pos rfl]; exact (m62 s 1 2 (by decide)).2
  have in1 : ∀ u : am_M, f_MO_in u a3 1 5 = 1 := fun u => by unfold f_MO_in; rw [if_neg c1, if_neg (fun q => (pr_5.mp q) c2)]
  by_cases hk6 : k < 6
  rotate_left
  · rw [if_neg hk6] at P2
    have e6 : s 255 ((nI j).toNatClampNeg) = 6 := by rw [nI_clamp (n := j) (by omega), h255]; exact (qe_6 (by omega)).mpr (by omega)
    refine on_stepIf_3 (v := 0) (s1 := s) (w := 0) (t := am_set s 207 0 3) (by unfold f_CB_stepIf; rw [A1, if_pos rfl, hQ, if_pos rfl, if_neg c1, if_pos c2, P2]; rfl) (by unfold p_CB_stepIf; rw [A1, hQ, P2]; exact fun _ _ => ⟨fun _ => trivial, fun _ => ⟨fun _ => ⟨P1, fun q => absurd (show (3 : Nat) = 0 from q) (by decide)⟩, fun _ => trivial⟩⟩) ?_ ?_ am_set_q (pu_R_thrown h')
    · unfold p_MO_stepIf p_MO_stepIf_21; rw [B2, C2, in1]; exact ⟨B1, fun q => absurd q i10, fun _ => ⟨C1, fun q => absurd q i10, fun _ => ⟨fun q => absurd q i10, fun _ => ⟨fun q => absurd q i10, fun _ => ⟨vj, fun _ => (m62 s 1 3 (by decide)).1, fun q => absurd e6 q⟩⟩⟩⟩⟩
    · unfold f_MO_stepIf f_MO_stepIf_21; rw [B2, C2, if_neg i10, if_neg i10, if_neg i10, in1, if_neg i10, if_pos e6]; exact (m62 s 1 3 (by decide)).2
  rw [if_pos hk6] at P2
  obtain ⟨l1, l2, -⟩ := qv_lk j (by omega)
  obtain ⟨D1, D2⟩ := qc_adds (show j < 4 by omega) hk6 hs 3 (nI q0) (-1) a3
  have ou : q_out s (am_set (q_cs9 s j k 3 (nI q0) (-1) a3) 262 0 (nI (k + 1))) (fun a _ => (126 ≤ a ∧ a ≤ 181) ∨ a = 262) := fun a b q => by
    rw [am_set_p (by omega), q_cs9_o (by omega) (by omega)]
  have qmU := q_qm_out h8 ou (fun a b q => by omega) qm
  obtain ⟨U1, U2⟩ := A3 _ (ou 207 60 (by omega))
  obtain ⟨U3, U4⟩ := qm_isQ qmU qw (nI q0)
  have e255 : am_set (q_cs9 s j k 3 (nI q0) (-1) a3) 262 0 (nI (k + 1)) 255 j = nI k := by rw [ou _ _ (by omega)]; exact h255
  have w262 : am_set (q_cs9 s j k 3 (nI q0) (-1) a3) 262 0 (nI (k + 1)) 262 0 = nI (k + 1) := am_set_q
  have ouc : ∀ a, 126 ≤ a → a ≤ 181 → am_set (q_cs9 s j k 3 (nI q0) (-1) a3) 262 0 (nI (k + 1)) a = q_cs9 (Z 12) j k 3 (nI q0) (-1) a3 a := fun a h1 h2 => by
    rw [am_set_o (by omega)]; exact q_cs9_c (vc a h1 h2)
  have hC : f_CB_stepIf s (nI j) (nI q0) a3 = (0, nI (k + 1), q_cs9 s j k 3 (nI q0) (-1) a3) := by
    unfold f_CB_stepIf; rw [A1, if_pos rfl, hQ, if_pos rfl, if_neg c1, if_pos c2, P2, if_pos rfl, nI_clamp (n := j) (by omega), l1, D2]
  have pC : p_CB_stepIf s (nI j) (nI q0) a3 := by
    unfold p_CB_stepIf; rw [A1, hQ, P2, nI_clamp (n := j) (by omega), l1]
    exact fun _ _ => ⟨fun _ => trivial, fun _ => ⟨fun _ => ⟨P1, fun _ => ⟨vj, l2, D1, trivial⟩⟩, fun _ => trivial⟩⟩
  rw [g] at U2
  rw [g2] at U4
  generalize hu : am_set (q_cs9 s j k 3 (nI q0) (-1) a3) 262 0 (nI (k + 1)) = u at *
  have ne6 : ¬ u 255 ((nI j).toNatClampNeg) = 6 := by rw [nI_clamp (n := j) (by omega), e255]; exact fun q => by have := (qe_6 (by omega)).mp q; omega
  obtain ⟨M1, t, M2, M3, M4, M5, M6, M7, M8, M9⟩ := qm_adds (u := am_set u 207 0 0) (show j < 4 by omega) hk6 (by rw [am_set_p (by omega)]; exact e255) 3 (nI q0) 0 a3
  obtain ⟨V1, V2, V3, V4, V5⟩ := @q_cs9_v (Z 12) j k 3 (nI q0) (-1) a3
  refine og_stepIf (hn := n9_nI (by first | omega | (have := qw.1.2; omega) | (have := wd.1.2; omega))) (v := nI (k + 1)) (s1 := q_cs9 s j k 3 (nI q0) (-1) a3) (w := nI (k + 1)) (t := t) hC pC ?_ ?_ ?_ ?_ ?_
  · rw [hu]
    unfold p_MO_stepIf p_MO_stepIf_21 p_MO_stepIf_62; rw [U2, U4, in1, pr_holds0 u]
    exact ⟨U1, fun q => absurd q i10, fun _ => ⟨U3, fun q => absurd q i10, fun _ => ⟨fun q => absurd q i10, fun _ => ⟨fun q => absurd q i10, fun _ => ⟨vj, fun q => absurd q ne6, fun _ => ⟨fun q => absurd q i10, fun _ => ⟨M1, trivial⟩⟩⟩⟩⟩⟩⟩
  · rw [hu]
    unfold f_MO_stepIf f_MO_stepIf_21 f_MO_stepIf_62
    rw [U2, U4, if_neg i10, if_neg i10, if_neg i10, in1, if_neg i10, if_neg ne6, pr_holds0 u]
    dsimp only
    rw [if_neg i10, M2]
  · rw [M3 _ _ (by omega), am_set_q]
  · rw [M3 _ _ (by omega), am_set_p (by omega)]; exact w262
  have hx : ∃ i, a3 = nI i ∧ 1 ≤ i ∧ i ≤ 5 := by
    rcases qx_6 a3 with q | q | ⟨i, hi, rfl⟩
    · exact absurd (show a3 < 1 by
        have e1 : (1 : Int32).toInt = 1 := by decide
        have e0 : (0 : Int32).toInt = 0 := by decide
        rw [Int32.lt_iff_toInt_lt] at q ⊢; omega) c1
    · exact absurd q (pr_le.mp c2)
    · refine ⟨i, rfl, ?_, by omega⟩
      by_cases e : i < 1
      · exact absurd (qt_1 e) c1
      · omega
  obtain ⟨i, hi1, hi2, hi3⟩ := hx
  have hadd := qv_add (s := s) (t := t) (V := Z 12) (W := q_cs9 (Z 12) j k 3 (nI q0) (-1) a3) (A := Z 6) (Q := Z 11) (show j < 4 by omega) hk6 w1 vm vw (fun a b q => q_cs9_o (by omega) (by omega)) V1 (Or.inr (Or.inr ⟨V2, ⟨q0, V3, hq⟩, i, V5.trans hi1, hi2, hi3⟩)) (fun a b h1 h2 q => by rw [M3 a b q, am_set_p (by omega), ou a b (by omega)]) M4 (M5.trans V2.symm) (fun q => absurd (V2.symm.trans q) (by decide)) (fun _ => ⟨M6.trans V3.symm, M8.trans V5.symm⟩) (fun q => by
    rw [V2] at q
    rcases q with q | q <;> exact absurd q (by decide))
  refine pu_step hP hZ (fun a b q => ?_) (fun a h1 h2 => ?_) hadd.1 hadd.2
  · have n1 : ¬ (a = 262) := fun q2 => q (Or.inl (Or.inr (Or.inr (Or.inr (Or.inl q2)))))
    have n2 : ¬ (a = 207 ∧ b = 0) := fun q2 => q (Or.inl (Or.inr (Or.inr (Or.inr (Or.inr q2)))))
    have n3 : ¬ ((126 ≤ a ∧ a ≤ 181) ∨ (255 ≤ a ∧ a ≤ 260)) := fun q2 => q (Or.inr q2)
    rw [M3 a b (by omega), am_set_p (by omega), ou a b (by omega)]
  · rw [← ouc a h1 h2]
    funext b
    rw [M3 a b (by omega), am_set_p (by omega)]
theorem op_stepAdd_ok {c d : Nat} (hcd : c ≤ d) : op_stepAdd (pu_R c) (pu_R d) := by
  intro s a1 a2 h
  replace h := h.mono hcd
  have h' := h
  obtain ⟨hP, Z, hZ⟩ := h
  obtain ⟨cd, oc, md, wd⟩ : q_x1 s (Z 6) := hZ 1
  obtain ⟨qc, qm, qw⟩ : q_x5 s (Z 6) (Z 11) := hZ 5
  obtain ⟨vc, vm, vw⟩ : q_x6 s (Z 6) (Z 11) (Z 12) := hZ 6
  have n4' := wd.1.2
  have hdr : pr_draft s := h'.draft
  obtain ⟨n, n4, A1, A2, A3⟩ := qv_act h'.nact a1
  have hT := qd_wantT cd wd a2
  have m37 : ∀ (u : am_M) (y : Int32), y ≠ 0 → p_MO_stepAdd_37 u a1 a2 y ∧ f_MO_stepAdd_37 u a1 a2 y = (0, am_set u 207 0 y) := fun u y hy => by
    unfold p_MO_stepAdd_37 f_MO_stepAdd_37
    rw [pr_holds1 u hy]
    exact ⟨⟨fun _ => trivial, fun q => absurd rfl q⟩, rfl⟩
  have m17 : p_MO_stepAdd_17 s a1 a2 ∧ f_MO_stepAdd_17 s a1 a2 = (0, am_set s 207 0 1) := by
    unfold p_MO_stepAdd_17 f_MO_stepAdd_17
    exact m37 s 1 (by decide)
  obtain ⟨B1, B2⟩ := A3 s rfl
  have C2 := qd_isT md wd a2
  rcases q_in_c n (by omega) a1 with g | ⟨g, j, hj, rfl⟩
  · rw [g, if_pos rfl] at A1
    rw [g] at B2
    refine on_stepAdd_1 (v := 0) (s1 := s) (w := 0) (t := am_set s 207 0 1) (by unfold f_CB_stepAdd; rw [A1]; rfl) (by unfold p_CB_stepAdd; rw [A1]; exact fun q => absurd (show (1 : Nat) = 0 from q) (by decide)) ?_ ?_ am_set_q (pu_R_thrown h')
    · unfold p_MO_stepAdd; rw [B2]; exact ⟨B1, fun _ => m17.1, fun q => absurd rfl q⟩
    · unfold f_MO_stepAdd; rw [B2, if_pos rfl]; exact m17.2
  rw [g, if_neg i10] at A1
  rw [g] at B2
  rcases q_isT_c wd a2 with g2 | ⟨g2, q0, hq, rfl⟩
  · rw [g2, if_pos rfl] at hT
    rw [g2] at C2
    refine on_stepAdd_1 (v := 0) (s1 := s) (w := 0) (t := am_set s 207 0 1) (by unfold f_CB_stepAdd; rw [A1, if_pos rfl, hT]; rfl) (by unfold p_CB_stepAdd; rw [A1, hT]; exact fun _ q => absurd (show (1 : Nat) = 0 from q) (by decide)) ?_ ?_ am_set_q (pu_R_thrown h')
    · unfold p_MO_stepAdd; rw [B2, C2]; exact ⟨B1, fun q => absurd q i10, fun _ => ⟨qd_pisT _ _, fun _ => m17.1, fun q => absurd rfl q⟩⟩
    · unfold f_MO_stepAdd; rw [B2, C2, if_neg i10, if_pos rfl]; exact m17.2
  rw [g2, if_neg i10] at hT
  rw [g2] at C2
  obtain ⟨w1, w2, w3⟩ := vw j (by omega)
  obtain ⟨k, hk⟩ : ∃ k, k = q_c (Z 12 (126 + 14 * j) 1) := ⟨_, rfl⟩
  rw [← hk] at w1 w2 w3
  have hs : s (126 + 14 * j) 1 = nI k := by rw [vc _ (by omega) (by omega)]; exact w1
  have h255 : s 255 j = nI k := by rw [(vm j (by omega)).1]; exact w1
  obtain ⟨P1, P2⟩ := qv_place (show j < 4 by omega) w2 hs
  have vj : vp_in (nI j) 4 := vp_in_nI (by omega) (by omega)
  by_cases hk6 : k < 6
  rotate_left
  · rw [if_neg hk6] at P2
    have e6 : s 255 ((nI j).toNatClampNeg) = 6 := by rw [nI_clamp (n := j) (by omega), h255]; exact (qe_6 (by omega)).mpr (by omega)
    refine on_stepAdd_2 (v := 0) (s1 := s) (w := 0) (t := am_set s 207 0 2) (by unfold f_CB_stepAdd; rw [A1, if_pos rfl, hT, if_pos rfl, P2]; rfl) (by unfold p_CB_stepAdd; rw [A1, hT, P2]; exact fun _ _ => ⟨P1, fun q => absurd (show (3 : Nat) = 0 from q) (by decide)⟩) ?_ ?_ am_set_q (pu_R_thrown h')
    · unfold p_MO_stepAdd; rw [B2, C2]; exact ⟨B1, fun q => absurd q i10, fun _ => ⟨qd_pisT _ _, fun q => absurd q i10, fun _ => ⟨vj, fun _ => (m37 s 2 (by decide)).1, fun q => absurd e6 q⟩⟩⟩
    · unfold f_MO_stepAdd; rw [B2, C2, if_neg i10, if_neg i10, if_pos e6]; exact (m37 s 2 (by decide)).2
  rw [if_pos hk6] at P2
  obtain ⟨l1, l2, l3, l4, l5⟩ := qv_lk j (by omega)
  obtain ⟨m1, m2, m3, m4⟩ := l5 k hk6
  -- the draft is kept
  have z0 : ((0 : Int32)).toNatClampNeg = 0 := rfl
  have z6 : ((6 : Int32)).toNatClampNeg = 6 := by decide
  have hkd : p_AC_keepDraft s (126 + 14 * j) 124 ∧ ∃ S, f_AC_keepDraft s (126 + 14 * j) 124 = S ∧ q_out s S (fun a _ => a = 129 + 14 * j + 2 * k) ∧ ∀ i, i < 6 → S (129 + 14 * j + 2 * k) i = s 124 i := by
    have c : ¬ (6 : Int32) ≤ nI k := ql_6 hk6
    have e124 : am_sh 124 = (1, 0, 6) := by decide +kernel
    unfold p_AC_keepDraft f_AC_keepDraft
    rw [hs, l3, nI_clamp (n := k) (by omega), m1, m3, if_neg c, z0, z6]
    refine ⟨⟨l2, fun _ => trivial, fun _ => ⟨l4, vp_in_nI (by omega) (by omega), m2, m4, ⟨by omega, by rw [e124]⟩, ⟨by decide, by decide, by decide, by rw [e124]; decide, by decide⟩, trivial⟩⟩, _, rfl, fun a b q => congrFun (am_put_o q) b, fun i hi => ?_⟩
    rw [am_put_s, sb_cpy0 hi]
  obtain ⟨K1, S, K2, K3, K4⟩ := hkd
  have hsS : S (126 + 14 * j) 1 = nI k := by rw [K3 _ _ (by omega)]; exact hs
  obtain ⟨D1, D2⟩ := qc_adds (show j < 4 by omega) hk6 hsS 1 (-1) (-1) (nI q0)
  have ou : q_out s (am_set (q_cs9 S j k 1 (-1) (-1) (nI q0)) 262 0 (nI (k + 1))) (fun a _ => (126 ≤ a ∧ a ≤ 181) ∨ a = 262) := fun a b q => by
    rw [am_set_p (by omega), q_cs9_o (by omega) (by omega), K3 a b (by omega)]
  have mdU := q_md_out ou (fun a b q => by omega) md
  obtain ⟨U1, U2⟩ := A3 _ (ou 207 60 (by omega))
  have U4 := qd_isT mdU wd (nI q0)
  have e255 : am_set (q_cs9 S j k 1 (-1) (-1) (nI q0)) 262 0 (nI (k + 1)) 255 j = nI k := by rw [ou _ _ (by omega)]; exact h255
  have w262 : am_set (q_cs9 S j k 1 (-1) (-1) (nI q0)) 262 0 (nI (k + 1)) 262 0 = nI (k + 1) := am_set_q
  -- the class's steps, as they are then
  obtain ⟨W0, hW0⟩ : ∃ W0 : am_M, W0 = am_put (Z 12) (129 + 14 * j + 2 * k) (S (129 + 14 * j + 2 * k)) := ⟨_, rfl⟩
  have W0o : ∀ a, a ≠ 129 + 14 * j + 2 * k → W0 a = Z 12 a := fun a q => by rw [hW0]; exact am_put_o q
  have W0s : W0 (129 + 14 * j + 2 * k) = S (129 + 14 * j + 2 * k) := by rw [hW0]; exact am_put_s _ _ _
  have SW : ∀ a, 126 ≤ a → a ≤ 181 → S a = W0 a := fun a h1 h2 => by
    by_cases e : a = 129 + 14 * j + 2 * k
    · rw [e, W0s]
    · rw [W0o a e, ← vc a h1 h2]; exact funext (fun b => K3 a b e)
  have ouc : ∀ a, 126 ≤ a → a ≤ 181 → am_set (q_cs9 S j k 1 (-1) (-1) (nI q0)) 262 0 (nI (k + 1)) a = q_cs9 W0 j k 1 (-1) (-1) (nI q0) a := fun a h1 h2 => by
    rw [am_set_o (by omega)]; exact q_cs9_c (SW a h1 h2)
  have hC : f_CB_stepAdd s (nI j) (nI q0) = (0, nI (k + 1), q_cs9 S j k 1 (-1) (-1) (nI q0)) := by
    unfold f_CB_stepAdd; rw [A1, if_pos rfl, hT, if_pos rfl, P2, if_pos rfl, nI_clamp (n := j) (by omega), l1, K2, D2]
  have pC : p_CB_stepAdd s (nI j) (nI q0) := by
    unfold p_CB_stepAdd; rw [A1, hT, P2, nI_clamp (n := j) (by omega), l1, K2]
    exact fun _ _ => ⟨P1, fun _ => ⟨vj, l2, K1, vj, D1, trivial⟩⟩
  rw [g] at U2
  rw [g2] at U4
  generalize hu : am_set (q_cs9 S j k 1 (-1) (-1) (nI q0)) 262 0 (nI (k + 1)) = u at *
  have ne6 : ¬ u 255 ((nI j).toNatClampNeg) = 6 := by rw [nI_clamp (n := j) (by omega), e255]; exact fun q => by have := (qe_6 (by omega)).mp q; omega
  obtain ⟨M1, t, M2, M3, M4, M5, M6, M7, M8, M9⟩ := qm_adds (u := am_set u 207 0 0) (show j < 4 by omega) hk6 (by rw [am_set_p (by omega)]; exact e255) 1 (nI q0) 0 0
  obtain ⟨V1, V2, V3, V4, V5⟩ := @q_cs9_v W0 j k 1 (-1) (-1) (nI q0)
  have VD : ∀ i, i < 6 → q_cs9 W0 j k 1 (-1) (-1) (nI q0) (129 + 14 * j + 2 * k) i = s 124 i := fun i hi => by
    rw [q_cs9_o (by omega) (by omega), W0s]; exact K4 i hi
  refine og_stepAdd (hn := n9_nI (by first | omega | (have := qw.1.2; omega) | (have := wd.1.2; omega))) (v := nI (k + 1)) (s1 := q_cs9 S j k 1 (-1) (-1) (nI q0)) (w := nI (k + 1)) (t := t) hC pC ?_ ?_ ?_ ?_ ?_
  · rw [hu]
    unfold p_MO_stepAdd p_MO_stepAdd_37; rw [U2, U4, pr_holds0 u]
    exact ⟨U1, fun q => absurd q i10, fun _ => ⟨qd_pisT _ _, fun q => absurd q i10, fun _ => ⟨vj, fun q => absurd q ne6, fun _ => ⟨fun q => absurd q i10, fun _ => ⟨M1, trivial⟩⟩⟩⟩⟩
  · rw [hu]
    unfold f_MO_stepAdd f_MO_stepAdd_37
    rw [U2, U4, if_neg i10, if_neg i10, if_neg ne6, pr_holds0 u]
    dsimp only
    rw [if_neg i10, M2]
  · rw [M3 _ _ (by omega), am_set_q]
  · rw [M3 _ _ (by omega), am_set_p (by omega)]; exact w262
  have hadd := qv_add (s := s) (t := t) (V := Z 12) (W := q_cs9 W0 j k 1 (-1) (-1) (nI q0)) (A := Z 6) (Q := Z 11) (show j < 4 by omega) hk6 w1 vm vw (fun a b q => by rw [q_cs9_o (by omega) (by omega), W0o a (by omega)]) V1 (Or.inr (Or.inl ⟨V2, ⟨q0, V5, hq⟩, fun i hi => by
      rw [show 128 + 14 * j + 2 * k + 1 = 129 + 14 * j + 2 * k from by omega, VD i hi]
      exact (hdr i hi).2⟩)) (fun a b h1 h2 q => by rw [M3 a b q, am_set_p (by omega), ou a b (by omega)]) M4 (M5.trans V2.symm) (fun _ => ⟨M6.trans V5.symm, fun i hi => by rw [M9 i hi, am_set_p (by omega), ou _ _ (by omega), VD i hi]; exact (hdr i hi).1.symm⟩) (fun q => absurd V2 q) (fun q => by
    rw [V2] at q
    rcases q with q | q <;> exact absurd q (by decide))
  refine pu_step hP hZ (fun a b q => ?_) (fun a h1 h2 => ?_) hadd.1 hadd.2
  · have n1 : ¬ (a = 262) := fun q2 => q (Or.inl (Or.inr (Or.inr (Or.inr (Or.inl q2)))))
    have n2 : ¬ (a = 207 ∧ b = 0) := fun q2 => q (Or.inl (Or.inr (Or.inr (Or.inr (Or.inr q2)))))
    have n3 : ¬ ((126 ≤ a ∧ a ≤ 181) ∨ (255 ≤ a ∧ a ≤ 260)) := fun q2 => q (Or.inr q2)
    rw [M3 a b (by omega), am_set_p (by omega), ou a b (by omega)]
  · rw [← ouc a h1 h2]
    funext b
    rw [M3 a b (by omega), am_set_p (by omega)]
end

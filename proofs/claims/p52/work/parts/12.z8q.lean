noncomputable section
theorem op_keyOf_ok {c d : Nat} (hcd : c ≤ d) : op_keyOf (pu_R c) (pu_R d) := by
  intro s a1 a2 h
  replace h := h.mono hcd
  have h' := h
  obtain ⟨hP, Z, hZ⟩ := h
  obtain ⟨cd, oc, md, wd⟩ : q_x1 s (Z 6) := hZ 1
  obtain ⟨cb, mb, wr⟩ : q_x3 s (Z 6) (Z 8) := hZ 3
  obtain ⟨qc, qm, qw⟩ : q_x5 s (Z 6) (Z 11) := hZ 5
  have h8 := qw.1.2
  obtain ⟨pa, e, t1, A1, A2, A3⟩ := qa_wantC cd wd wr cb qc qw a1 a2
  have o1 := q_FD_LU (Q := Z 11) A2
  obtain ⟨cd1, md1, cb1, mb1, qc1, qm1⟩ := q_LU_all o1 qw cd md cb mb qc qm
  have k54 : ∀ (u : am_M) (y x3 : Int32), y ≠ 0 → p_MO_keyOf_54 u a1 a2 x3 y ∧ f_MO_keyOf_54 u a1 a2 x3 y = (0, am_set u 207 0 y) := fun u y x3 hy => by
    unfold p_MO_keyOf_54 f_MO_keyOf_54
    rw [pr_holds1 u hy]
    exact ⟨⟨fun _ => trivial, fun q => absurd rfl q⟩, rfl⟩
  have k28 : ∀ u : am_M, p_MO_keyOf_28 u a1 a2 ∧ f_MO_keyOf_28 u a1 a2 = (0, am_set u 207 0 1) := fun u => by
    unfold p_MO_keyOf_28 f_MO_keyOf_28 p_MO_keyOf_29 f_MO_keyOf_29
    rw [if_pos rfl]
    exact ⟨⟨fun _ => (k54 u 1 0 (by decide)).1, fun q => absurd rfl q⟩, (k54 u 1 0 (by decide)).2⟩
  obtain ⟨pq, hq⟩ := qm_isQ qm1 qw a1
  obtain ⟨ph, v, t2, B1, B2, B3, B4⟩ := qm_hasC md1 wd wr mb1 qm1 qw (a1 + 10) a2
  -- refused for there is no such key
  have no1 : ¬ (q_gC (Z 6) (Z 8) (Z 11) a1 a2 ∧ ¬ a2 ≤ 0) → p_MO_keyOf t1 a1 a2 ∧ ∃ t, f_MO_keyOf t1 a1 a2 = (0, t) ∧ t 207 0 = 1 ∧ q_out t1 t (q_LU (Z 11)) := fun hno => by
    unfold p_MO_keyOf f_MO_keyOf
    rw [hq]
    rcases q_in_c (q_nq (Z 11)) (by omega) a1 with g | ⟨g, j, hj, hj2⟩
    · rw [g, if_pos rfl]
      exact ⟨⟨pq, fun _ => (k28 t1).1, fun q => absurd rfl q⟩, _, (k28 t1).2, am_set_q, q_207_LU⟩
    · rw [g, if_neg i10]
      by_cases h0 : a2 ≤ 0
      · rw [if_pos h0]
        exact ⟨⟨pq, fun q => absurd q i10, fun _ => ⟨fun _ => (k28 t1).1, fun q => absurd h0 q⟩⟩, _, (k28 t1).2, am_set_q, q_207_LU⟩
      · rw [if_neg h0, B1]
        rcases B4 with ⟨rfl, -⟩ | ⟨rfl, src, c, e1, e2, e3, e4⟩
        · rw [if_pos rfl]
          exact ⟨⟨pq, fun q => absurd q i10, fun _ => ⟨fun q => absurd q h0, fun _ => ⟨ph, fun _ => (k28 t2).1, fun q => absurd rfl q⟩⟩⟩, _, (k28 t2).2, am_set_q, q_out_t (q_LD_LU B2) q_207_LU⟩
        · exact absurd ⟨(q_gC_S wd qw).mpr ⟨g, src, c, e1, e2, e3, e4⟩, h0⟩ hno
  rcases A3 with ⟨rfl, hno⟩ | ⟨rfl, j, k, rfl, rfl, hj, hk⟩
  · obtain ⟨m1, t, m2, m3, m4⟩ := no1 (fun q => hno q.1)
    exact on_keyOf_1 (v := 0) (s1 := t1) (w := 0) (t := t) (by unfold f_CB_keyOf; rw [A1]; rfl) (by unfold p_CB_keyOf; rw [A1]; exact ⟨pa, fun q => absurd (show (1 : Nat) = 0 from q) (by decide)⟩) m1 m2 m3 (pu_look hP hZ (q_out_t o1 m4))
  have hwx := q_wx_le (R := Z 8) wd qw (src := 10 + j) (Or.inr ⟨by omega, by omega⟩)
  obtain ⟨Q1, Q2⟩ := qa_q t1 (show j < 8 by omega)
  have psh : 67 + 7 * j < 207 ∧ am_sh (67 + 7 * j) = (0, 4, 17) := ⟨by omega, (qa_sh (by omega)).1⟩
  have hkind : t1 (67 + 7 * j) 0 = Z 11 (67 + 7 * j) 0 := by rw [qc1.2 _ (by omega) (by omega)]
  by_cases hk0 : k = 0
  · have z : nI k = 0 := by rw [hk0, nI_0]
    obtain ⟨m1, t, m2, m3, m4⟩ := no1 (fun q => q.2 (by rw [z]; decide))
    refine on_keyOf_1 (v := 0) (s1 := t1) (w := 0) (t := t) ?_ ?_ m1 m2 m3 (pu_look hP hZ (q_out_t o1 m4))
    · unfold f_CB_keyOf
      rw [A1, if_pos rfl]
      dsimp only
      rw [if_pos z]
    · unfold p_CB_keyOf
      rw [A1]
      dsimp only
      exact ⟨pa, fun _ => ⟨fun _ => trivial, fun q => absurd z q⟩⟩
  obtain ⟨p, rfl⟩ : ∃ p, k = p + 1 := ⟨k - 1, by omega⟩
  have z : ¬ nI (p + 1) = 0 := fun q => hk0 ((qe_0 (by omega)).mp q)
  have zle : ¬ nI (p + 1) ≤ 0 := nI_ge (a := 0) (by omega) (by omega)
  have e1p : nI (p + 1) - (1 : Int32) = nI p := q_decI p
  have vj : vp_in (nI j) 8 := vp_in_nI (by omega) (by omega)
  have gC : q_gC (Z 6) (Z 8) (Z 11) (nI j) (nI (p + 1)) := ⟨j, p + 1, rfl, rfl, hj, hk⟩
  have gj : q_in (q_nq (Z 11)) (nI j) = 1 := q_in_1 hj (by omega)
  by_cases k2 : Z 11 (67 + 7 * j) 0 = 2
  rotate_left
  · -- not a cross question
    rcases B4 with ⟨rfl, hno⟩ | ⟨rfl, -⟩
    · exact absurd ((q_gC_S wd qw).mp gC).2 hno
    have h36 : t2 236 j = Z 11 (67 + 7 * j) 0 := ((q_LD_qm h8 B2 qm1).2 j hj).1
    have n2 : ¬ t2 236 j = 2 := by rw [h36]; exact k2
    have k29 : p_MO_keyOf_29 t2 (nI j) (nI (p + 1)) 1 ∧ f_MO_keyOf_29 t2 (nI j) (nI (p + 1)) 1 = (0, am_set t2 207 0 2) := by
      unfold p_MO_keyOf_29 f_MO_keyOf_29
      rw [if_neg i10, nI_clamp (n := j) (by omega), if_neg n2]
      exact ⟨⟨fun q => absurd q i10, fun _ => ⟨vj, fun q => absurd q n2, fun _ => (k54 t2 2 1 (by decide)).1⟩⟩, (k54 t2 2 1 (by decide)).2⟩
    refine on_keyOf_2 (v := 0) (s1 := t1) (w := 0) (t := am_set t2 207 0 2) ?_ ?_ ?_ ?_ am_set_q (pu_look hP hZ (q_out_t o1 (q_out_t (q_LD_LU B2) q_207_LU)))
    · unfold f_CB_keyOf
      rw [A1, if_pos rfl]
      dsimp only
      rw [if_neg z, Q2]
      exact if_neg (by rw [hkind]; exact k2)
    · unfold p_CB_keyOf
      rw [A1]
      dsimp only
      rw [Q2, hkind]
      exact ⟨pa, fun _ => ⟨fun q => absurd q z, fun _ => ⟨Q1, psh, fun q => absurd q k2, fun _ => trivial⟩⟩⟩
    · unfold p_MO_keyOf
      rw [hq, gj, B1]
      exact ⟨pq, fun q => absurd q i10, fun _ => ⟨fun q => absurd q zle, fun _ => ⟨ph, fun q => absurd (show (1 : Int32) = 0 from q) i10, fun _ => k29.1⟩⟩⟩
    · unfold f_MO_keyOf
      rw [hq, gj, if_neg i10, if_neg zle, B1, if_neg i10]
      exact k29.2
  -- a cross question
  obtain ⟨F1, t3, F2, F3, F4⟩ := qa_find cd1 wd wr cb1 qc1 qw hj
  have o3 := q_out_t o1 (q_FD_LU (Q := Z 11) F3)
  have e10 : 10 + j - 10 = j := by omega
  have hkl := F4.2.2.2 (by omega) (by rw [e10]; exact k2)
  rw [e10] at hkl
  have hwy : q_wx (Z 6) (Z 8) (Z 11) (10 + j) = (q_ks (q_fI (Z 11) j 5) [] (q_sh (Z 8) (Z 11) (q_fI (Z 11) j 1))).length + 1 := by
    unfold q_wx; rw [if_neg (by omega), e10, if_pos k2]
  have hys : (q_ks (q_fI (Z 11) j 5) [] (q_sh (Z 8) (Z 11) (q_fI (Z 11) j 1))).length ≤ 30 := by
    obtain ⟨x, x1, x2, x3, x4, x5, x6⟩ := q_q1_src wd qw hj
    have hl2 := q_sh_len (R := Z 8) wd qw x (by omega)
    have l0 : ([] : List Int32).length = 0 := rfl
    have := @q_ks_len (q_fI (Z 11) j 5) (q_sh (Z 8) (Z 11) x) []
    rw [x2]; omega
  have hp : p < (q_ks (q_fI (Z 11) j 5) [] (q_sh (Z 8) (Z 11) (q_fI (Z 11) j 1))).length := by omega
  have h64 := hkl p hp
  have key : p_AS_secondKey t3 (nI p) ∧ f_AS_secondKey t3 (nI p) = t3 64 p := by
    have z1 : ¬ nI p < 0 := qz (by omega)
    have z2 : nI p < (30 : Int32) := qt_30 (by omega)
    unfold p_AS_secondKey f_AS_secondKey
    rw [if_neg z1, if_pos z2, nI_clamp (n := p) (by omega)]
    exact ⟨⟨fun _ => trivial, fun _ => ⟨fun _ => ⟨vp_in_nI (by omega) (by omega), trivial⟩, fun _ => trivial⟩⟩, rfl⟩
  rw [h64] at key
  generalize hV : (q_ks (q_fI (Z 11) j 5) [] (q_sh (Z 8) (Z 11) (q_fI (Z 11) j 1))).getD p 0 = V at *
  have oU := q_out_t o3 (q_262_LU (v := V))
  obtain ⟨-, mdU, -, mbU, -, qmU⟩ := q_LU_all oU qw cd md cb mb qc qm
  obtain ⟨pqU, hqU⟩ := qm_isQ qmU qw (nI j)
  obtain ⟨phU, v4, t4, D1, D2, D3, D4⟩ := qm_hasC mdU wd wr mbU qmU qw (nI j + 10) (nI (p + 1))
  rcases D4 with ⟨rfl, hno⟩ | ⟨rfl, -⟩
  · exact absurd ((q_gC_S wd qw).mp gC).2 hno
  have h36 : t4 236 j = 2 := ((q_LD_qm h8 D2 qmU).2 j hj).1.trans k2
  have h253 := (D3 (10 + j) (Or.inr ⟨by omega, by omega⟩)).2.2.2 (by omega) (by rw [e10]; exact k2) p (by rw [e10]; exact hp)
  rw [e10, hV] at h253
  have e30 : (30 : Int32) * nI j + nI (p + 1) - (1 : Int32) = nI (30 * j + p) := by
    rw [qw_30, nI_add]; exact q_decI (30 * j + p)
  have e0 := pr_holds0 t4
  have hval : am_set t4 207 0 0 253 (30 * j + p) = V := (am_set_p (by omega)).trans h253
  have k29 : p_MO_keyOf_29 t4 (nI j) (nI (p + 1)) 1 ∧ f_MO_keyOf_29 t4 (nI j) (nI (p + 1)) 1 = (V, am_set t4 207 0 0) := by
    unfold p_MO_keyOf_29 f_MO_keyOf_29 p_MO_keyOf_54 f_MO_keyOf_54
    rw [if_neg i10, nI_clamp (n := j) (by omega), if_pos h36, e0, if_neg i10, e30, nI_clamp (n := 30 * j + p) (by omega)]
    dsimp only
    rw [hval]
    exact ⟨⟨fun q => absurd q i10, fun _ => ⟨vj, fun _ => ⟨fun q => absurd q i10, fun _ => ⟨vp_in_nI (by omega) (by omega), trivial⟩⟩, fun q => absurd h36 q⟩⟩, rfl⟩
  refine og_keyOf (v := V) (s1 := t3) (w := V) (t := am_set t4 207 0 0) ?_ ?_ ?_ ?_ am_set_q (by rw [am_set_p (by omega), (q_LD_0 D2).2, am_set_q]) (pu_look hP hZ (q_out_t oU (q_out_t (q_LD_LU D2) q_207_LU)))
  · unfold f_CB_keyOf
    rw [A1, if_pos rfl]
    dsimp only
    rw [if_neg z, Q2, F2, e1p]
    dsimp only
    rw [key.2]
    exact if_pos (by rw [hkind]; exact k2)
  · unfold p_CB_keyOf
    rw [A1]
    dsimp only
    rw [Q2, hkind, F2, e1p]
    exact ⟨pa, fun _ => ⟨fun q => absurd q z, fun _ => ⟨Q1, psh, fun _ => ⟨F1, key.1, trivial⟩, fun q => absurd k2 q⟩⟩⟩
  · unfold p_MO_keyOf
    rw [hqU, gj, D1]
    exact ⟨pqU, fun q => absurd q i10, fun _ => ⟨fun q => absurd q zle, fun _ => ⟨phU, fun q => absurd (show (1 : Int32) = 0 from q) i10, fun _ => k29.1⟩⟩⟩
  · unfold f_MO_keyOf
    rw [hqU, gj, if_neg i10, if_neg zle, D1, if_neg i10]
    exact k29.2
end

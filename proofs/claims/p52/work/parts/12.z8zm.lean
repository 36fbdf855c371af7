noncomputable section
theorem qm_ared {m A R Q : am_M} (md : q_md m A) (w : q_wd A) (wr : q_wr A R) (mb : q_mb m R) (qm : q_qm m Q) (qw : q_qw A Q) {src : Nat} (hs : q_isS A Q src) {x2 : Int32} (hj : x2 = -1 ∨ ∃ c, x2 = nI c ∧ c < q_wx A R Q src) : ∃ t, q_out m t (q_LD Q) ∧ f_MO_ask m (nI src) x2 = f_MO_ask_27 t (nI src) x2 1 ∧ (p_MO_ask_27 t (nI src) x2 1 → p_MO_ask m (nI src) x2) := by
  obtain ⟨mS, gS⟩ := qm_isS md w qm qw (nI src)
  have g1 : f_MO_isSource m (nI src) = 1 := by
    rcases gS with ⟨-, q⟩ | ⟨q, -⟩
    · exact absurd ⟨src, rfl, hs⟩ q
    · exact q
  unfold p_MO_ask f_MO_ask p_MO_ask_22 f_MO_ask_22
  rw [g1, if_neg i10]
  by_cases e : x2 = -1
  · rw [if_pos e]
    exact ⟨m, fun _ _ _ => rfl, rfl, fun h => ⟨mS, fun q => absurd q i10, fun _ => ⟨fun _ => h, fun q => absurd e q⟩⟩⟩
  · obtain ⟨ph, v, t, B1, B2, -, B4⟩ := qm_hasC md w wr mb qm qw (nI src) x2
    have hv : v = 1 := by
      rcases B4 with ⟨-, q⟩ | ⟨q, -⟩
      · rcases hj with q2 | ⟨c, q2, q3⟩
        · exact absurd q2 e
        · exact absurd ⟨src, c, rfl, q2, hs, q3⟩ q
      · exact q
    subst hv
    rw [if_neg e, B1]
    dsimp only
    rw [if_neg i10]
    exact ⟨t, B2, rfl, fun h => ⟨mS, fun q => absurd q i10, fun _ => ⟨fun q => absurd q e, fun _ => ⟨ph, fun q => absurd q i10, fun _ => h⟩⟩⟩⟩
/-- the class makes a plain question -/
theorem qa_plainN {s A Q : am_M} (cd : q_cd s A) (w : q_wd A) (qc : q_qc s Q) (qw : q_qw A Q) {src j : Nat} (hj : j = q_nq Q) (hj8 : j < 8) (hs : src < 4 ∨ (10 ≤ src ∧ src < 10 + j)) {x2 : Int32} (hx2 : x2 = -1 ∨ ∃ c, x2 = nI c ∧ c < q_sw A Q src ∧ c < 54 ∧ q_lk A Q src c) : p_AS_makePlain s (nI src) x2 ∧ ∃ T2 w9 n, f_AS_makePlain s (nI src) x2 = (nI j, T2) ∧ q_out s T2 (fun a b => (a = 67 + 7 * j ∧ (b = 0 ∨ b = 1 ∨ b = 2 ∨ b = 3 ∨ b = 7 ∨ b = 8 ∨ b = 9)) ∨ ((a = 68 + 7 * j ∨ a = 69 + 7 * j) ∧ b < w9) ∨ (a = 52 ∧ b = 3)) ∧ T2 52 3 = nI (j + 1) ∧ T2 (67 + 7 * j) 0 = 0 ∧ T2 (67 + 7 * j) 1 = nI src ∧ T2 (67 + 7 * j) 7 = nI w9 ∧ T2 (67 + 7 * j) 8 = nI (q_sw A Q src) ∧ T2 (67 + 7 * j) 9 = nI n ∧ (∀ c, c < q_sw A Q src → T2 (68 + 7 * j) c = q_so Q src c ∧ T2 (69 + 7 * j) c = nI (q_sp Q src c)) ∧
    ((x2 = -1 ∧ T2 (67 + 7 * j) 2 = -1 ∧ w9 = q_sw A Q src ∧ n = q_sn Q src) ∨ ∃ c T C J, x2 = nI c ∧ T2 (67 + 7 * j) 2 = nI c ∧ c < q_sw A Q src ∧ q_so Q src c = nI (10 * T + C) ∧ T < 4 ∧ C < 6 ∧ A 209 (6 * T + C) = 1 ∧ A 212 (6 * T + C) = nI J ∧ J < q_nt A ∧ T2 (67 + 7 * j) 3 = nI J ∧ w9 = q_sw A Q src + q_w A J ∧ n = q_sn Q src + 1 ∧ ∀ i, i < q_w A J → T2 (68 + 7 * j) (q_sw A Q src + i) = nI (10 * J + i) ∧ T2 (69 + 7 * j) (q_sw A Q src + i) = nI (q_sn Q src)) := by
  have h4 := w.1.2
  obtain ⟨b1, b2, -⟩ := q_sw_b (src := src) w qw (by omega)
  obtain ⟨z2, z4, z5, z6, z7, z9, z12, zo⟩ : q_q0 Q j := qw.2.2 j (by omega) hj8
  have e52 : s 52 3 = nI j := by rw [hj]; exact qc.1.trans qw.1.1
  have e2 : s (67 + 7 * j) 2 = -1 := by rw [qc.2 _ (by omega) (by omega)]; exact z2
  obtain ⟨S, ⟨s0, s1, s2, s3, s4, s5⟩, f1, f2⟩ := qa_ph1 cd w qc qw hj hj8 hs (by rw [qc.2 _ (by omega) (by omega)]; exact z7) (by rw [qc.2 _ (by omega) (by omega)]; exact z9) x2
  have S52 : S 52 3 = nI j := by rw [s0 _ _ (by omega)]; exact e52
  rw [f1]
  rcases hx2 with rfl | ⟨c, rfl, hc, hc54, T, C, ho, hT, hC, k1⟩
  · obtain ⟨g1, g2⟩ := qa_53a hj8 S52 s3 (nI src)
    rw [g2]
    refine ⟨f2 g1, _, q_sw A Q src, q_sn Q src, rfl, fun a b q => ?_, am_set_q, ?_, ?_, ?_, ?_, ?_, fun c hc => ⟨?_, ?_⟩, Or.inl ⟨rfl, ?_, rfl, rfl⟩⟩
    · rw [am_set_p (by omega), am_set_p (by omega), s0 a b (by omega)]
    · rw [am_set_p (by omega), am_set_p (by omega)]; exact s1
    · rw [am_set_p (by omega), am_set_p (by omega)]; exact s2
    · rw [am_set_p (by omega), am_set_p (by omega)]; exact s3
    · rw [am_set_p (by omega), am_set_q]
    · rw [am_set_p (by omega), am_set_p (by omega)]; exact s4
    · rw [am_set_p (by omega), am_set_p (by omega)]; exact (s5 c hc).1
    · rw [am_set_p (by omega), am_set_p (by omega)]; exact (s5 c hc).2
    · rw [am_set_p (by omega), am_set_p (by omega), s0 _ _ (by omega)]; exact e2
  · obtain ⟨hJ1, hJ2⟩ := w.2.2.2.1 (6 * T + C) (by omega) k1
    have hJ4 : q_tg A (6 * T + C) < 4 := by omega
    have hJw := (w.2.1 _ hJ4).2.1
    have cdS := q_cd_out s0 (fun a b q => by omega) cd
    have ho' : (if src < 10 then nI (10 * src + c) else S (68 + 7 * (src - 10)) c) = nI (10 * T + C) := by
      unfold q_so at ho
      by_cases h : src < 10
      · rw [if_pos h] at ho ⊢; exact ho
      · rw [if_neg h] at ho ⊢; rw [s0 _ _ (by omega), qc.2 _ (by omega) (by omega)]; exact ho
    obtain ⟨g1, t, g2, g3, g4, g5, g6, g7, g8, g9, g10⟩ := qa_53b (u := q_sw A Q src) (n := q_sn Q src) hj8 hs hc54 S52 s3 s4 cdS w hT hC ho' hJ1 hJ4 (by omega)
    rw [g2]
    refine ⟨f2 g1, t, q_sw A Q src + q_w A (q_tg A (6 * T + C)), q_sn Q src + 1, rfl, fun a b q => ?_, g4, ?_, ?_, g8, g5, g9, fun c' hc' => ⟨?_, ?_⟩, Or.inr ⟨c, T, C, q_tg A (6 * T + C), rfl, g6, hc, ho, hT, hC, k1, hJ1, hJ2, g7, rfl, rfl, g10⟩⟩
    · rw [g3 a b (by omega), s0 a b (by omega)]
    · rw [g3 _ _ (by omega)]; exact s1
    · rw [g3 _ _ (by omega)]; exact s2
    · rw [g3 _ _ (by omega)]; exact (s5 c' hc').1
    · rw [g3 _ _ (by omega)]; exact (s5 c' hc').2
theorem op_ask_ok {c d : Nat} (hcd : c ≤ d) : op_ask (pu_R c) (pu_R d) := by
  intro s a1 a2 h
  replace h := h.mono hcd
  have h' := h
  obtain ⟨hP, Z, hZ⟩ := h
  obtain ⟨cd, oc, md, wd⟩ : q_x1 s (Z 6) := hZ 1
  obtain ⟨cb, mb, wr⟩ : q_x3 s (Z 6) (Z 8) := hZ 3
  obtain ⟨qc, qm, qw⟩ : q_x5 s (Z 6) (Z 11) := hZ 5
  have h8 := qw.1.2
  have h4 := wd.1.2
  obtain ⟨pS, hS⟩ := qa_wantS cd wd qc qw a1
  rcases hS with ⟨hS, hno⟩ | ⟨hS, src, rfl, hs⟩
  · obtain ⟨mS, gS⟩ := qm_isS md wd qm qw a1
    have g0 : f_MO_isSource s a1 = 0 := by
      rcases gS with ⟨q, -⟩ | ⟨-, q⟩
      · exact q
      · exact absurd q hno
    obtain ⟨k1, k2⟩ := qm_a26 s a1 a2
    refine on_ask_1 (v := 0) (s1 := s) (w := 0) (t := am_set s 207 0 1) (by unfold f_CB_ask; rw [hS]; rfl) (by unfold p_CB_ask; rw [hS]; exact fun q => absurd (show (1 : Nat) = 0 from q) (by decide)) ?_ ?_ am_set_q (pu_R_thrown h')
    · unfold p_MO_ask; rw [g0]; exact ⟨mS, fun _ => k1, fun q => absurd rfl q⟩
    · unfold f_MO_ask; rw [g0, if_pos rfl]; exact k2
  have hs' : src < 4 ∨ (10 ≤ src ∧ src < 10 + q_nq (Z 11)) := by unfold q_isS at hs; omega
  have core : ∀ t1, q_out s t1 (q_LU (Z 11)) → (a2 = -1 ∨ ∃ c, a2 = nI c ∧ c < q_wx (Z 6) (Z 8) (Z 11) src) → f_CB_ask s (nI src) a2 = f_CB_ask_16 t1 (nI src) a2 → (p_CB_ask_16 t1 (nI src) a2 → p_CB_ask s (nI src) a2) → p_LA_ask s (nI src) a2 ∧ p_MO_ask (f_LA_ask s (nI src) a2).2 (nI src) a2 ∧ pu_I (pu_R d) (f_LA_ask s (nI src) a2).1 (f_MO_ask (f_LA_ask s (nI src) a2).2 (nI src) a2) ∧ n9 (f_CB_ask s (nI src) a2) := fun t1 o1 hj hf hp => by
    obtain ⟨cd1, md1, cb1, mb1, qc1, qm1⟩ := q_LU_all o1 qw cd md cb mb qc qm
    obtain ⟨y, y1, y2, y3⟩ := qa_a16 cd1 wd qc1 qw hs hj
    by_cases y0 : y = 0
    rotate_left
    · obtain ⟨p16, f16⟩ := y2 y0
      obtain ⟨t2, r1, r2, r3⟩ := qm_ared md1 wd wr mb1 qm1 qw hs hj
      have md2 := q_md_out r1 (fun a b q => by have := q_LD_w q; omega) md1
      have qm2 := q_LD_qm h8 r1 qm1
      obtain ⟨z, z1, z2, -⟩ := qm_a27 md2 wd qm2 qw hs hj
      have ez := q_aw_1 y1 z1
      subst ez
      obtain ⟨k1, k2⟩ := z2 y0
      have fin := pu_look hP hZ (q_out_t o1 (q_out_t (q_LD_LU r1) (q_207_LU (v := nI y)))) (c := d)
      rcases y1 with ⟨rfl, -⟩ | ⟨rfl, -⟩ | ⟨rfl, -⟩
      · exact on_ask_2 (v := 0) (s1 := t1) (w := 0) (t := am_set t2 207 0 (nI 2)) (hf.trans f16) (hp p16) (r3 k1) (r2.trans k2) am_set_q fin
      · exact on_ask_3 (v := 0) (s1 := t1) (w := 0) (t := am_set t2 207 0 (nI 3)) (hf.trans f16) (hp p16) (r3 k1) (r2.trans k2) am_set_q fin
      · exact absurd rfl y0
    obtain ⟨p16, f16⟩ := y3 y0
    have y1' := y1
    rcases y1 with ⟨q, -⟩ | ⟨q, -⟩ | ⟨-, hx, hn, hx2⟩
    · rw [y0] at q; exact absurd q (by decide)
    · rw [y0] at q; exact absurd q (by decide)
    obtain ⟨m1, T2, w9, n, m2, m3, m4, m5, m6, m7, m8, m9, m10, m11⟩ := qa_plainN cd1 wd qc1 qw (j := q_nq (Z 11)) rfl hn hs' hx2
    rw [m2] at f16
    have oU : q_out t1 (am_set T2 262 0 (nI (q_nq (Z 11)))) (fun a b => (67 + 7 * q_nq (Z 11) ≤ a ∧ a ≤ 69 + 7 * q_nq (Z 11)) ∨ (a = 52 ∧ b = 3) ∨ a = 262) := fun a b q => by
      rw [am_set_p (by omega), m3 a b (by omega)]
    have mdU := q_md_out oU (fun a b q => by omega) md1
    have mbU := q_mb_out oU (fun a b q => by omega) mb1
    have qmU := q_qm_out h8 oU (fun a b q => by omega) qm1
    have u262 : am_set T2 262 0 (nI (q_nq (Z 11))) 262 0 = nI (q_nq (Z 11)) := am_set_q
    obtain ⟨t2, r1, r2, r3⟩ := qm_ared mdU wd wr mbU qmU qw hs hj
    have md2 := q_md_out r1 (fun a b q => by have := q_LD_w q; omega) mdU
    have mb2 := q_mb_out r1 (fun a b q => by have := q_LD_w q; omega) mbU
    have qm2 := q_LD_qm h8 r1 qmU
    obtain ⟨z, z1, -, z2⟩ := qm_a27 md2 wd qm2 qw hs hj
    have ez := q_aw_1 y1' z1
    obtain ⟨k1, k2⟩ := z2 (ez ▸ y0)
    obtain ⟨l1, t3, l2, l3, l4, l5, l6, l7, l8, l9, l10, l11⟩ := qm_ask93 md2 wd wr mb2 qm2 qw hs hx hn a2 1 1 (by
      rcases m11 with ⟨q, -⟩ | ⟨c, T, C, J, q1, -, q2, q3, q4, q5, -, q6, q7, -⟩
      · exact Or.inl q
      · exact Or.inr ⟨c, T, C, J, q1, q2, q3, q4, q5, q6, by omega⟩)
    have o3 : q_out (am_set T2 262 0 (nI (q_nq (Z 11)))) t3 (fun a b => q_LD (Z 11) a b ∨ (a = 207 ∧ (b = 0 ∨ b = 39)) ∨ (((236 ≤ a ∧ a ≤ 239) ∨ a = 243 ∨ a = 249) ∧ b = q_nq (Z 11)) ∨ (a = 252 ∧ 54 * q_nq (Z 11) ≤ b ∧ b < 54 * q_nq (Z 11) + 54)) := fun a b q => by
      rw [l3 a b q, r1 a b (fun q2 => q (Or.inl q2))]
    have em1 : q_mc (-1) = -1 := by unfold q_mc; rw [if_pos rfl]
    obtain ⟨b1, -, -⟩ := q_sw_b wd qw hs'
    obtain ⟨-, -, -, -, -, -, -, zo⟩ : q_q0 (Z 11) (q_nq (Z 11)) := qw.2.2 _ (Nat.le_refl _) hn
    have tail : ∀ i, w9 ≤ i → i < 54 → T2 (68 + 7 * q_nq (Z 11)) i = -1 := fun i q1 q2 => by
      rw [m3 _ _ (by omega), qc1.2 _ (by omega) (by omega)]; exact (zo i q2).1
    refine og_ask (hn := n9_nI (by first | omega | (have := qw.1.2; omega) | (have := wd.1.2; omega))) (v := nI (q_nq (Z 11))) (s1 := T2) (w := nI (q_nq (Z 11))) (t := t3) (hf.trans f16) (hp (p16 m1)) (r3 (k1 l1)) (r2.trans (k2.trans l2)) l4 ?_ ?_
    · rw [o3 _ _ (by
        rintro (q | q | q | q)
        · have := q_LD_w q; omega
        · omega
        · omega
        · omega)]; exact u262
    refine pu_plain (v := nI (q_nq (Z 11))) hP hZ rfl hn hs hx o1 rfl m3 m4 m5 m6 m7 m8 m9 m10 ?_ o3 l5 l6 l7 l8 l9 ?_ ?_ (fun i hi => ?_)
    · rcases m11 with ⟨-, q⟩ | ⟨c, T, C, J, -, q⟩
      · exact Or.inl q
      · exact Or.inr ⟨c, T, C, J, q⟩
    · rcases m11 with ⟨q1, q2, q3, q4⟩ | ⟨c, T, C, J, q1, q2, q3, q4, q5, q6, q7, q8, q9, -⟩
      · rw [(l10 q1).1, q2]
      · rw [(l11 c T C J q1 (by omega) q4 q5 q6 q8 (by omega)).1, q2]
    · rcases m11 with ⟨q1, q2, q3, q4⟩ | ⟨c, T, C, J, q1, q2, q3, q4, q5, q6, q7, q8, q9, q10, q11, -⟩
      · rw [(l10 q1).2.1, q3]
      · rw [(l11 c T C J q1 (by omega) q4 q5 q6 q8 (by omega)).2.1, q11]
    · rcases m11 with ⟨q1, q2, q3, q4⟩ | ⟨c, T, C, J, q1, q2, q3, q4, q5, q6, q7, q8, q9, q10, q11, q12, q13⟩
      · rw [(l10 q1).2.2 i hi]
        by_cases c1 : i < q_sw (Z 6) (Z 11) src
        · rw [if_pos c1, (m10 i c1).1]
        · rw [if_neg c1, tail i (by omega) hi, em1]
      · rw [(l11 c T C J q1 (by omega) q4 q5 q6 q8 (by omega)).2.2 i hi]
        by_cases c1 : i < q_sw (Z 6) (Z 11) src
        · rw [if_pos c1, (m10 i c1).1]
        · by_cases c2 : i < q_sw (Z 6) (Z 11) src + q_w (Z 6) J
          · have := (q13 (i - q_sw (Z 6) (Z 11) src) (by omega)).1
            have hw6 := (wd.2.1 J (by omega)).2.1
            rw [show q_sw (Z 6) (Z 11) src + (i - q_sw (Z 6) (Z 11) src) = i from by omega] at this
            rw [if_neg c1, if_pos c2, this, q_mc_I (by omega) (by omega)]
          · rw [if_neg c1, if_neg c2, tail i (by omega) hi, em1]
  by_cases e : a2 = -1
  · refine core s (fun _ _ _ => rfl) (Or.inl e) ?_ ?_
    · unfold f_CB_ask; rw [hS, if_pos rfl, if_pos e]
    · intro h9
      unfold p_CB_ask; rw [hS]
      exact fun _ => ⟨fun _ => h9, fun q => absurd e q⟩
  obtain ⟨p1, e1, t1, S1, T1, U1⟩ := qa_wantSC cd wd wr cb qc qw hs a2
  have o1 := q_FD_LU (Q := Z 11) T1
  rcases U1 with ⟨rfl, hno⟩ | ⟨rfl, h2⟩
  · obtain ⟨cd1, md1, cb1, mb1, qc1, qm1⟩ := q_LU_all o1 qw cd md cb mb qc qm
    obtain ⟨mS, gS⟩ := qm_isS md1 wd qm1 qw (nI src)
    have g1 : f_MO_isSource t1 (nI src) = 1 := by
      rcases gS with ⟨-, q⟩ | ⟨q, -⟩
      · exact absurd ⟨src, rfl, hs⟩ q
      · exact q
    obtain ⟨ph, v, t2, B1, B2, -, B4⟩ := qm_hasC md1 wd wr mb1 qm1 qw (nI src) a2
    have hv : v = 0 := by
      rcases B4 with ⟨q, -⟩ | ⟨-, src', c, q1, q2, q3, q4⟩
      · exact q
      · exact absurd (q_gS_u wd qw hs ⟨src', c, q1, q2, q3, q4⟩) hno
    subst hv
    obtain ⟨k1, k2⟩ := qm_a26 t2 (nI src) a2
    refine on_ask_1 (v := 0) (s1 := t1) (w := 0) (t := am_set t2 207 0 1) ?_ ?_ ?_ ?_ am_set_q (pu_look hP hZ (q_out_t o1 (q_out_t (q_LD_LU B2) q_207_LU)))
    · unfold f_CB_ask
      rw [hS, if_pos rfl, if_neg e, S1]
      rfl
    · unfold p_CB_ask
      rw [hS, S1]
      exact fun _ => ⟨fun q => absurd q e, fun _ => ⟨p1, fun q => absurd (show (1 : Nat) = 0 from q) (by decide)⟩⟩
    · unfold p_MO_ask
      rw [g1, B1]
      exact ⟨mS, fun q => absurd q i10, fun _ => ⟨fun q => absurd q e, fun _ => ⟨ph, fun _ => k1, fun q => absurd rfl q⟩⟩⟩
    · unfold f_MO_ask
      rw [g1, if_neg i10, if_neg e, B1, if_pos rfl]
      exact k2
  · refine core t1 o1 (Or.inr h2) ?_ ?_
    · unfold f_CB_ask
      rw [hS, if_pos rfl, if_neg e, S1, if_pos rfl]
    · intro h9
      unfold p_CB_ask
      rw [hS, S1]
      exact fun _ => ⟨fun q => absurd q e, fun _ => ⟨p1, fun _ => h9⟩⟩
end

noncomputable section
theorem op_target_ok {c d : Nat} (hcd : c ≤ d) : op_target (pu_R c) (pu_R d) := by
  intro s a1 a2 a3 h
  replace h := h.mono hcd
  have h' := h
  obtain ⟨hP, Z, hZ⟩ := h
  obtain ⟨cd, oc, md, wd⟩ : q_x1 s (Z 6) := hZ 1
  obtain ⟨cb, mb, wr⟩ : q_x3 s (Z 6) (Z 8) := hZ 3
  obtain ⟨qc, qm, qw⟩ : q_x5 s (Z 6) (Z 11) := hZ 5
  have h8 := qw.1.2
  obtain ⟨pa, e, t1, A1, A2, A3⟩ := qa_wantA cd wd wr cb qc qw a1 a2 a3
  have o1 := q_FD_LU (Q := Z 11) A2
  obtain ⟨cd1, md1, -, mb1, qc1, qm1⟩ := q_LU_all o1 qw cd md cb mb qc qm
  rcases A3 with ⟨rfl, hno⟩ | ⟨rfl, j, i, k, rfl, rfl, rfl, hj, hi, hk, F4⟩
  · obtain ⟨pm, v, t2, B1, B2, B3⟩ := qm_isA md1 wd wr mb1 qm1 qw a1 a2 a3
    rcases B3 with ⟨rfl, -⟩ | ⟨rfl, j, i, k, e1, e2, e3, hj, hi, hk, -⟩
    rotate_left
    · exact absurd ⟨j, i, k, e1, e2, e3, hj, hi, hk⟩ hno
    have e1 := pr_holds1 t2 (x := 1) (by decide)
    refine on_target_1 (v := 0) (s1 := t1) (w := 0) (t := am_set t2 207 0 1) (by unfold f_CB_target; rw [A1]; rfl) (by unfold p_CB_target; rw [A1]; exact ⟨pa, fun q => absurd (show (1 : Nat) = 0 from q) (by decide)⟩) ?_ ?_ am_set_q (pu_look hP hZ (q_out_t o1 (q_out_t (q_LD_LU B2) q_207_LU)))
    · unfold p_MO_target p_MO_target_16; rw [B1, e1]; exact ⟨pm, fun _ => ⟨fun _ => trivial, fun q => absurd rfl q⟩, fun q => absurd rfl q⟩
    · unfold f_MO_target f_MO_target_16; rw [B1, if_pos rfl]; dsimp only; rw [e1, if_pos rfl]
  have hlen := q_sh_len (R := Z 8) wd qw (10 + j) (by omega)
  have hwx := q_wx_le (R := Z 8) wd qw (src := 10 + j) (Or.inr ⟨by omega, by omega⟩)
  obtain ⟨Q1, Q2⟩ := qa_q t1 (show j < 8 by omega)
  have psh : 67 + 7 * j < 207 ∧ am_sh (67 + 7 * j) = (0, 4, 17) := ⟨by omega, (qa_sh (by omega)).1⟩
  obtain ⟨O1, O2⟩ := qa_origin qc1 (show j < 8 by omega) (show k < 54 by omega)
  obtain ⟨R1, R2⟩ := qa_row qc1 qw hj (show i < 30 by omega) (show k < 54 by omega)
  have ht := q_tgt wd wr qw hj hi hk
  have esl : q_sl (10 + j) = j := by unfold q_sl; rw [if_neg (by omega)]; omega
  have ix : (1620 : Int32) * nI j + (54 : Int32) * nI i + nI k = nI (1620 * j + 54 * i + k) := by rw [qw_1620, qw_54, nI_add, nI_add]
  -- the model, whatever the class has answered
  have model : ∀ V : Int32, ∃ t2, q_out (am_set t1 262 0 V) t2 (q_LD (Z 11)) ∧ p_MO_isAnswer (am_set t1 262 0 V) (nI j) (nI i) (nI k) ∧ f_MO_isAnswer (am_set t1 262 0 V) (nI j) (nI i) (nI k) = (1, t2) ∧ q_msh (Z 6) (Z 8) (Z 11) t2 (10 + j) := fun V => by
    have oU := q_out_t o1 (q_262_LU (v := V))
    obtain ⟨-, mdU, -, mbU, -, qmU⟩ := q_LU_all oU qw cd md cb mb qc qm
    obtain ⟨pm, v, t2, B1, B2, B3⟩ := qm_isA mdU wd wr mbU qmU qw (nI j) (nI i) (nI k)
    rcases B3 with ⟨rfl, hno⟩ | ⟨rfl, j', i', k', e1, e2, e3, hj', hi', hk', M4⟩
    · exact absurd ⟨j, i, k, rfl, rfl, rfl, hj, hi, hk⟩ hno
    obtain rfl : j = j' := (nI_eq (by omega) (by omega)).mp e1
    exact ⟨t2, B2, pm, B1, M4⟩
  -- what is answered
  have fin : ∀ V : Int32, f_CB_target s (nI j) (nI i) (nI k) = (0, V, t1) → (∀ t2, q_out (am_set t1 262 0 V) t2 (q_LD (Z 11)) → q_msh (Z 6) (Z 8) (Z 11) t2 (10 + j) → (if f_MO_writable (am_set t2 207 0 0) (nI j) (nI k) = (-1 : Int32) then (-1 : Int32) else (((1000 : Int32) * (f_MO_writable (am_set t2 207 0 0) (nI j) (nI k) / (6 : Int32))) + ((10 : Int32) * (am_set t2 207 0 0) 251 (1620 * j + 54 * i + k))) + (f_MO_writable (am_set t2 207 0 0) (nI j) (nI k) - f_MO_writable (am_set t2 207 0 0) (nI j) (nI k) / (6 : Int32) * (6 : Int32))) = V) → p_LA_target s (nI j) (nI i) (nI k) ∧ p_MO_target (f_LA_target s (nI j) (nI i) (nI k)).2 (nI j) (nI i) (nI k) ∧ pu_I (pu_R d) (f_LA_target s (nI j) (nI i) (nI k)).1 (f_MO_target (f_LA_target s (nI j) (nI i) (nI k)).2 (nI j) (nI i) (nI k)) := fun V hC hV => by
    obtain ⟨t2, B2, pm, B1, M4⟩ := model V
    have oU := q_out_t o1 (q_262_LU (v := V))
    have oW := q_out_t oU (q_out_t (q_LD_LU B2) (q_207_LU (v := 0)))
    obtain ⟨-, mdW, -, -, -, qmW⟩ := q_LU_all oW qw cd md cb mb qc qm
    obtain ⟨w1, -, -⟩ := qm_writable mdW qmW h8 hj (show k < 54 by omega) (by
      rcases ht with g | ⟨g1, T, C, r, g2, g3, g4, -⟩
      · exact Or.inl g
      · exact Or.inr ⟨g1, T, C, g2, g3, g4⟩)
    have e0 := pr_holds0 t2
    have hv := hV t2 B2 M4
    refine og_target (v := V) (s1 := t1) (w := V) (t := am_set t2 207 0 0) hC ?_ ?_ ?_ am_set_q (by rw [am_set_p (by omega), (q_LD_0 B2).2, am_set_q]) (pu_look hP hZ oW)
    · unfold p_CB_target
      rw [A1]
      dsimp only
      rw [Q2, O2]
      exact ⟨pa, fun _ => ⟨Q1, O1, psh, qd_pstO _ _, fun _ => trivial, fun _ => ⟨R1, trivial⟩⟩⟩
    · unfold p_MO_target p_MO_target_16
      rw [B1]
      dsimp only
      rw [e0, ix]
      exact ⟨pm, fun q => absurd q i10, fun _ => ⟨fun q => absurd q i10, fun _ => ⟨w1, fun _ => trivial, fun _ => ⟨vp_in_nI (by omega) (by omega), trivial⟩⟩⟩⟩
    · unfold f_MO_target f_MO_target_16
      rw [B1, if_neg i10]
      dsimp only
      rw [e0, if_neg i10, ix, nI_clamp (n := 1620 * j + 54 * i + k) (by omega)]
      dsimp only
      by_cases q : f_MO_writable (am_set t2 207 0 0) (nI j) (nI k) = -1
      · rw [if_pos q] at hv ⊢
        rw [hv]
      · rw [if_neg q] at hv ⊢
        rw [hv]
  have hC0 : f_BA_isStored t1 (Z 11 (68 + 7 * j) k) = 0 → f_CB_target s (nI j) (nI i) (nI k) = (0, -1, t1) := fun q => by
    unfold f_CB_target
    rw [A1, if_pos rfl]
    dsimp only
    rw [Q2, O2, if_pos q]
  have wof : ∀ V t2, q_out (am_set t1 262 0 V) t2 (q_LD (Z 11)) → q_md (am_set t2 207 0 0) (Z 6) ∧ q_qm (am_set t2 207 0 0) (Z 11) := fun V t2 B2 => by
    have oW := q_out_t (q_out_t o1 (q_262_LU (v := V))) (q_out_t (q_LD_LU B2) (q_207_LU (v := 0)))
    obtain ⟨-, mdW, -, -, -, qmW⟩ := q_LU_all oW qw cd md cb mb qc qm
    exact ⟨mdW, qmW⟩
  rcases ht with g | ⟨g1, T, C, r, g2, g3, g4, g5, g6, g7, g9⟩
  · refine fin (-1) (hC0 (by rw [g]; exact qd_stM1 _)) (fun t2 B2 M4 => ?_)
    obtain ⟨mdW, qmW⟩ := wof _ t2 B2
    rw [(qm_writable mdW qmW h8 hj (show k < 54 by omega) (Or.inl g)).2.1 g, if_pos rfl]
  have hst := qd_stO cd1 g3 g4
  rw [← g2] at hst
  by_cases hs : Z 6 209 (6 * T + C) = 0 ∨ Z 6 209 (6 * T + C) = 1
  rotate_left
  · rw [if_neg hs] at hst
    refine fin (-1) (hC0 hst) (fun t2 B2 M4 => ?_)
    obtain ⟨mdW, qmW⟩ := wof _ t2 B2
    rw [(qm_writable mdW qmW h8 hj (show k < 54 by omega) (Or.inr ⟨g1, T, C, g2, g3, g4⟩)).2.2 T C g2 g3 g4, if_neg hs, if_pos rfl]
  rw [if_pos hs] at hst
  have hrow := R2 (by
    have := (q_sw_le wd qw (src := 10 + j) (Or.inr ⟨by omega, by omega⟩)).2
    omega)
  have hcr := (F4.2.2.1 i hi).2 _ g7
  rw [Nat.zero_add, g9] at hcr
  rw [hcr] at hrow
  have nst : ¬ f_BA_isStored t1 (Z 11 (68 + 7 * j) k) = 0 := by rw [hst]; exact i10
  refine fin (nI (1000 * T + 10 * r + C)) ?_ (fun t2 B2 M4 => ?_)
  · unfold f_CB_target
    rw [A1, if_pos rfl]
    dsimp only
    rw [Q2, O2, if_neg nst, hrow, g2, qr_10 (by omega), qd_10 (by omega), show (10 * T + C) / 10 = T from by omega, show (10 * T + C) % 10 = C from by omega, qw_1000, qw_10, nI_add, nI_add]
  · obtain ⟨mdW, qmW⟩ := wof _ t2 B2
    have hne := q_m1_ne (n := 6 * T + C) (by omega)
    have hm := (M4.2.2.1 i hi k hk).2 (by unfold q_so; rw [if_neg (by omega), show 10 + j - 10 = j from by omega, g2]; exact q_m1_ne (by omega))
    have esp : q_sp (Z 11) (10 + j) k = q_c (Z 11 (69 + 7 * j) k) := by unfold q_sp; rw [if_neg (by omega), show 10 + j - 10 = j from by omega]
    rw [esl, Nat.zero_add, esp, g9] at hm
    rw [(qm_writable mdW qmW h8 hj (show k < 54 by omega) (Or.inr ⟨g1, T, C, g2, g3, g4⟩)).2.2 T C g2 g3 g4, if_pos hs, if_neg hne, am_set_p (by omega), hm, qr_6 (by omega), qd_6 (by omega), show (6 * T + C) / 6 = T from by omega, show (6 * T + C) % 6 = C from by omega, qw_1000, qw_10, nI_add, nI_add]
-- columns of questions and sources
def q_gC (A R Q : am_M) (x1 x2 : Int32) : Prop := ∃ j c, x1 = nI j ∧ x2 = nI c ∧ j < q_nq Q ∧ c < q_wx A R Q (10 + j)
def q_gS (A R Q : am_M) (x1 x2 : Int32) : Prop := ∃ src c, x1 = nI src ∧ x2 = nI c ∧ (src < q_nt A ∨ (10 ≤ src ∧ src < 10 + q_nq Q)) ∧ c < q_wx A R Q src
theorem q_gC_S {A R Q : am_M} (w : q_wd A) (qw : q_qw A Q) {x1 x2 : Int32} : q_gC A R Q x1 x2 ↔ (q_in (q_nq Q) x1 = 1 ∧ q_gS A R Q (x1 + 10) x2) := by
  have h8 := qw.1.2
  have h4 := w.1.2
  have e10 : ∀ j, nI j + (10 : Int32) = nI (10 + j) := fun j => by rw [Nat.add_comm]; exact nI_add j 10
  constructor
  · rintro ⟨j, c, rfl, rfl, h1, h2⟩
    exact ⟨q_in_1 h1 (by omega), 10 + j, c, e10 j, rfl, Or.inr ⟨by omega, by omega⟩, h2⟩
  · rintro ⟨h1, src, c, h2, rfl, h3, h5⟩
    rcases q_in_c (q_nq Q) (by omega) x1 with g | ⟨-, j, hj, rfl⟩
    · rw [g] at h1; exact absurd h1 (by decide)
    · rw [e10] at h2
      have : 10 + j = src := (nI_eq (by omega) (by omega)).mp h2
      subst this
      exact ⟨j, c, rfl, rfl, hj, h5⟩
theorem qa_wantC {s A R Q : am_M} (cd : q_cd s A) (w : q_wd A) (wr : q_wr A R) (cb : q_cb s 9 10 11 R) (qc : q_qc s Q) (qw : q_qw A Q) (x1 x2 : Int32) : p_CB_wantQuestionColumn s x1 x2 ∧ ∃ e t, f_CB_wantQuestionColumn s x1 x2 = (e, t) ∧ q_out s t (fun a b => q_FD a b ∨ a = 66) ∧ ((e = 1 ∧ ¬ q_gC A R Q x1 x2) ∨ (e = 0 ∧ ∃ j c, x1 = nI j ∧ x2 = nI c ∧ j < q_nq Q ∧ c < q_wx A R Q (10 + j))) := by
  have h8 := qw.1.2
  have hQ := qa_wantQ qc qw x1
  unfold p_CB_wantQuestionColumn f_CB_wantQuestionColumn
  rw [hQ]
  rcases q_in_c (q_nq Q) (by omega) x1 with g | ⟨g, j, hj, rfl⟩
  · rw [g, if_pos rfl]
    refine ⟨fun q => absurd q (by decide), 1, s, by rw [if_neg (show ¬ 1 = 0 by decide)], fun _ _ _ => rfl, Or.inl ⟨rfl, ?_⟩⟩
    rintro ⟨j, c, e1, -, hj, -⟩
    rw [e1, q_in_1 hj (by omega)] at g
    exact absurd g (by decide)
  rw [g, if_neg i10, if_pos rfl]
  obtain ⟨F1, t, F2, F3, -⟩ := qa_width cd w wr cb qc qw hj
  have hwx := q_wx_le (R := R) w qw (src := 10 + j) (Or.inr ⟨by omega, by omega⟩)
  rw [F2]
  dsimp only
  have uniq : q_gC A R Q (nI j) x2 → ∃ c, x2 = nI c ∧ c < q_wx A R Q (10 + j) := fun ⟨j', c, e1, e2, hj', h2⟩ => by
    have : j = j' := (nI_eq (by omega) (by omega)).mp e1
    subst this
    exact ⟨c, e2, h2⟩
  refine ⟨fun _ => ⟨fun _ => trivial, fun _ => ⟨F1, fun _ => trivial, fun _ => trivial⟩⟩, ?_⟩
  rcases pk_ix x2 (n := q_wx A R Q (10 + j)) (by omega) with c2 | c2 | ⟨c, hc, rfl⟩
  · rw [if_pos c2]
    refine ⟨1, s, rfl, fun _ _ _ => rfl, Or.inl ⟨rfl, fun q => ?_⟩⟩
    obtain ⟨c, e3, _⟩ := uniq q
    rw [e3] at c2; exact absurd c2 (qz (by omega))
  · have c3 : ¬ x2 < 0 := fun q => by
      rw [Int32.lt_iff_toInt_lt] at q
      rw [Int32.le_iff_toInt_le, nI_toInt (by omega)] at c2
      have z : (0 : Int32).toInt = 0 := by decide
      omega
    have c4 : ¬ x2 < nI (q_wx A R Q (10 + j)) := by
      intro q
      rw [Int32.lt_iff_toInt_lt] at q
      rw [Int32.le_iff_toInt_le] at c2
      omega
    rw [if_neg c3, if_neg c4]
    refine ⟨1, t, rfl, F3, Or.inl ⟨rfl, fun q => ?_⟩⟩
    obtain ⟨c, e3, h2⟩ := uniq q
    rw [e3] at c2; exact absurd c2 (nI_ge h2 (by omega))
  · have c3 : ¬ nI c < 0 := qz (by omega)
    have c4 : nI c < nI (q_wx A R Q (10 + j)) := nI_lt hc (by omega)
    rw [if_neg c3, if_pos c4]
    exact ⟨0, t, rfl, F3, Or.inr ⟨rfl, j, c, rfl, rfl, hj, hc⟩⟩
theorem qm_hasC {s A R Q : am_M} (md : q_md s A) (w : q_wd A) (wr : q_wr A R) (mb : q_mb s R) (qm : q_qm s Q) (qw : q_qw A Q) (x1 x2 : Int32) : p_MO_hasColumn s x1 x2 ∧ ∃ v t, f_MO_hasColumn s x1 x2 = (v, t) ∧ q_out s t (q_LD Q) ∧ (∀ src, (src < q_nt A ∨ (10 ≤ src ∧ src < 10 + q_nq Q)) → q_msh A R Q t src) ∧ ((v = 0 ∧ ¬ q_gS A R Q x1 x2) ∨ (v = 1 ∧ ∃ src c, x1 = nI src ∧ x2 = nI c ∧ (src < q_nt A ∨ (10 ≤ src ∧ src < 10 + q_nq Q)) ∧ c < q_wx A R Q src)) := by
  have h8 := qw.1.2
  have h4 := w.1.2
  obtain ⟨L1, t, L2, L3, L4⟩ := qm_lays_a md w wr mb qm qw
  have mdT := q_md_out L3 (fun a b q => by have := q_LD_w q; omega) md
  have qmT := q_LD_qm h8 L3 qm
  have hT := qd_isT mdT w x1
  obtain ⟨pq, hq⟩ := qm_isQ qmT qw (x1 - 10)
  -- is it a source?
  have src : p_MO_isSource t x1 ∧ ((f_MO_isSource t x1 = 0 ∧ ¬ ∃ src, x1 = nI src ∧ (src < q_nt A ∨ (10 ≤ src ∧ src < 10 + q_nq Q))) ∨ (f_MO_isSource t x1 = 1 ∧ ∃ src, x1 = nI src ∧ (src < q_nt A ∨ (10 ≤ src ∧ src < 10 + q_nq Q)))) := by
    unfold p_MO_isSource f_MO_isSource
    rw [hT, hq]
    refine ⟨⟨qd_pisT _ _, fun _ => ⟨pq, fun _ => trivial, fun _ => trivial⟩, fun _ => trivial⟩, ?_⟩
    rcases q_isT_c w x1 with g | ⟨g, T, hT4, rfl⟩
    · rw [g, if_pos rfl]
      rcases q_in_c (q_nq Q) (by omega) (x1 - 10) with k | ⟨k, j, hj, e⟩
      · rw [k, if_pos rfl]
        refine Or.inl ⟨rfl, ?_⟩
        rintro ⟨src, rfl, hs⟩
        rcases hs with hs | ⟨hs1, hs2⟩
        · unfold q_isT at g
          rw [q_in_1 hs (by omega)] at g
          exact absurd g (by decide)
        · have e10 : nI src - (10 : Int32) = nI (src - 10) := by
            have := q_subI (src - 10) 10
            rw [show src - 10 + 10 = src from by omega] at this; exact this
          rw [e10, q_in_1 (show src - 10 < q_nq Q by omega) (by omega)] at k
          exact absurd k (by decide)
      · rw [k, if_neg i10]
        refine Or.inr ⟨rfl, 10 + j, ?_, Or.inr ⟨by omega, by omega⟩⟩
        have e2 : x1 - 10 + 10 = x1 := Int32.sub_add_cancel x1 10
        rw [← e2, e, Nat.add_comm]; exact nI_add j 10
    · rw [g, if_neg i10]
      exact Or.inr ⟨rfl, T, rfl, Or.inl hT4⟩
  obtain ⟨ps, hs⟩ := src
  unfold p_MO_hasColumn f_MO_hasColumn
  rw [L2]
  rcases hs with ⟨g, hno⟩ | ⟨g, src, rfl, hsrc⟩
  · rw [g, if_pos rfl]
    exact ⟨⟨L1, ps, fun _ => trivial, fun q => absurd rfl q⟩, 0, t, rfl, L3, L4, Or.inl ⟨rfl, fun ⟨src, c, e1, _, e3, _⟩ => hno ⟨src, e1, e3⟩⟩⟩
  rw [g, if_neg i10]
  obtain ⟨-, S2⟩ := q_sl_I t (src := src) (by omega)
  have hsl : q_sl src < 12 := by unfold q_sl; by_cases h : src < 10; rw [if_pos h]; omega; rw [if_neg h]; omega
  have hwx := q_wx_le (R := R) w qw (src := src) (by omega)
  have hw : t 249 (q_sl src) = nI (q_wx A R Q src) := (L4 src hsrc).2.1
  have v12 : vp_in (nI (q_sl src)) 12 := vp_in_nI hsl (by omega)
  rw [S2, nI_clamp (n := q_sl src) (by omega), hw, qb_in1 (by omega)]
  refine ⟨⟨L1, ps, fun q => absurd q i10, fun _ => ⟨v12, fun _ => trivial, fun _ => trivial⟩⟩, ?_⟩
  rcases q_in_c (q_wx A R Q src) (by omega) x2 with g3 | ⟨g3, c, hc, rfl⟩
  · have g3' : (if x2 < 0 then (0 : Int32) else if nI (q_wx A R Q src) ≤ x2 then 0 else 1) = 0 := g3
    rw [if_pos g3']
    refine ⟨0, t, rfl, L3, L4, Or.inl ⟨rfl, ?_⟩⟩
    rintro ⟨src', c, e1, rfl, h3, h5⟩
    have : src = src' := (nI_eq (by omega) (by omega)).mp e1
    subst this
    rw [q_in_1 h5 (by omega)] at g3
    exact absurd g3 (by decide)
  · have g3' : (if nI c < 0 then (0 : Int32) else if nI (q_wx A R Q src) ≤ nI c then 0 else 1) = 1 := g3
    rw [g3', if_neg i10]
    exact ⟨1, t, rfl, L3, L4, Or.inr ⟨rfl, src, c, rfl, rfl, hsrc, hc⟩⟩
end

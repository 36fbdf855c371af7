noncomputable section
-- plain questions: the model
theorem qm_j23 {j W J wJ : Nat} (hj : j < 8) (hJ : J < 4) (hW : W + wJ ≤ 54) (x2 x3 : Int32) : ∀ (d k n : Nat) (s : am_M), k + d = wJ → d < n → s 208 J = nI wJ → s 249 j = nI (W + k) → p_MO_joins_23 n s (nI j) x2 x3 (nI J) (nI k) ∧ ∃ t, f_MO_joins_23 n s (nI j) x2 x3 (nI J) (nI k) = t ∧ q_out s t (fun a b => (a = 249 ∧ b = j) ∨ (a = 252 ∧ 54 * j + (W + k) ≤ b ∧ b < 54 * j + (W + wJ))) ∧ t 249 j = nI (W + wJ) ∧ ∀ i, k ≤ i → i < wJ → t 252 (54 * j + (W + i)) = nI (6 * J + i) := by
  have v4 : vp_in (nI J) 4 := vp_in_nI hJ (by omega)
  have v12 : vp_in (nI j) 12 := vp_in_nI (by omega) (by omega)
  have cJ : (nI J).toNatClampNeg = J := nI_clamp (by omega)
  have cj : (nI j).toNatClampNeg = j := nI_clamp (by omega)
  intro d
  induction d with
  | zero =>
    intro k n s h1 h2 h3 h4
    obtain ⟨n, rfl⟩ : ∃ k, n = k + 1 := ⟨n - 1, by omega⟩
    have e : k = wJ := by omega
    have c : nI wJ ≤ nI k := nI_le (by omega) (by omega)
    unfold p_MO_joins_23 f_MO_joins_23
    rw [cJ, h3, if_pos c]
    exact ⟨⟨v4, fun _ => trivial, fun q => absurd c q⟩, s, rfl, fun _ _ _ => rfl, by rw [h4, e], fun i i1 i2 => by omega⟩
  | succ d ih =>
    intro k n s h1 h2 h3 h4
    obtain ⟨n, rfl⟩ : ∃ k, n = k + 1 := ⟨n - 1, by omega⟩
    have c : ¬ nI wJ ≤ nI k := nI_ge (by omega) (by omega)
    have cl : (nI (54 * j + (W + k))).toNatClampNeg = 54 * j + (W + k) := nI_clamp (by omega)
    have e1 : am_set s 252 (54 * j + (W + k)) (nI (6 * J + k)) 249 j = nI (W + k) := by rw [am_set_p (by omega)]; exact h4
    obtain ⟨p1, t, t1, t2, t3, t4⟩ := ih (k + 1) n (am_set (am_set s 252 (54 * j + (W + k)) (nI (6 * J + k))) 249 j (nI (W + k + 1))) (by omega) (by omega) (by rw [am_set_p (by omega), am_set_p (by omega)]; exact h3) (by rw [am_set_q]; rfl)
    have v : vp_in (nI (54 * j + (W + k))) 648 := vp_in_nI (by omega) (by omega)
    unfold p_MO_joins_23 f_MO_joins_23
    rw [cJ, h3, if_neg c, cj, h4, qw_54, nI_add, cl, qw_6, nI_add, e1, nI_1 (W + k), nI_1 k]
    refine ⟨⟨v4, fun q => absurd q c, fun _ => ⟨v12, v, v12, v12, p1⟩⟩, t, t1, fun a b q => ?_, t3, fun i i1 i2 => ?_⟩
    · rw [t2 a b (by omega), am_set_p (by omega), am_set_p (by omega)]
    · by_cases e : i = k
      · rw [e, t2 _ _ (by omega), am_set_p (by omega), am_set_q]
      · exact t4 i (by omega) i2
theorem qm_joins {s A : am_M} {j src c W T C J : Nat} (md : q_md s A) (w : q_wd A) (hj : j < 8) (hs : src < 4 ∨ (10 ≤ src ∧ src < 10 + j)) (hc : c < 54) (ho : q_mo s src c = nI (6 * T + C)) (hT : T < 4) (hC : C < 6) (hJ : A 212 (6 * T + C) = nI J) (hJ4 : J < 4) (hW : W + q_w A J ≤ 54) (h49 : s 249 j = nI W) : p_MO_joins s (nI j) (nI src) (nI c) ∧ ∃ t, f_MO_joins s (nI j) (nI src) (nI c) = t ∧ q_out s t (fun a b => ((a = 239 ∨ a = 249) ∧ b = j) ∨ (a = 252 ∧ 54 * j + W ≤ b ∧ b < 54 * j + (W + q_w A J))) ∧ t 239 j = nI c ∧ t 249 j = nI (W + q_w A J) ∧ ∀ i, i < q_w A J → t 252 (54 * j + (W + i)) = nI (6 * J + i) := by
  obtain ⟨o1, o2⟩ := qm_og1 s (j := j) (by omega) hs hc
  have eo : f_MO_originOf s (nI src) (nI c) = nI (6 * T + C) := o2.trans ho
  have cj : (nI j).toNatClampNeg = j := nI_clamp (by omega)
  have e12 : s 212 (6 * T + C) = nI J := by rw [md.2 212 (by omega) (by omega)]; exact hJ
  have ew : A 208 J = nI (q_w A J) := (w.2.1 J hJ4).1
  obtain ⟨a1, t, a2, a3, a4, a5⟩ := qm_j23 (W := W) (wJ := q_w A J) hj hJ4 hW (nI src) (nI c) (q_w A J) 0 am_F (am_set s 239 j (nI c)) (by omega) (by rw [am_F_eq]; omega) (by rw [am_set_p (by omega), md.2 208 (by omega) (by omega)]; exact ew) (by rw [am_set_p (by omega)]; exact h49)
  rw [nI_0] at a1 a2
  unfold p_MO_joins f_MO_joins
  rw [eo, nI_clamp (n := 6 * T + C) (by omega), e12, cj]
  refine ⟨⟨o1, vp_in_nI (by omega) (by omega), vp_in_nI (by omega) (by omega), a1⟩, t, a2, fun a b q => ?_, ?_, a4, fun i hi => a5 i (by omega) hi⟩
  · rw [a3 a b (by omega), am_set_p (by omega)]
  · rw [a3 _ _ (by omega), am_set_q]
theorem q_mo_c {u A Q : am_M} (w : q_wd A) (qm : q_qm u Q) {src i : Nat} (hs : src < 4 ∨ (10 ≤ src ∧ src < 10 + q_nq Q)) (hi : i < q_sw A Q src) (h54 : i < 54) : q_mo u src i = q_mc (q_so Q src i) := by
  unfold q_mo q_so
  by_cases h : src < 10
  · have h6 : i < 6 := by
      unfold q_sw at hi
      rw [if_pos h] at hi
      have := (w.2.1 src (by omega)).2.1
      omega
    rw [if_pos h, if_pos h, q_mc_I (by omega) h6]
  · obtain ⟨-, -, -, -, -, -, -, -, -, e52⟩ := qm.2 (src - 10) (by omega)
    rw [if_neg h, if_neg h, e52 i h54]
/-- a source's column comes from none, or from a column of a table -/
theorem q_so_f {A Q : am_M} (w : q_wd A) (qw : q_qw A Q) {src c : Nat} (hs : src < 4 ∨ (10 ≤ src ∧ src < 10 + q_nq Q)) (hc : c < q_sw A Q src) (h54 : c < 54) : q_so Q src c = -1 ∨ ∃ T C, q_so Q src c = nI (10 * T + C) ∧ T < 4 ∧ C < 6 := by
  unfold q_so
  by_cases h : src < 10
  · have h6 : c < 6 := by
      unfold q_sw at hc
      rw [if_pos h] at hc
      have := (w.2.1 src (by omega)).2.1
      omega
    rw [if_pos h]
    exact Or.inr ⟨src, c, rfl, by omega, h6⟩
  · rw [if_neg h]
    exact q_org w qw (by omega) h54
/-- a source's column is a link -/
def q_lk (A Q : am_M) (src c : Nat) : Prop := ∃ T C, q_so Q src c = nI (10 * T + C) ∧ T < 4 ∧ C < 6 ∧ A 209 (6 * T + C) = 1
theorem qa_link {s A Q : am_M} (cd : q_cd s A) (w : q_wd A) (qc : q_qc s Q) (qw : q_qw A Q) {src c : Nat} (hs : src < 4 ∨ (10 ≤ src ∧ src < 10 + q_nq Q)) (hc : c < q_sw A Q src) (h54 : c < 54) : p_AS_originOf s (nI src) (nI c) ∧ p_CB_wantLinkCode s (f_AS_originOf s (nI src) (nI c)) ∧ ((f_CB_wantLinkCode s (f_AS_originOf s (nI src) (nI c)) = 2 ∧ ¬ q_lk A Q src c) ∨ (f_CB_wantLinkCode s (f_AS_originOf s (nI src) (nI c)) = 0 ∧ q_lk A Q src c)) := by
  obtain ⟨o1, o2⟩ := qa_og (s := s) qc qw hs (x := nI c) (Or.inr ⟨c, h54, rfl⟩)
  have ec : q_c (nI c) = c := nI_clamp (by omega)
  rw [if_neg (q_m1_ne (n := c) (by omega)), ec] at o2
  rw [o2]
  refine ⟨o1, ?_⟩
  rcases q_so_f w qw hs hc h54 with g | ⟨T, C, g, hT, hC⟩
  · rw [g]
    have n0 : ¬ (0 : Int32) ≤ -1 := by decide
    unfold p_CB_wantLinkCode f_CB_wantLinkCode
    rw [if_neg n0]
    refine ⟨⟨fun q => absurd q n0, fun _ => trivial⟩, Or.inl ⟨rfl, ?_⟩⟩
    rintro ⟨T, C, e, hT, hC, -⟩
    rw [g] at e
    exact absurd e.symm (q_m1_ne (by omega))
  · rw [g]
    have n0 : (0 : Int32) ≤ nI (10 * T + C) := nI_le (a := 0) (Nat.zero_le _) (by omega)
    have hl := qd_link cd hT hC
    unfold p_CB_wantLinkCode f_CB_wantLinkCode
    rw [if_pos n0, qr_10 (by omega), qd_10 (by omega), show (10 * T + C) / 10 = T from by omega, show (10 * T + C) % 10 = C from by omega, hl]
    refine ⟨⟨fun _ => ⟨qd_plink _ _ _, fun _ => trivial⟩, fun q => absurd n0 q⟩, ?_⟩
    by_cases k : A 209 (6 * T + C) = 1
    · rw [if_pos k, if_pos rfl]
      exact Or.inr ⟨rfl, T, C, g, hT, hC, k⟩
    · rw [if_neg k]
      refine Or.inl ⟨rfl, ?_⟩
      rintro ⟨T', C', e, hT', hC', k'⟩
      rw [g] at e
      obtain ⟨rfl, rfl⟩ := q_10 (by omega) (by omega) (by omega) (by omega) e
      exact k k'
theorem qm_link {u A Q : am_M} (md : q_md u A) (w : q_wd A) (qm : q_qm u Q) (qw : q_qw A Q) {src c : Nat} (hs : src < 4 ∨ (10 ≤ src ∧ src < 10 + q_nq Q)) (hc : c < q_sw A Q src) (h54 : c < 54) : p_MO_isLinkOf u (nI src) (nI c) ∧ ((f_MO_isLinkOf u (nI src) (nI c) = 0 ∧ ¬ q_lk A Q src c) ∨ (f_MO_isLinkOf u (nI src) (nI c) = 1 ∧ q_lk A Q src c)) := by
  have h8 := qw.1.2
  obtain ⟨o1, o2⟩ := qm_og1 u (j := q_nq Q) (by omega) hs h54
  have o2 : f_MO_originOf u (nI src) (nI c) = q_mo u src c := o2
  have em := q_mo_c w qm hs hc h54
  unfold p_MO_isLinkOf f_MO_isLinkOf
  rw [o2, em]
  rcases q_so_f w qw hs hc h54 with g | ⟨T, C, g, hT, hC⟩
  · have em1 : q_mc (-1) = -1 := by unfold q_mc; rw [if_pos rfl]
    rw [g, em1, if_pos rfl]
    refine ⟨⟨o1, fun _ => trivial, fun q => absurd rfl q⟩, Or.inl ⟨rfl, ?_⟩⟩
    rintro ⟨T, C, e, hT, hC, -⟩
    rw [g] at e
    exact absurd e.symm (q_m1_ne (by omega))
  · have n1 := q_m1_ne (n := 6 * T + C) (by omega)
    have e9 : u 209 (6 * T + C) = A 209 (6 * T + C) := by rw [md.2 209 (by omega) (by omega)]
    rw [g, q_mc_I (by omega) hC, if_neg n1, nI_clamp (n := 6 * T + C) (by omega), e9]
    refine ⟨⟨o1, fun q => absurd q n1, fun _ => ⟨vp_in_nI (by omega) (by omega), fun _ => trivial, fun _ => trivial⟩⟩, ?_⟩
    by_cases k : A 209 (6 * T + C) = 1
    · rw [if_pos k]
      exact Or.inr ⟨rfl, T, C, g, hT, hC, k⟩
    · rw [if_neg k]
      refine Or.inl ⟨rfl, ?_⟩
      rintro ⟨T', C', e, hT', hC', k'⟩
      rw [g] at e
      obtain ⟨rfl, rfl⟩ := q_10 (by omega) (by omega) (by omega) (by omega) e
      exact k k'
/-- the model makes a plain question -/
theorem qm_ask93 {u A R Q : am_M} (md : q_md u A) (w : q_wd A) (wr : q_wr A R) (mb : q_mb u R) (qm : q_qm u Q) (qw : q_qw A Q) {src : Nat} (hs : q_isS A Q src) (hx : ¬ q_xS Q src) (hn : q_nq Q < 8) (x2 x3 x4 : Int32) (hj : x2 = -1 ∨ ∃ c T C J, x2 = nI c ∧ c < q_sw A Q src ∧ q_so Q src c = nI (10 * T + C) ∧ T < 4 ∧ C < 6 ∧ A 212 (6 * T + C) = nI J ∧ J < 4) : p_MO_ask_93 u (nI src) x2 x3 x4 0 ∧ ∃ t, f_MO_ask_93 u (nI src) x2 x3 x4 0 = (nI (q_nq Q), t) ∧ q_out u t (fun a b => q_LD Q a b ∨ (a = 207 ∧ (b = 0 ∨ b = 39)) ∨ (((236 ≤ a ∧ a ≤ 239) ∨ a = 243 ∨ a = 249) ∧ b = q_nq Q) ∨ (a = 252 ∧ 54 * q_nq Q ≤ b ∧ b < 54 * q_nq Q + 54)) ∧ t 207 0 = 0 ∧ t 207 39 = nI (q_nq Q + 1) ∧ t 236 (q_nq Q) = 0 ∧ t 237 (q_nq Q) = nI src ∧ t 243 (q_nq Q) = 0 ∧ t 238 (q_nq Q) = nI (q_sw A Q src) ∧
    (x2 = -1 → t 239 (q_nq Q) = -1 ∧ t 249 (q_nq Q) = nI (q_sw A Q src) ∧ ∀ i, i < 54 → t 252 (54 * q_nq Q + i) = if i < q_sw A Q src then q_mc (q_so Q src i) else -1) ∧
    (∀ c T C J, x2 = nI c → c < 54 → q_so Q src c = nI (10 * T + C) → T < 4 → C < 6 → A 212 (6 * T + C) = nI J → J < 4 → t 239 (q_nq Q) = nI c ∧ t 249 (q_nq Q) = nI (q_sw A Q src + q_w A J) ∧ ∀ i, i < 54 → t 252 (54 * q_nq Q + i) = if i < q_sw A Q src then q_mc (q_so Q src i) else if i < q_sw A Q src + q_w A J then nI (6 * J + (i - q_sw A Q src)) else -1) := by
  have h4 := w.1.2
  have hs' : src < 4 ∨ (10 ≤ src ∧ src < 10 + q_nq Q) := by unfold q_isS at hs; omega
  have hk2 : src < 10 ∨ Q (67 + 7 * (src - 10)) 0 ≠ 2 := by
    by_cases h : src < 10
    · exact Or.inl h
    · exact Or.inr (fun q => hx ⟨by omega, q⟩)
  have ewn := q_wx_n (A := A) (R := R) (Q := Q) hk2
  obtain ⟨b1, -, -⟩ := q_sw_b w qw hs'
  have b54 : q_sw A Q src ≤ 54 := by omega
  have md0 := q_md_set (i := 207) (k := 0) (x := 0) (by omega) md
  have mb0 := q_mb_set (i := 207) (k := 0) (x := 0) (by omega) mb
  have qm0 : q_qm (am_set u 207 0 0) Q := q_qm_out (P := fun a b => a = 207 ∧ b = 0) qw.1.2 (fun a b q => am_set_p (by omega)) (fun a b q => by omega) qm
  obtain ⟨l1, t1, l2, l3, l4⟩ := qm_lays_a md0 w wr mb0 qm0 qw
  have qm1 := q_LD_qm qw.1.2 l3 qm0
  have md1 := q_md_out l3 (fun a b q => by have := q_LD_w q; omega) md0
  have h39 : t1 207 39 = nI (q_nq Q) := qm1.1.trans qw.1.1
  have hW : t1 249 (q_sl src) = nI (q_sw A Q src) := by rw [← ewn]; exact (l4 src hs).2.1
  obtain ⟨m1, t2, m2, m3, m4, m5, m6, m7, m8, m9, m10, m11⟩ := qm_makes (K := 0) hn hs' h39 hW b54
  have em : ∀ i, i < q_sw A Q src → i < 54 → q_mo t1 src i = q_mc (q_so Q src i) := fun i h1 h2 => q_mo_c w qm1 hs' h1 h2
  have m11' : ∀ i, i < 54 → t2 252 (54 * q_nq Q + i) = if i < q_sw A Q src then q_mc (q_so Q src i) else -1 := fun i hi => by
    rw [m11 i hi]
    by_cases c : i < q_sw A Q src
    · rw [if_pos ⟨rfl, c⟩, if_pos c]; exact em i c hi
    · rw [if_neg (fun q => c q.2), if_neg c]
  have o2 : q_out u t2 (fun a b => q_LD Q a b ∨ (a = 207 ∧ (b = 0 ∨ b = 39)) ∨ (((236 ≤ a ∧ a ≤ 239) ∨ a = 243 ∨ a = 249) ∧ b = q_nq Q) ∨ (a = 252 ∧ 54 * q_nq Q ≤ b ∧ b < 54 * q_nq Q + 54)) := fun a b q => by
    have n1 : ¬ q_LD Q a b := fun q2 => q (Or.inl q2)
    have n2 : ¬ (a = 207 ∧ (b = 0 ∨ b = 39)) := fun q2 => q (Or.inr (Or.inl q2))
    have n3 : ¬ (((236 ≤ a ∧ a ≤ 239) ∨ a = 243 ∨ a = 249) ∧ b = q_nq Q) := fun q2 => q (Or.inr (Or.inr (Or.inl q2)))
    have n4 : ¬ (a = 252 ∧ 54 * q_nq Q ≤ b ∧ b < 54 * q_nq Q + 54) := fun q2 => q (Or.inr (Or.inr (Or.inr q2)))
    rw [m3 a b (by omega), l3 a b n1, am_set_p (by omega)]
  have t20 : t2 207 0 = 0 := by rw [m3 _ _ (by omega), l3 _ _ (fun q => by have := q_LD_w q; omega), am_set_q]
  have i01 : ¬ (0 : Int32) = 1 := by decide
  rw [if_neg i01] at m10
  unfold p_MO_ask_93 f_MO_ask_93
  rw [pr_holds0]
  dsimp only
  rw [if_neg i10, l2, m2]
  dsimp only
  rcases hj with rfl | ⟨c, T, C, J, rfl, hc, ho, hT, hC, hJ, hJ4⟩
  · rw [if_pos rfl]
    refine ⟨⟨fun q => absurd q i10, fun _ => ⟨l1, m1, fun _ => trivial, fun q => absurd rfl q⟩⟩, t2, rfl, o2, t20, m4, m5, m6, m8, m9, fun _ => ⟨m7, m10, m11'⟩, fun c T C J e hc54 _ _ _ _ _ => absurd e.symm (q_m1_ne (by omega))⟩
  · have nm := q_m1_ne (n := c) (by omega)
    have md2 : q_md t2 A := q_md_out m3 (fun a b q => by omega) md1
    have hJw := (w.2.1 J hJ4).2.1
    have hmo : q_mo t2 src c = nI (6 * T + C) := by
      have e : q_mo t2 src c = q_mo t1 src c := by
        unfold q_mo
        by_cases h : src < 10
        · rw [if_pos h, if_pos h]
        · rw [if_neg h, if_neg h, m3 _ _ (by omega)]
      rw [e, em c hc (by omega), ho, q_mc_I (by omega) hC]
    obtain ⟨j1, t3, j2, j3, j4, j5, j6⟩ := qm_joins (W := q_sw A Q src) md2 w hn hs' (show c < 54 by omega) hmo hT hC hJ hJ4 (by omega) m10
    rw [if_neg nm, j2]
    refine ⟨⟨fun q => absurd q i10, fun _ => ⟨l1, m1, fun q => absurd q nm, fun _ => ⟨j1, trivial⟩⟩⟩, t3, rfl, fun a b q => ?_, ?_, ?_, ?_, ?_, ?_, ?_, fun e => absurd e nm, fun c' T' C' J' e hc' ho' hT' hC' hJ' hJ4' => ?_⟩
    · have n3 : ¬ (((236 ≤ a ∧ a ≤ 239) ∨ a = 243 ∨ a = 249) ∧ b = q_nq Q) := fun q2 => q (Or.inr (Or.inr (Or.inl q2)))
      have n4 : ¬ (a = 252 ∧ 54 * q_nq Q ≤ b ∧ b < 54 * q_nq Q + 54) := fun q2 => q (Or.inr (Or.inr (Or.inr q2)))
      rw [j3 a b (by omega), o2 a b q]
    · rw [j3 _ _ (by omega)]; exact t20
    · rw [j3 _ _ (by omega)]; exact m4
    · rw [j3 _ _ (by omega)]; exact m5
    · rw [j3 _ _ (by omega)]; exact m6
    · rw [j3 _ _ (by omega)]; exact m8
    · rw [j3 _ _ (by omega)]; exact m9
    · have ec : c = c' := (nI_eq (by omega) (by omega)).mp e
      subst ec
      rw [ho] at ho'
      obtain ⟨eT, eC⟩ := q_10 (by omega) (by omega) (by omega) (by omega) ho'
      subst eT
      subst eC
      rw [hJ] at hJ'
      have eJ : J = J' := (nI_eq (by omega) (by omega)).mp hJ'
      subst eJ
      refine ⟨j4, j5, fun i hi => ?_⟩
      by_cases c1 : i < q_sw A Q src
      · rw [if_pos c1, j3 _ _ (by omega), m11' i hi, if_pos c1]
      · by_cases c2 : i < q_sw A Q src + q_w A J
        · have := j6 (i - q_sw A Q src) (by omega)
          rw [show q_sw A Q src + (i - q_sw A Q src) = i from by omega] at this
          rw [if_neg c1, if_pos c2]; exact this
        · rw [if_neg c1, if_neg c2, j3 _ _ (by omega), m11' i hi, if_neg c1]
end

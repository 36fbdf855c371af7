noncomputable section
-- plain questions: the class
theorem qa_atc {j T cnt p w0 : Nat} (hj : j < 8) (hT : T < 4) (hw : w0 + cnt ≤ 54) : ∀ (d k n : Nat) (s : am_M), k + d = cnt → d < n → s (67 + 7 * j) 7 = nI (w0 + k) → s (67 + 7 * j) 9 = nI p → p_QU_addTableColumns_2 n s (67 + 7 * j) (nI T) (nI cnt) (nI k) ∧ ∃ S, f_QU_addTableColumns_2 n s (67 + 7 * j) (nI T) (nI cnt) (nI k) = S ∧ q_out s S (fun a b => (a = 67 + 7 * j ∧ (b = 7 ∨ b = 9)) ∨ ((a = 68 + 7 * j ∨ a = 69 + 7 * j) ∧ w0 + k ≤ b ∧ b < w0 + cnt)) ∧ S (67 + 7 * j) 7 = nI (w0 + cnt) ∧ S (67 + 7 * j) 9 = nI (p + 1) ∧ ∀ i, k ≤ i → i < cnt → S (68 + 7 * j) (w0 + i) = nI (10 * T + i) ∧ S (69 + 7 * j) (w0 + i) = nI p := by
  obtain ⟨-, l10, l11, -⟩ := qa_lk hj
  obtain ⟨h0, h10, h11, -⟩ := qa_sh hj
  have psh : 67 + 7 * j < 207 ∧ am_sh (67 + 7 * j) = (0, 4, 17) := ⟨by omega, h0⟩
  intro d
  induction d with
  | zero =>
    intro k n s h1 h2 h3 h4
    obtain ⟨n, rfl⟩ : ∃ k, n = k + 1 := ⟨n - 1, by omega⟩
    have e : k = cnt := by omega
    have c : nI cnt ≤ nI k := nI_le (by omega) (by omega)
    unfold p_QU_addTableColumns_2 f_QU_addTableColumns_2
    rw [if_pos c]
    refine ⟨⟨fun _ => ⟨psh, trivial⟩, fun q => absurd c q⟩, _, rfl, fun a b q => am_set_p (by omega), ?_, ?_, fun i i1 i2 => by omega⟩
    · rw [am_set_p (by omega), h3, e]
    · rw [am_set_q, h4, nI_1 p]
  | succ d ih =>
    intro k n s h1 h2 h3 h4
    obtain ⟨n, rfl⟩ : ∃ k, n = k + 1 := ⟨n - 1, by omega⟩
    have c : ¬ nI cnt ≤ nI k := nI_ge (by omega) (by omega)
    have c54 : ¬ (54 : Int32) ≤ nI (w0 + k) := ql_54 (by omega)
    have cl : (nI (w0 + k)).toNatClampNeg = w0 + k := nI_clamp (by omega)
    have e1 : am_set s (68 + 7 * j) (w0 + k) (nI (10 * T + k)) (67 + 7 * j) 7 = nI (w0 + k) := by rw [am_set_p (by omega)]; exact h3
    have e2 : am_set s (68 + 7 * j) (w0 + k) (nI (10 * T + k)) (67 + 7 * j) 9 = nI p := by rw [am_set_p (by omega)]; exact h4
    have e3 : am_set (am_set s (68 + 7 * j) (w0 + k) (nI (10 * T + k))) (69 + 7 * j) (w0 + k) (nI p) (67 + 7 * j) 7 = nI (w0 + k) := by rw [am_set_p (by omega)]; exact e1
    obtain ⟨p1, S, s1, s2, s3, s4, s5⟩ := ih (k + 1) n (am_set (am_set (am_set s (68 + 7 * j) (w0 + k) (nI (10 * T + k))) (69 + 7 * j) (w0 + k) (nI p)) (67 + 7 * j) 7 (nI (w0 + k + 1))) (by omega) (by omega) (by rw [am_set_q]; rfl) (by rw [am_set_p (by omega), am_set_p (by omega)]; exact e2)
    have v : vp_in (nI (w0 + k)) 54 := vp_in_nI (by omega) (by omega)
    unfold p_QU_addTableColumns_2 f_QU_addTableColumns_2
    rw [h3, if_neg c, if_neg c54, l10, l11, cl, qw_10, nI_add, e1, cl, e2, e3, nI_1 (w0 + k), nI_1 k]
    refine ⟨⟨fun q => absurd q c, fun _ => ⟨psh, fun q => absurd q c54, fun _ => ⟨⟨by omega, h10⟩, v, ⟨by omega, h11⟩, v, p1⟩⟩⟩, S, s1, fun a b q => ?_, s3, s4, fun i i1 i2 => ?_⟩
    · rw [s2 a b (by omega), am_set_p (by omega), am_set_p (by omega), am_set_p (by omega)]
    · by_cases e : i = k
      · rw [e]
        refine ⟨?_, ?_⟩
        · rw [s2 _ _ (by omega), am_set_p (by omega), am_set_p (by omega), am_set_q]
        · rw [s2 _ _ (by omega), am_set_p (by omega), am_set_q]
      · exact s5 i (by omega) i2
theorem qa_aco {j g W : Nat} (hj : j < 8) (hg : g < j) (hW : W ≤ 54) : ∀ (d c n : Nat) (s : am_M), c + d = W → d < n → s (67 + 7 * j) 7 = nI W → p_QU_addColumnsOf_23 n s (67 + 7 * j) (67 + 7 * g) (nI c) ∧ ∃ S, f_QU_addColumnsOf_23 n s (67 + 7 * j) (67 + 7 * g) (nI c) = S ∧ q_out s S (fun a b => (a = 68 + 7 * j ∨ a = 69 + 7 * j) ∧ c ≤ b ∧ b < W) ∧ ∀ i, c ≤ i → i < W → S (68 + 7 * j) i = s (68 + 7 * g) i ∧ S (69 + 7 * j) i = s (69 + 7 * g) i := by
  obtain ⟨-, l10, l11, -⟩ := qa_lk hj
  obtain ⟨h0, h10, h11, -⟩ := qa_sh hj
  obtain ⟨-, k10, k11, -⟩ := qa_lk (show g < 8 by omega)
  obtain ⟨g0, g10, g11, -⟩ := qa_sh (show g < 8 by omega)
  have psh : 67 + 7 * j < 207 ∧ am_sh (67 + 7 * j) = (0, 4, 17) := ⟨by omega, h0⟩
  intro d
  induction d with
  | zero =>
    intro c n s h1 h2 h3
    obtain ⟨n, rfl⟩ : ∃ k, n = k + 1 := ⟨n - 1, by omega⟩
    have c1 : nI W ≤ nI c := nI_le (by omega) (by omega)
    unfold p_QU_addColumnsOf_23 f_QU_addColumnsOf_23
    rw [h3, if_pos c1]
    exact ⟨⟨psh, fun _ => trivial, fun q => absurd c1 q⟩, s, rfl, fun _ _ _ => rfl, fun i i1 i2 => by omega⟩
  | succ d ih =>
    intro c n s h1 h2 h3
    obtain ⟨n, rfl⟩ : ∃ k, n = k + 1 := ⟨n - 1, by omega⟩
    have c1 : ¬ nI W ≤ nI c := nI_ge (by omega) (by omega)
    have cl : (nI c).toNatClampNeg = c := nI_clamp (by omega)
    have e1 : am_set s (68 + 7 * j) c (s (68 + 7 * g) c) (69 + 7 * g) c = s (69 + 7 * g) c := am_set_p (by omega)
    obtain ⟨p1, S, s1, s2, s3⟩ := ih (c + 1) n (am_set (am_set s (68 + 7 * j) c (s (68 + 7 * g) c)) (69 + 7 * j) c (s (69 + 7 * g) c)) (by omega) (by omega) (by rw [am_set_p (by omega), am_set_p (by omega)]; exact h3)
    have v : vp_in (nI c) 54 := vp_in_nI (by omega) (by omega)
    unfold p_QU_addColumnsOf_23 f_QU_addColumnsOf_23
    rw [h3, if_neg c1, l10, l11, k10, k11, cl, e1, nI_1 c]
    refine ⟨⟨psh, fun q => absurd q c1, fun _ => ⟨⟨by omega, h10⟩, ⟨by omega, g0⟩, ⟨by omega, g10⟩, v, v, ⟨by omega, h11⟩, ⟨by omega, g11⟩, v, v, p1⟩⟩, S, s1, fun a b q => ?_, fun i i1 i2 => ?_⟩
    · rw [s2 a b (by omega), am_set_p (by omega), am_set_p (by omega)]
    · by_cases e : i = c
      · rw [e]
        refine ⟨?_, ?_⟩
        · rw [s2 _ _ (by omega), am_set_p (by omega), am_set_q]
        · rw [s2 _ _ (by omega), am_set_q]
      · obtain ⟨d1, d2⟩ := s3 i (by omega) i2
        rw [am_set_p (by omega), am_set_p (by omega)] at d1 d2
        exact ⟨d1, d2⟩
theorem qa_og1 (s : am_M) {src c j : Nat} (hj : j ≤ 8) (hs : src < 4 ∨ (10 ≤ src ∧ src < 10 + j)) (hc : c < 54) : p_AS_originOf s (nI src) (nI c) ∧ f_AS_originOf s (nI src) (nI c) = (if src < 10 then nI (10 * src + c) else s (68 + 7 * (src - 10)) c) := by
  have n0 : (0 : Int32) ≤ nI c := nI_le (a := 0) (Nat.zero_le _) (by omega)
  unfold p_AS_originOf f_AS_originOf
  rw [if_pos n0]
  by_cases h : src < 10
  · have c1 : ¬ (10 : Int32) ≤ nI src := ql_10 h
    rw [if_neg c1, if_pos h, qw_10, nI_add]
    exact ⟨⟨fun _ => ⟨fun q => absurd q c1, fun _ => trivial⟩, fun q => absurd n0 q⟩, rfl⟩
  · have c1 : (10 : Int32) ≤ nI src := qg_10 (by omega) (by omega)
    obtain ⟨Q1, Q2⟩ := qa_q s (show src - 10 < 8 by omega)
    obtain ⟨-, l10, -⟩ := qa_lk (show src - 10 < 8 by omega)
    obtain ⟨h0, h10, -⟩ := qa_sh (show src - 10 < 8 by omega)
    have z1 : ¬ nI c < 0 := qz (by omega)
    have z2 : nI c < (54 : Int32) := qt_54 hc
    rw [if_pos c1, if_neg h, q_10m (by omega), Q2]
    unfold p_QU_originOf f_QU_originOf
    rw [if_neg z1, if_pos z2, l10, nI_clamp (n := c) (by omega)]
    exact ⟨⟨fun _ => ⟨fun _ => ⟨Q1, ⟨fun q => absurd q z1, fun _ => ⟨fun _ => ⟨⟨by omega, h0⟩, ⟨by omega, h10⟩, vp_in_nI (by omega) (by omega), trivial⟩, fun _ => trivial⟩⟩, ⟨by omega, h0⟩, trivial⟩, fun q => absurd c1 q⟩, fun q => absurd n0 q⟩, rfl⟩
/-- how wide a source can be -/
theorem q_sw_b {A Q : am_M} (w : q_wd A) (qw : q_qw A Q) {src : Nat} (hs : src < 4 ∨ (10 ≤ src ∧ src < 10 + q_nq Q)) : q_sw A Q src ≤ 6 * (q_nq Q + 1) ∧ q_sn Q src ≤ q_nq Q + 1 ∧ (10 ≤ src → Q (67 + 7 * (src - 10)) 7 = nI (q_sw A Q src) ∧ Q (67 + 7 * (src - 10)) 9 = nI (q_sn Q src)) := by
  have h8 := qw.1.2
  unfold q_sw q_sn
  by_cases h : src < 10
  · rw [if_pos h, if_pos h]
    have := (w.2.1 src (by omega)).2.1
    exact ⟨by omega, by omega, fun q => by omega⟩
  · rw [if_neg h, if_neg h]
    obtain ⟨_, _, _, _, _, _, kk⟩ := q_q1_src w qw (show src - 10 < q_nq Q by omega)
    rcases kk with ⟨-, -, -, -, u, w9, n, a1, a2, a3, a4, a5, a6, -⟩ | ⟨-, g2, g3, -⟩
    · have e7 : q_c (Q (67 + 7 * (src - 10)) 7) = w9 := by rw [a2]; exact nI_clamp (by omega)
      have e9 : q_c (Q (67 + 7 * (src - 10)) 9) = n := by rw [a3]; exact nI_clamp (by omega)
      rw [e7, e9]
      exact ⟨by omega, by omega, fun _ => ⟨a2, a3⟩⟩
    · have e7 : q_c (Q (67 + 7 * (src - 10)) 7) = 5 := by rw [g2]; exact nI_clamp (by omega)
      have e9 : q_c (Q (67 + 7 * (src - 10)) 9) = 0 := by rw [g3]; exact nI_clamp (by omega)
      rw [e7, e9]
      exact ⟨by omega, by omega, fun _ => ⟨g2, g3⟩⟩
/-- the new question has its source's columns -/
def q_ph1 (A Q s S : am_M) (src j : Nat) : Prop := q_out s S (fun a b => (a = 67 + 7 * j ∧ (b = 0 ∨ b = 1 ∨ b = 7 ∨ b = 9)) ∨ ((a = 68 + 7 * j ∨ a = 69 + 7 * j) ∧ b < q_sw A Q src)) ∧ S (67 + 7 * j) 0 = 0 ∧ S (67 + 7 * j) 1 = nI src ∧ S (67 + 7 * j) 7 = nI (q_sw A Q src) ∧ S (67 + 7 * j) 9 = nI (q_sn Q src) ∧ ∀ c, c < q_sw A Q src → S (68 + 7 * j) c = q_so Q src c ∧ S (69 + 7 * j) c = nI (q_sp Q src c)
theorem qa_ph1 {s A Q : am_M} (cd : q_cd s A) (w : q_wd A) (qc : q_qc s Q) (qw : q_qw A Q) {src j : Nat} (hj : j = q_nq Q) (hj8 : j < 8) (hs : src < 4 ∨ (10 ≤ src ∧ src < 10 + j)) (h7 : s (67 + 7 * j) 7 = 0) (h9 : s (67 + 7 * j) 9 = 0) (x2 : Int32) : ∃ S, q_ph1 A Q s S src j ∧ f_AS_makePlain s (nI src) x2 = f_AS_makePlain_53 S (nI src) x2 (67 + 7 * j) ∧ (p_AS_makePlain_53 S (nI src) x2 (67 + 7 * j) → p_AS_makePlain s (nI src) x2) := by
  have h52 : s 52 3 = nI j := by rw [hj]; exact qc.1.trans qw.1.1
  obtain ⟨Q1, Q2⟩ := qa_q s hj8
  have psh : 67 + 7 * j < 207 ∧ am_sh (67 + 7 * j) = (0, 4, 17) := ⟨by omega, (qa_sh hj8).1⟩
  have o0 : q_out s (am_set (am_set s (67 + 7 * j) 0 0) (67 + 7 * j) 1 (nI src)) (fun a b => a = 67 + 7 * j ∧ (b = 0 ∨ b = 1)) := fun a b q => by
    rw [am_set_p (by omega), am_set_p (by omega)]
  have z0 : am_set (am_set s (67 + 7 * j) 0 0) (67 + 7 * j) 1 (nI src) (67 + 7 * j) 0 = 0 := by rw [am_set_p (by omega), am_set_q]
  have z1 : am_set (am_set s (67 + 7 * j) 0 0) (67 + 7 * j) 1 (nI src) (67 + 7 * j) 1 = nI src := am_set_q
  unfold p_AS_makePlain f_AS_makePlain
  rw [h52, Q2]
  generalize am_set (am_set s (67 + 7 * j) 0 0) (67 + 7 * j) 1 (nI src) = s0 at *
  have cd0 := q_cd_out o0 (fun a b q => by omega) cd
  obtain ⟨b1, b2, b3⟩ := q_sw_b (src := src) w qw (by omega)
  by_cases h : src < 10
  · have c1 : ¬ (10 : Int32) ≤ nI src := ql_10 h
    obtain ⟨d1, d2⟩ := qd_width cd0 (show src < 4 by omega)
    have ew : A 208 src = nI (q_w A src) := (w.2.1 src (by omega)).1
    have w6 := (w.2.1 src (by omega)).2.1
    have esw : q_sw A Q src = q_w A src := by unfold q_sw; rw [if_pos h]
    have esn : q_sn Q src = 1 := by unfold q_sn; rw [if_pos h]
    obtain ⟨a1, S, a2, a3, a4, a5, a6⟩ := qa_atc (T := src) (cnt := q_w A src) (p := 0) (w0 := 0) hj8 (by omega) (by omega) (q_w A src) 0 am_F s0 (by omega) (by rw [am_F_eq]; omega) (by rw [o0 _ _ (by omega), h7]; exact nI_0.symm) (by rw [o0 _ _ (by omega), h9]; exact nI_0.symm)
    rw [nI_0] at a1 a2
    have a2' : f_QU_addTableColumns s0 (67 + 7 * j) (nI src) (nI (q_w A src)) = S := a2
    rw [if_neg c1, d2, ew, a2']
    refine ⟨S, ⟨fun a b q => ?_, ?_, ?_, ?_, ?_, fun c hc => ?_⟩, rfl, fun hp => ⟨Q1, psh, fun q => absurd q c1, fun _ => ⟨d1, a1, hp⟩⟩⟩
    · rw [esw] at q
      rw [a3 a b (by omega), o0 a b (by omega)]
    · rw [a3 _ _ (by omega)]; exact z0
    · rw [a3 _ _ (by omega)]; exact z1
    · rw [a4, esw, Nat.zero_add]
    · rw [a5, esn]
    · rw [esw] at hc
      obtain ⟨e1, e2⟩ := a6 c (by omega) hc
      rw [Nat.zero_add] at e1 e2
      unfold q_so q_sp
      rw [if_pos h, if_pos h]
      exact ⟨e1, e2⟩
  · have c1 : (10 : Int32) ≤ nI src := qg_10 (by omega) (by omega)
    obtain ⟨g1, g2⟩ := qa_q s0 (show src - 10 < 8 by omega)
    obtain ⟨b4, b5⟩ := b3 (by omega)
    have e7 : s0 (67 + 7 * (src - 10)) 7 = nI (q_sw A Q src) := by rw [o0 _ _ (by omega), qc.2 _ (by omega) (by omega)]; exact b4
    have n54 : ¬ (54 : Int32) < nI (q_sw A Q src) := nI_nlt (a := 54) (b := q_sw A Q src) (by omega) (by omega)
    have e9 : am_set s0 (67 + 7 * j) 7 (nI (q_sw A Q src)) (67 + 7 * (src - 10)) 9 = nI (q_sn Q src) := by rw [am_set_p (by omega), o0 _ _ (by omega), qc.2 _ (by omega) (by omega)]; exact b5
    obtain ⟨a1, S, a2, a3, a4⟩ := qa_aco (g := src - 10) (W := q_sw A Q src) hj8 (by omega) (by omega) (q_sw A Q src) 0 am_F (am_set (am_set s0 (67 + 7 * j) 7 (nI (q_sw A Q src))) (67 + 7 * j) 9 (nI (q_sn Q src))) (by omega) (by rw [am_F_eq]; omega) (by rw [am_set_p (by omega), am_set_q])
    rw [nI_0] at a1 a2
    have a2' : f_QU_addColumnsOf s0 (67 + 7 * j) (67 + 7 * (src - 10)) = S := by
      unfold f_QU_addColumnsOf
      rw [e7, if_neg n54, e9]; exact a2
    have p2' : p_QU_addColumnsOf s0 (67 + 7 * j) (67 + 7 * (src - 10)) := by
      unfold p_QU_addColumnsOf
      rw [e7, if_neg n54, e9]
      exact ⟨⟨by omega, (qa_sh (show src - 10 < 8 by omega)).1⟩, psh, a1⟩
    rw [if_pos c1, q_10m (by omega), g2, a2']
    refine ⟨S, ⟨fun a b q => ?_, ?_, ?_, ?_, ?_, fun c hc => ?_⟩, rfl, fun hp => ⟨Q1, psh, fun _ => ⟨g1, p2', hp⟩, fun q => absurd c1 q⟩⟩
    · rw [a3 a b (by omega), am_set_p (by omega), am_set_p (by omega), o0 a b (by omega)]
    · rw [a3 _ _ (by omega), am_set_p (by omega), am_set_p (by omega)]; exact z0
    · rw [a3 _ _ (by omega), am_set_p (by omega), am_set_p (by omega)]; exact z1
    · rw [a3 _ _ (by omega), am_set_p (by omega), am_set_q]
    · rw [a3 _ _ (by omega), am_set_q]
    · obtain ⟨e1, e2⟩ := a4 c (by omega) hc
      rw [am_set_p (by omega), am_set_p (by omega), o0 _ _ (by omega), qc.2 _ (by omega) (by omega)] at e1 e2
      unfold q_so q_sp
      rw [if_neg h, if_neg h]
      exact ⟨e1, e2.trans ((qw.2.1 (src - 10) (by omega)).2.2 c (by omega)).1⟩
theorem qa_53a {S : am_M} {j u : Nat} (hj : j < 8) (h52 : S 52 3 = nI j) (h7 : S (67 + 7 * j) 7 = nI u) (x1 : Int32) : p_AS_makePlain_53 S x1 (-1) (67 + 7 * j) ∧ f_AS_makePlain_53 S x1 (-1) (67 + 7 * j) = (nI j, am_set (am_set S (67 + 7 * j) 8 (nI u)) 52 3 (nI (j + 1))) := by
  have n0 : ¬ (0 : Int32) ≤ -1 := by decide
  have l0 : (-1 : Int32) < 0 := by decide
  have eo : ∀ s, p_AS_originOf s x1 (-1) ∧ f_AS_originOf s x1 (-1) = -1 := fun s => by
    unfold p_AS_originOf f_AS_originOf
    rw [if_neg n0]
    exact ⟨⟨fun q => absurd q n0, fun _ => trivial⟩, rfl⟩
  have e52 : am_set S (67 + 7 * j) 8 (nI u) 52 3 = nI j := by rw [am_set_p (by omega)]; exact h52
  unfold p_AS_makePlain_53 f_AS_makePlain_53
  rw [h7, (eo _).2, if_pos l0, e52, nI_1 j]
  exact ⟨⟨⟨by omega, (qa_sh hj).1⟩, (eo _).1, fun _ => trivial, fun q => absurd l0 q⟩, rfl⟩
theorem qa_53b {S A : am_M} {j u n src c T C J : Nat} (hj : j < 8) (hs : src < 4 ∨ (10 ≤ src ∧ src < 10 + j)) (hc : c < 54) (h52 : S 52 3 = nI j) (h7 : S (67 + 7 * j) 7 = nI u) (h9 : S (67 + 7 * j) 9 = nI n) (cd : q_cd S A) (w : q_wd A) (hT : T < 4) (hC : C < 6) (ho : (if src < 10 then nI (10 * src + c) else S (68 + 7 * (src - 10)) c) = nI (10 * T + C)) (hJ : A 212 (6 * T + C) = nI J) (hJ4 : J < 4) (hu : u + q_w A J ≤ 54) : p_AS_makePlain_53 S (nI src) (nI c) (67 + 7 * j) ∧ ∃ t, f_AS_makePlain_53 S (nI src) (nI c) (67 + 7 * j) = (nI j, t) ∧ q_out S t (fun a b => (a = 67 + 7 * j ∧ (b = 2 ∨ b = 3 ∨ b = 7 ∨ b = 8 ∨ b = 9)) ∨ ((a = 68 + 7 * j ∨ a = 69 + 7 * j) ∧ u ≤ b ∧ b < u + q_w A J) ∨ (a = 52 ∧ b = 3)) ∧ t 52 3 = nI (j + 1) ∧ t (67 + 7 * j) 8 = nI u ∧ t (67 + 7 * j) 2 = nI c ∧ t (67 + 7 * j) 3 = nI J ∧ t (67 + 7 * j) 7 = nI (u + q_w A J) ∧ t (67 + 7 * j) 9 = nI (n + 1) ∧ ∀ i, i < q_w A J → t (68 + 7 * j) (u + i) = nI (10 * J + i) ∧ t (69 + 7 * j) (u + i) = nI n := by
  obtain ⟨o1, o2⟩ := qa_og1 (am_set S (67 + 7 * j) 8 (nI u)) (j := j) (by omega) hs hc
  have ho' : (if src < 10 then nI (10 * src + c) else am_set S (67 + 7 * j) 8 (nI u) (68 + 7 * (src - 10)) c) = nI (10 * T + C) := by
    by_cases h : src < 10
    · rw [if_pos h] at ho ⊢; exact ho
    · rw [if_neg h] at ho ⊢; rw [am_set_p (by omega)]; exact ho
  have eo := o2.trans ho'
  have psh : 67 + 7 * j < 207 ∧ am_sh (67 + 7 * j) = (0, 4, 17) := ⟨by omega, (qa_sh hj).1⟩
  have zo : ¬ nI (10 * T + C) < 0 := qz (by omega)
  have ecol := qd_col (s := am_set (am_set S (67 + 7 * j) 8 (nI u)) (67 + 7 * j) 2 (nI c)) hT hC
  have e3 : am_set (am_set S (67 + 7 * j) 8 (nI u)) (67 + 7 * j) 2 (nI c) (20 + (6 * T + C)) 3 = nI J := by
    rw [am_set_p (by omega), am_set_p (by omega), cd.2.2.2 (6 * T + C) 3 (by omega) (by omega) (by omega)]; exact hJ
  have oS : q_out S (am_set (am_set (am_set S (67 + 7 * j) 8 (nI u)) (67 + 7 * j) 2 (nI c)) (67 + 7 * j) 3 (nI J)) (fun a b => a = 67 + 7 * j ∧ (b = 2 ∨ b = 3 ∨ b = 8)) := fun a b q => by
    rw [am_set_p (by omega), am_set_p (by omega), am_set_p (by omega)]
  have y8 : am_set (am_set (am_set S (67 + 7 * j) 8 (nI u)) (67 + 7 * j) 2 (nI c)) (67 + 7 * j) 3 (nI J) (67 + 7 * j) 8 = nI u := by rw [am_set_p (by omega), am_set_p (by omega), am_set_q]
  have y2 : am_set (am_set (am_set S (67 + 7 * j) 8 (nI u)) (67 + 7 * j) 2 (nI c)) (67 + 7 * j) 3 (nI J) (67 + 7 * j) 2 = nI c := by rw [am_set_p (by omega), am_set_q]
  have y3 : am_set (am_set (am_set S (67 + 7 * j) 8 (nI u)) (67 + 7 * j) 2 (nI c)) (67 + 7 * j) 3 (nI J) (67 + 7 * j) 3 = nI J := am_set_q
  have cd3 := q_cd_out oS (fun a b q => by omega) cd
  obtain ⟨d1, d2⟩ := qd_width cd3 hJ4
  have ew : A 208 J = nI (q_w A J) := (w.2.1 J hJ4).1
  obtain ⟨a1, S9, a2, a3, a4, a5, a6⟩ := qa_atc (T := J) (cnt := q_w A J) (p := n) (w0 := u) hj hJ4 hu (q_w A J) 0 am_F _ (by omega) (by rw [am_F_eq]; omega) ((oS _ _ (by omega)).trans h7) ((oS _ _ (by omega)).trans h9)
  rw [nI_0] at a1 a2
  have a2' : f_QU_addTableColumns (am_set (am_set (am_set S (67 + 7 * j) 8 (nI u)) (67 + 7 * j) 2 (nI c)) (67 + 7 * j) 3 (nI J)) (67 + 7 * j) (nI J) (nI (q_w A J)) = S9 := a2
  have e52 : S9 52 3 = nI j := by rw [a3 _ _ (by omega), oS _ _ (by omega)]; exact h52
  unfold p_AS_makePlain_53 f_AS_makePlain_53
  rw [h7, eo, if_neg zo, qr_10 (by omega), qd_10 (by omega), show (10 * T + C) / 10 = T from by omega, show (10 * T + C) % 10 = C from by omega, ecol, e3, y3, d2, ew, a2', e52, nI_1 j]
  refine ⟨⟨psh, o1, fun _ => trivial, fun _ => ⟨qd_pcol _ _ _, ⟨by omega, qd_sh (by omega)⟩, d1, a1, trivial⟩⟩, _, rfl, fun a b q => ?_, am_set_q, ?_, ?_, ?_, ?_, ?_, fun i hi => ⟨?_, ?_⟩⟩
  · rw [am_set_p (by omega), a3 a b (by omega), oS a b (by omega)]
  · rw [am_set_p (by omega), a3 _ _ (by omega)]; exact y8
  · rw [am_set_p (by omega), a3 _ _ (by omega)]; exact y2
  · rw [am_set_p (by omega), a3 _ _ (by omega)]; exact y3
  · rw [am_set_p (by omega)]; exact a4
  · rw [am_set_p (by omega)]; exact a5
  · rw [am_set_p (by omega)]; exact (a6 i (by omega) hi).1
  · rw [am_set_p (by omega)]; exact (a6 i (by omega) hi).2
end

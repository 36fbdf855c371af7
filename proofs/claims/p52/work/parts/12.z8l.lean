noncomputable section
-- questions: all answers are laid, the model
def q_msh (A R Q s : am_M) (src : Nat) : Prop := s 248 (q_sl src) = nI (q_sh R Q src).length ∧ s 249 (q_sl src) = nI (q_wx A R Q src) ∧ q_mx s (q_sl src) Q src (q_wx A R Q src) (q_sh R Q src) 0 ∧ (10 ≤ src → Q (67 + 7 * (src - 10)) 0 = 2 → ∀ i, i < (q_ks (q_fI Q (src - 10) 5) [] (q_sh R Q (q_fI Q (src - 10) 1))).length → s 253 (30 * (src - 10) + i) = (q_ks (q_fI Q (src - 10) 5) [] (q_sh R Q (q_fI Q (src - 10) 1))).getD i 0)
theorem q_wx_le {A R Q : am_M} (w : q_wd A) (qw : q_qw A Q) {src : Nat} (h : src < 4 ∨ (10 ≤ src ∧ src < 10 + q_nq Q)) : q_wx A R Q src ≤ 54 := by
  by_cases hc : src < 10 ∨ Q (67 + 7 * (src - 10)) 0 ≠ 2
  · rw [q_wx_n hc]; exact (q_sw_le w qw h).1
  · have h10 : ¬ src < 10 := fun q => hc (Or.inl q)
    have k2 : Q (67 + 7 * (src - 10)) 0 = 2 := Classical.byContradiction (fun q => hc (Or.inr q))
    obtain ⟨x, x1, x2, x3, x4, x5, x6⟩ := q_q1_src w qw (j := src - 10) (by omega)
    have hlen := q_sh_len (R := R) w qw x (by omega)
    have l0 : ([] : List Int32).length = 0 := rfl
    have := @q_ks_len (q_fI Q (src - 10) 5) (q_sh R Q x) []
    unfold q_wx
    rw [if_neg h10, if_pos k2, x2]; omega
theorem q_msh_out {A R Q s t : am_M} (w : q_wd A) (qw : q_qw A Q) {src : Nat} (hs : src < 4 ∨ (10 ≤ src ∧ src < 10 + q_nq Q)) {P : Nat → Nat → Prop} (h : q_out s t P) (hP : ∀ a b, P a b → ((a = 250 ∨ a = 251) → b < 1620 * q_sl src ∨ 1620 * q_sl src + 1620 ≤ b) ∧ ((a = 248 ∨ a = 249) → b ≠ q_sl src) ∧ (a = 253 → 10 ≤ src → 30 * (src - 10) + 30 ≤ b)) (m : q_msh A R Q s src) : q_msh A R Q t src := by
  obtain ⟨m1, m2, m3, m4⟩ := m
  have hw := q_wx_le (R := R) w qw hs
  have hlen := q_sh_len (R := R) w qw src (by omega)
  refine ⟨by rw [h 248 _ (fun q => (hP _ _ q).2.1 (Or.inl rfl) rfl)]; exact m1, by rw [h 249 _ (fun q => (hP _ _ q).2.1 (Or.inr rfl) rfl)]; exact m2, q_mx_o (fun a b h1 h2 h3 => h a b (fun q => by
    have := (hP _ _ q).1 h1
    omega)) hw m3, fun h10 k2 i hi => ?_⟩
  have hys : (q_ks (q_fI Q (src - 10) 5) [] (q_sh R Q (q_fI Q (src - 10) 1))).length ≤ 30 := by
    obtain ⟨x, x1, x2, x3, x4, x5, x6⟩ := q_q1_src w qw (j := src - 10) (by omega)
    have hl2 := q_sh_len (R := R) w qw x (by omega)
    have l0 : ([] : List Int32).length = 0 := rfl
    have := @q_ks_len (q_fI Q (src - 10) 5) (q_sh R Q x) []
    rw [x2]; omega
  rw [h 253 _ (fun q => by have := (hP _ _ q).2.2 rfl h10; omega)]; exact m4 h10 k2 i hi
abbrev q_LK (Q : am_M) (j a b : Nat) : Prop := ((a = 250 ∨ a = 251) ∧ 1620 * j ≤ b ∧ b < 1620 * j + 1620) ∨ a = 254 ∨ (a = 207 ∧ b = 59) ∨ (a = 248 ∧ b = j) ∨ (a = 249 ∧ b = j ∧ Q (67 + 7 * j) 0 = 2) ∨ (a = 253 ∧ 30 * j ≤ b)
theorem qm_kind {s A R Q : am_M} (md : q_md s A) (w : q_wd A) (wr : q_wr A R) (mb : q_mb s R) (qm : q_qm s Q) (qw : q_qw A Q) {j : Nat} (hj : j < q_nq Q) (h : q_msh A R Q s (q_fI Q j 1)) : (Q (67 + 7 * j) 0 = 0 → p_MO_laysPlain s (nI j) ∧ ∃ t, f_MO_laysPlain s (nI j) = t ∧ q_out s t (q_LK Q j) ∧ q_msh A R Q t (10 + j)) ∧ (Q (67 + 7 * j) 0 = 1 → p_MO_laysGroups s (nI j) ∧ ∃ t, f_MO_laysGroups s (nI j) = t ∧ q_out s t (q_LK Q j) ∧ q_msh A R Q t (10 + j)) ∧ (Q (67 + 7 * j) 0 = 2 → p_MO_laysCross s (nI j) ∧ ∃ t, f_MO_laysCross s (nI j) = t ∧ q_out s t (q_LK Q j) ∧ q_msh A R Q t (10 + j)) ∧ (Q (67 + 7 * j) 0 = 0 ∨ Q (67 + 7 * j) 0 = 1 ∨ Q (67 + 7 * j) 0 = 2) := by
  have h8 := qw.1.2
  have h4 := w.1.2
  obtain ⟨x, x1, x2, x3, x4, x5, x6⟩ := q_q1_src w qw hj
  rw [x2] at h
  have hsrc : x < 4 ∨ (10 ≤ x ∧ x < 10 + q_nq Q ∧ Q (67 + 7 * (x - 10)) 0 ≠ 2) := by
    rcases x3 with g | ⟨g1, g2, g3⟩
    · exact Or.inl (by omega)
    · exact Or.inr ⟨g1, by omega, g3⟩
  have hwx : q_wx A R Q x = q_sw A Q x := q_wx_n (by rcases hsrc with g | ⟨-, -, g⟩; exact Or.inl (by omega); exact Or.inr g)
  obtain ⟨hsw, hsn⟩ := q_sw_le w qw (show x < 4 ∨ (10 ≤ x ∧ x < 10 + q_nq Q) by rcases hsrc with g | ⟨g1, g2, -⟩; exact Or.inl g; exact Or.inr ⟨g1, g2⟩)
  have hsi := q_si_sh (R := R) w wr qw x hsrc
  have hlen := q_sh_len (R := R) w qw x (by omega)
  obtain ⟨f1, f2, f3, -⟩ := h
  rw [hwx] at f2 f3
  have esh := q_sh_q (R := R) w qw hj
  rw [x2] at esh
  have e10 : 10 + j - 10 = j := by omega
  have esl : q_sl (10 + j) = j := by unfold q_sl; rw [if_neg (by omega), e10]
  have hk2 : ∀ k : Int32, (k = 0 ∨ k = 1) → k ≠ 2 := fun k q => by rcases q with q | q <;> rw [q] <;> decide
  have e49 : Q (67 + 7 * j) 0 ≠ 2 → s 249 j = Q (67 + 7 * j) 7 := (qm.2 j hj).2.2.2.2.2.2.2.2.1
  rcases x6 with ⟨k0, qp⟩ | qg
  · refine ⟨fun _ => ?_, fun q => absurd (k0.symm.trans q) (by decide), fun q => absurd (k0.symm.trans q) (by decide), Or.inl k0⟩
    have hWI : Q (67 + 7 * j) 7 = nI (q_c (Q (67 + 7 * j) 7)) := by
      obtain ⟨-, -, -, u, W, n, -, a2, -, -, a5, -⟩ := qp
      rw [a2, q_cI (n := W) (by omega)]
    obtain ⟨i1, t, i2, i3, i4, i5⟩ := qm_plain md w wr mb qm qw hj k0 x1 x3 x4 qp hlen f1 hsi f3
    have ew : q_wx A R Q (10 + j) = q_c (Q (67 + 7 * j) 7) := by
      unfold q_wx; rw [if_neg (by omega), e10, if_neg (hk2 _ (Or.inl k0))]
    have es : q_sh R Q (10 + j) = q_shP R Q j (q_sh R Q x) := by rw [esh]; unfold q_shK; rw [if_pos k0]
    refine ⟨i1, t, i2, q_out_w i3 (fun a b q => by omega), ?_⟩
    unfold q_msh
    rw [ew, es, esl, e10]
    exact ⟨i4, by rw [i3 _ _ (by omega), e49 (hk2 _ (Or.inl k0))]; exact hWI, i5, fun _ q => absurd (k0.symm.trans q) (by decide)⟩
  · obtain ⟨g1, g2, g3, g4, g5, key, val, g6, g7, g8, g9, g10⟩ := qg
    have ekey : q_fI Q j 4 = key := by unfold q_fI; rw [g6]; exact q_cI (by omega)
    have eval : q_fI Q j 6 = val := by unfold q_fI; rw [g7]; exact q_cI (by omega)
    rcases g10 with ⟨k1, -⟩ | ⟨k2, sec, g11, g12⟩
    · refine ⟨fun q => absurd (k1.symm.trans q) (by decide), fun _ => ?_, fun q => absurd (k1.symm.trans q) (by decide), Or.inr (Or.inl k1)⟩
      obtain ⟨i1, t, i2, i3, i4, i5⟩ := qm_groups qm h8 hj k1 x1 x4 x5 g6 g7 g5 g8 g9 hsw hlen (fun a ha => (hsi a ha val g9).1) f1 (q_mx_ml f3)
      have ew : q_wx A R Q (10 + j) = 5 := by
        unfold q_wx q_fI; rw [if_neg (by omega), e10, if_neg (hk2 _ (Or.inr k1)), g2, q_cI (n := 5) (by omega)]
      have es : q_sh R Q (10 + j) = q_shG key val (q_sh R Q x) := by rw [esh]; unfold q_shK; rw [if_neg (by rw [k1]; decide), if_pos k1, ekey, eval]
      refine ⟨i1, t, i2, q_out_w i3 (fun a b q => by omega), ?_⟩
      unfold q_msh
      rw [ew, es, esl, e10]
      exact ⟨i4, by rw [i3 _ _ (by omega), e49 (hk2 _ (Or.inr k1))]; exact g2, i5, fun _ q => absurd (k1.symm.trans q) (by decide)⟩
    · refine ⟨fun q => absurd (k2.symm.trans q) (by decide), fun q => absurd (k2.symm.trans q) (by decide), fun _ => ?_, Or.inr (Or.inr k2)⟩
      obtain ⟨i1, t, i2, i3, i4, i5, i6, i7⟩ := qm_cross qm h8 hj k2 x1 x4 x5 g6 g11 g7 g5 g8 g12 g9 hsw hlen f1 (q_mx_ml f3)
      have esec : q_fI Q j 5 = sec := by unfold q_fI; rw [g11]; exact q_cI (by omega)
      have ew : q_wx A R Q (10 + j) = (q_ks sec [] (q_sh R Q x)).length + 1 := by
        unfold q_wx; rw [if_neg (by omega), e10, if_pos k2, esec, x2]
      have es : q_sh R Q (10 + j) = q_shC key sec val (q_sh R Q x) := by rw [esh]; unfold q_shK; rw [if_neg (by rw [k2]; decide), if_neg (by rw [k2]; decide), ekey, eval, esec]
      refine ⟨i1, t, i2, q_out_w i3 (fun a b q => by
        rcases q with q | q | q | q | q | q
        · exact Or.inl ⟨Or.inl q.1, q.2⟩
        · exact Or.inr (Or.inl q)
        · exact Or.inr (Or.inr (Or.inl q))
        · exact Or.inr (Or.inr (Or.inr (Or.inl q)))
        · exact Or.inr (Or.inr (Or.inr (Or.inr (Or.inl ⟨q.1, q.2, k2⟩))))
        · exact Or.inr (Or.inr (Or.inr (Or.inr (Or.inr q))))), ?_⟩
      unfold q_msh
      rw [ew, es, esl, e10, esec, x2]
      exact ⟨i4, i5, i6, fun _ _ => i7⟩
def q_LD (Q : am_M) (a b : Nat) : Prop := a = 250 ∨ a = 251 ∨ a = 254 ∨ (a = 207 ∧ b = 59) ∨ a = 248 ∨ (a = 249 ∧ (8 ≤ b ∨ Q (67 + 7 * b) 0 = 2)) ∨ a = 253
theorem q_LD_w {Q : am_M} {a b : Nat} (h : q_LD Q a b) : (a = 207 ∧ b = 59) ∨ (248 ≤ a ∧ a ≤ 254 ∧ a ≠ 252) := by
  unfold q_LD at h; omega
theorem q_LD_qm {s t Q : am_M} (h8 : q_nq Q ≤ 8) (h : q_out s t (q_LD Q)) (m : q_qm s Q) : q_qm t Q := q_qm_out h8 h (fun a b q => by
  refine ⟨?_, ?_, ?_, ?_⟩
  · have := q_LD_w q; omega
  · have := q_LD_w q; omega
  · intro h1 h2
    unfold q_LD at q
    rcases q with q | q | q | q | q | q | q
    · omega
    · omega
    · omega
    · omega
    · omega
    · exact q.2.resolve_left (by omega)
    · omega
  · have := q_LD_w q; omega) m
theorem qm_l23 {A R Q : am_M} (w : q_wd A) (wr : q_wr A R) (qw : q_qw A Q) {x1 : Int32} {L : Nat} (hL : L ≤ q_nq Q) (hx : ∀ i, i ≤ 8 → (x1 < nI i ↔ L ≤ i)) : ∀ (d i n : Nat) (s : am_M), i + d = L → d < n → q_md s A → q_mb s R → q_qm s Q → (∀ src, (src < q_nt A ∨ (10 ≤ src ∧ src < 10 + i)) → q_msh A R Q s src) → p_MO_lays_23 n s x1 (nI i) ∧ ∃ t, f_MO_lays_23 n s x1 (nI i) = t ∧ q_out s t (q_LD Q) ∧ ∀ src, (src < q_nt A ∨ (10 ≤ src ∧ src < 10 + L)) → q_msh A R Q t src := by
  have h8 := qw.1.2
  have h4 := w.1.2
  intro d
  induction d with
  | zero =>
    intro i n s hi hn md mb qm hm
    obtain ⟨n, rfl⟩ : ∃ k, n = k + 1 := ⟨n - 1, by omega⟩
    obtain rfl : i = L := by omega
    have g : x1 < nI i := (hx i (by omega)).mpr (Nat.le_refl _)
    unfold p_MO_lays_23 f_MO_lays_23
    rw [if_pos g]
    exact ⟨⟨fun _ => trivial, fun q => absurd g q⟩, s, rfl, fun _ _ _ => rfl, hm⟩
  | succ d ih =>
    intro i n s hi hn md mb qm hm
    obtain ⟨n, rfl⟩ : ∃ k, n = k + 1 := ⟨n - 1, by omega⟩
    have g : ¬ x1 < nI i := fun q => by have := (hx i (by omega)).mp q; omega
    have e1 : nI i + (1 : Int32) = nI (i + 1) := nI_add i 1
    have hj : i < q_nq Q := by omega
    have vi : vp_in (nI i) 8 := vp_in_nI (by omega) (by omega)
    have e0 : s 236 i = Q (67 + 7 * i) 0 := (qm.2 i hj).1
    obtain ⟨x, x1', x2, x3, x4, x5, x6⟩ := q_q1_src w qw hj
    obtain ⟨K0, K1, K2, K3⟩ := qm_kind md w wr mb qm qw hj (by
      rw [x2]
      exact hm x (by
        rcases x3 with g | ⟨g1, g2, -⟩
        · exact Or.inl g
        · exact Or.inr ⟨g1, by omega⟩))
    have step : ∀ T, q_out s T (q_LK Q i) → q_msh A R Q T (10 + i) → p_MO_lays_23 n T x1 (nI (i + 1)) ∧ ∃ t, f_MO_lays_23 n T x1 (nI (i + 1)) = t ∧ q_out s t (q_LD Q) ∧ ∀ src, (src < q_nt A ∨ (10 ≤ src ∧ src < 10 + L)) → q_msh A R Q t src := fun T oT hT => by
      have oT' : q_out s T (q_LD Q) := q_out_w oT (fun a b q => by
        unfold q_LD
        rcases q with q | q | q | q | q | q
        · rcases q.1 with q | q
          · exact Or.inl q
          · exact Or.inr (Or.inl q)
        · exact Or.inr (Or.inr (Or.inl q))
        · exact Or.inr (Or.inr (Or.inr (Or.inl q)))
        · exact Or.inr (Or.inr (Or.inr (Or.inr (Or.inl q.1))))
        · exact Or.inr (Or.inr (Or.inr (Or.inr (Or.inr (Or.inl ⟨q.1, Or.inr (by rw [q.2.1]; exact q.2.2)⟩)))))
        · exact Or.inr (Or.inr (Or.inr (Or.inr (Or.inr (Or.inr q.1))))))
      obtain ⟨i1, t, i2, i3, i4⟩ := ih (i + 1) n T (by omega) (by omega) (q_md_out oT' (fun a b q => by have := q_LD_w q; omega) md) (q_mb_out oT' (fun a b q => by have := q_LD_w q; omega) mb) (q_LD_qm h8 oT' qm) (fun src hs => by
        by_cases hsi : src = 10 + i
        · rw [hsi]; exact hT
        · have hs' : src < q_nt A ∨ (10 ≤ src ∧ src < 10 + i) := by omega
          refine q_msh_out w qw (by omega) oT (fun a b q => ?_) (hm src hs')
          have hsl : q_sl src ≠ i ∧ (10 ≤ src → src - 10 < i) := by
            unfold q_sl
            by_cases h10 : src < 10
            · rw [if_pos h10]; omega
            · rw [if_neg h10]; omega
          refine ⟨fun h1 => ?_, fun h1 => ?_, fun h1 h2 => ?_⟩
          · have hb : 1620 * i ≤ b ∧ b < 1620 * i + 1620 := by omega
            rcases Nat.lt_or_gt_of_ne hsl.1 with h | h <;> omega
          · omega
          · have := hsl.2 h2
            omega)
      exact ⟨i1, t, i2, q_out_t oT' i3, i4⟩
    unfold p_MO_lays_23 f_MO_lays_23 p_MO_lays_68 f_MO_lays_68
    rw [if_neg g, nI_clamp (n := i) (by omega), e0, e1]
    rcases K3 with k0 | k1 | k2
    · obtain ⟨c1, T, c2, c3, c4⟩ := K0 k0
      obtain ⟨s1, s2⟩ := step T c3 c4
      rw [k0, if_pos rfl, c2]
      exact ⟨⟨fun q => absurd q g, fun _ => ⟨vi, fun _ => ⟨c1, s1⟩, fun q => absurd rfl q⟩⟩, s2⟩
    · obtain ⟨c1, T, c2, c3, c4⟩ := K1 k1
      obtain ⟨s1, s2⟩ := step T c3 c4
      rw [k1, if_neg i10, if_pos rfl, c2]
      exact ⟨⟨fun q => absurd q g, fun _ => ⟨vi, fun q => absurd q i10, fun _ => ⟨vi, fun _ => ⟨c1, s1⟩, fun q => absurd rfl q⟩⟩⟩, s2⟩
    · obtain ⟨c1, T, c2, c3, c4⟩ := K2 k2
      obtain ⟨s1, s2⟩ := step T c3 c4
      have n20 : ¬ (2 : Int32) = 0 := by decide
      have n21 : ¬ (2 : Int32) = 1 := by decide
      rw [k2, if_neg n20, if_neg n21, c2]
      exact ⟨⟨fun q => absurd q g, fun _ => ⟨vi, fun q => absurd q n20, fun _ => ⟨vi, fun q => absurd q n21, fun _ => ⟨c1, s1⟩⟩⟩⟩, s2⟩
theorem qm_l2 {A R Q : am_M} (w : q_wd A) (wr : q_wr A R) (qw : q_qw A Q) {x1 : Int32} {L : Nat} (hL : L ≤ q_nq Q) (hx : ∀ i, i ≤ 8 → (x1 < nI i ↔ L ≤ i)) : ∀ (d T n : Nat) (s : am_M), T + d = q_nt A → d < n → q_md s A → q_mb s R → q_qm s Q → (∀ src, src < T → q_msh A R Q s src) → p_MO_lays_2 n s x1 (nI T) ∧ ∃ t, f_MO_lays_2 n s x1 (nI T) = t ∧ q_out s t (q_LD Q) ∧ ∀ src, (src < q_nt A ∨ (10 ≤ src ∧ src < 10 + L)) → q_msh A R Q t src := by
  have h8 := qw.1.2
  have h4 := w.1.2
  intro d
  induction d with
  | zero =>
    intro T n s hT hn md mb qm hm
    obtain ⟨n, rfl⟩ : ∃ k, n = k + 1 := ⟨n - 1, by omega⟩
    have g : s 207 1 ≤ nI T := by rw [md.1, w.1.1]; exact qn_le (by omega) (by omega)
    obtain ⟨i1, t, i2, i3, i4⟩ := qm_l23 w wr qw hL hx L 0 am_F s (Nat.zero_add _) (by rw [am_F_eq]; omega) md mb qm (fun src hs => hm src (by omega))
    rw [nI_0] at i1 i2
    unfold p_MO_lays_2 f_MO_lays_2 p_MO_lays_21 f_MO_lays_21
    rw [if_pos g]
    exact ⟨⟨fun _ => i1, fun q => absurd g q⟩, t, i2, i3, i4⟩
  | succ d ih =>
    intro T n s hT hn md mb qm hm
    obtain ⟨n, rfl⟩ : ∃ k, n = k + 1 := ⟨n - 1, by omega⟩
    have g : ¬ s 207 1 ≤ nI T := by rw [md.1, w.1.1]; exact nI_ge (by omega) (by omega)
    have e1 : nI T + (1 : Int32) = nI (T + 1) := nI_add T 1
    obtain ⟨j1, X, j2, j3, j4, j5, j6⟩ := qm_table Q md w wr mb (show T < 4 by omega)
    have oX : q_out s X (q_LD Q) := q_out_w j3 (fun a b q => by
      unfold q_LD
      rcases q with ⟨q, -⟩ | ⟨q, q2⟩
      · rcases q with q | q
        · exact Or.inl q
        · exact Or.inr (Or.inl q)
      · rcases q with q | q
        · exact Or.inr (Or.inr (Or.inr (Or.inr (Or.inl q))))
        · exact Or.inr (Or.inr (Or.inr (Or.inr (Or.inr (Or.inl ⟨q, Or.inl (by omega)⟩))))))
    obtain ⟨i1, t, i2, i3, i4⟩ := ih (T + 1) n X (by omega) (by omega) (q_md_out oX (fun a b q => by have := q_LD_w q; omega) md) (q_mb_out oX (fun a b q => by have := q_LD_w q; omega) mb) (q_LD_qm h8 oX qm) (fun src hs => by
      by_cases hsT : src = T
      · rw [hsT]
        have esl : q_sl T = 8 + T := by unfold q_sl; rw [if_pos (by omega)]
        have ew : q_wx A R Q T = q_w A T := by unfold q_wx; rw [if_pos (by omega)]
        unfold q_msh
        rw [esl, ew, q_sh_t (by omega)]
        exact ⟨j4, j5, j6, fun q => by omega⟩
      · have esl : q_sl src = 8 + src := by unfold q_sl; rw [if_pos (by omega)]
        refine q_msh_out w qw (Or.inl (by omega)) j3 (fun a b q => ?_) (hm src (by omega))
        rw [esl]
        refine ⟨fun h1 => by omega, fun h1 => by omega, fun h1 h2 => by omega⟩)
    unfold p_MO_lays_2 f_MO_lays_2
    rw [if_neg g, j2, e1]
    exact ⟨⟨fun q => absurd q g, fun _ => ⟨j1, i1⟩⟩, t, i2, q_out_t oX i3, i4⟩
/-- the model has laid the answers of all sources, up to L questions -/
theorem qm_lays {s A R Q : am_M} (md : q_md s A) (w : q_wd A) (wr : q_wr A R) (mb : q_mb s R) (qm : q_qm s Q) (qw : q_qw A Q) {x1 : Int32} {L : Nat} (hL : L ≤ q_nq Q) (hx : ∀ i, i ≤ 8 → (x1 < nI i ↔ L ≤ i)) : p_MO_lays s x1 ∧ ∃ t, f_MO_lays s x1 = t ∧ q_out s t (q_LD Q) ∧ ∀ src, (src < q_nt A ∨ (10 ≤ src ∧ src < 10 + L)) → q_msh A R Q t src := by
  have h := qm_l2 w wr qw hL hx (q_nt A) 0 am_F s (Nat.zero_add _) (by have := w.1.2; rw [am_F_eq]; omega) md mb qm (fun src hs => absurd hs (Nat.not_lt_zero _))
  rw [nI_0] at h
  exact h
theorem qm_lays_q {s A R Q : am_M} (md : q_md s A) (w : q_wd A) (wr : q_wr A R) (mb : q_mb s R) (qm : q_qm s Q) (qw : q_qw A Q) {j : Nat} (hj : j < q_nq Q) : p_MO_lays s (nI j) ∧ ∃ t, f_MO_lays s (nI j) = t ∧ q_out s t (q_LD Q) ∧ q_msh A R Q t (10 + j) := by
  have h8 := qw.1.2
  obtain ⟨i1, t, i2, i3, i4⟩ := qm_lays md w wr mb qm qw (x1 := nI j) (L := j + 1) (by omega) (fun i hi => by rw [nI_ltI (by omega) (by omega)]; omega)
  exact ⟨i1, t, i2, i3, i4 _ (Or.inr ⟨by omega, by omega⟩)⟩
theorem qm_lays_a {s A R Q : am_M} (md : q_md s A) (w : q_wd A) (wr : q_wr A R) (mb : q_mb s R) (qm : q_qm s Q) (qw : q_qw A Q) : p_MO_lays s (s 207 39 - 1) ∧ ∃ t, f_MO_lays s (s 207 39 - 1) = t ∧ q_out s t (q_LD Q) ∧ ∀ src, (src < q_nt A ∨ (10 ≤ src ∧ src < 10 + q_nq Q)) → q_msh A R Q t src := by
  have h8 := qw.1.2
  have e : s 207 39 = nI (q_nq Q) := qm.1.trans qw.1.1
  rw [e]
  refine qm_lays md w wr mb qm qw (Nat.le_refl _) (fun i hi => ?_)
  have t1 := qb_n1 (n := q_nq Q) (by omega)
  have t2 : (nI i).toInt = i := nI_toInt (by omega)
  rw [Int32.lt_iff_toInt_lt, t1, t2]; omega
end

noncomputable section
-- questions: the class finds answers, question over question
def q_wx (A R Q : am_M) (src : Nat) : Nat := if src < 10 then q_w A src else if Q (67 + 7 * (src - 10)) 0 = 2 then (q_ks (q_fI Q (src - 10) 5) [] (q_sh R Q (q_fI Q (src - 10) 1))).length + 1 else q_fI Q (src - 10) 7
theorem q_wx_n {A R Q : am_M} {src : Nat} (h : src < 10 ∨ Q (67 + 7 * (src - 10)) 0 ≠ 2) : q_wx A R Q src = q_sw A Q src := by
  unfold q_wx q_sw
  by_cases h1 : src < 10
  · rw [if_pos h1, if_pos h1]
  · rw [if_neg h1, if_neg h1, if_neg (h.resolve_left h1)]
theorem q_sw_le {A Q : am_M} (w : q_wd A) (qw : q_qw A Q) {src : Nat} (h : src < 4 ∨ (10 ≤ src ∧ src < 10 + q_nq Q)) : q_sw A Q src ≤ 54 ∧ q_sn Q src ≤ 9 := by
  have h8 := qw.1.2
  unfold q_sw q_sn
  by_cases hx : src < 10
  · rw [if_pos hx, if_pos hx]; have := (w.2.1 src (by omega)).2.1; omega
  · rw [if_neg hx, if_neg hx]
    obtain ⟨y, -, -, -, -, -, y6⟩ := q_q1_src w qw (j := src - 10) (by omega)
    rcases y6 with ⟨-, -, -, -, u, W, n, -, a2, a3, -, a5, a6, -⟩ | ⟨-, a2, a3, -⟩
    · rw [a2, a3, q_cI (n := W) (by omega), q_cI (n := n) (by omega)]; omega
    · rw [a2, a3, q_cI (n := 5) (by omega), q_cI (n := 0) (by omega)]; omega
/-- the class's sheet is that of a source -/
def q_csh (A R Q : am_M) (s : am_M) (src : Nat) : Prop := s 52 4 = nI (q_sh R Q src).length ∧ s 52 5 = nI (q_wx A R Q src) ∧ q_cs s (q_sh R Q src) (q_wx A R Q src) (q_sn Q src) 0 ∧ (10 ≤ src → Q (67 + 7 * (src - 10)) 0 = 2 → q_kl s 64 (q_ks (q_fI Q (src - 10) 5) [] (q_sh R Q (q_fI Q (src - 10) 1))))
abbrev q_FD (a b : Nat) : Prop := (61 ≤ a ∧ a ≤ 65) ∨ (a = 52 ∧ (b = 4 ∨ b = 5))
theorem qa_kind {s A R Q : am_M} (w : q_wd A) (wr : q_wr A R) (qw : q_qw A Q) (qc : q_qc s Q) (cb : q_cb s 9 10 11 R) {j : Nat} (hj : j < q_nq Q) (h : q_csh A R Q s (q_fI Q j 1)) : (Q (67 + 7 * j) 0 = 0 → p_AS_findPlain s (67 + 7 * j) ∧ ∃ t, f_AS_findPlain s (67 + 7 * j) = t ∧ q_out s t q_FD ∧ q_csh A R Q t (10 + j)) ∧ (Q (67 + 7 * j) 0 = 1 → p_AS_findGroups s (67 + 7 * j) ∧ ∃ t, f_AS_findGroups s (67 + 7 * j) = t ∧ q_out s t q_FD ∧ q_csh A R Q t (10 + j)) ∧ (Q (67 + 7 * j) 0 = 2 → p_AS_findCross s (67 + 7 * j) ∧ ∃ t, f_AS_findCross s (67 + 7 * j) = t ∧ q_out s t q_FD ∧ q_csh A R Q t (10 + j)) ∧ (Q (67 + 7 * j) 0 = 0 ∨ Q (67 + 7 * j) 0 = 1 ∨ Q (67 + 7 * j) 0 = 2) := by
  have h8 := qw.1.2
  have h4 := w.1.2
  obtain ⟨x, x1, x2, x3, x4, x5, x6⟩ := q_q1_src w qw hj
  rw [x2] at h
  have hsrc : x < 4 ∨ (10 ≤ x ∧ x < 10 + q_nq Q ∧ Q (67 + 7 * (x - 10)) 0 ≠ 2) := by
    rcases x3 with g | ⟨g1, g2, g3⟩
    · exact Or.inl (by omega)
    · exact Or.inr ⟨g1, by omega, g3⟩
  have hwx : q_wx A R Q x = q_sw A Q x := q_wx_n (by rcases hsrc with g | ⟨-, -, g⟩; exact Or.inl (by omega); exact Or.inr g)
  obtain ⟨hsw, hsn⟩ := q_sw_le w qw (show x < 4 ∨ (10 ≤ x ∧ x < 10 + q_nq Q) by rcases hsrc with g | ⟨g1, g2, -⟩; exact Or.inl g; exact Or.inr ⟨g1, g2⟩)
  have hsi := q_si_sh (R := R) w wr qw x hsrc
  have hlen := q_sh_len (R := R) w qw x (by omega)
  obtain ⟨f1, f2, f3, -⟩ := h
  rw [hwx] at f2 f3
  have esh := q_sh_q (R := R) w qw hj
  rw [x2] at esh
  have e10 : 10 + j - 10 = j := by omega
  have esn : q_sn Q (10 + j) = q_c (Q (67 + 7 * j) 9) := by unfold q_sn; rw [if_neg (by omega), e10]
  have hk2 : ∀ k : Int32, (k = 0 ∨ k = 1) → k ≠ 2 := fun k q => by rcases q with q | q <;> rw [q] <;> decide
  rcases x6 with ⟨k0, qp⟩ | qg
  · refine ⟨fun _ => ?_, fun q => absurd (k0.symm.trans q) (by decide), fun q => absurd (k0.symm.trans q) (by decide), Or.inl k0⟩
    obtain ⟨i1, t, i2, i3, i4, i5, i6⟩ := qa_plain qc w wr cb (by omega) qp hsw hsn hlen f1 hsi f3
    have ew : q_wx A R Q (10 + j) = q_c (Q (67 + 7 * j) 7) := by
      unfold q_wx; rw [if_neg (by omega), e10, if_neg (hk2 _ (Or.inl k0))]
    have es : q_sh R Q (10 + j) = q_shP R Q j (q_sh R Q x) := by rw [esh]; unfold q_shK; rw [if_pos k0]
    refine ⟨i1, t, i2, q_out_w i3 (fun a b q => by omega), ?_⟩
    unfold q_csh
    rw [ew, es, esn, e10]
    exact ⟨i4, i5, i6, fun _ q => absurd (k0.symm.trans q) (by decide)⟩
  · obtain ⟨g1, g2, g3, g4, g5, key, val, g6, g7, g8, g9, g10⟩ := qg
    have ekey : q_fI Q j 4 = key := by unfold q_fI; rw [g6]; exact q_cI (by omega)
    have eval : q_fI Q j 6 = val := by unfold q_fI; rw [g7]; exact q_cI (by omega)
    rcases g10 with ⟨k1, -⟩ | ⟨k2, sec, g11, g12⟩
    · refine ⟨fun q => absurd (k1.symm.trans q) (by decide), fun _ => ?_, fun q => absurd (k1.symm.trans q) (by decide), Or.inr (Or.inl k1)⟩
      obtain ⟨i1, t, i2, i3, i4, i5, i6⟩ := qa_groups qc (show j < 8 by omega) g6 g7 g8 g9 hsw hlen f1 f3
      have ew : q_wx A R Q (10 + j) = 5 := by
        unfold q_wx q_fI; rw [if_neg (by omega), e10, if_neg (hk2 _ (Or.inr k1)), g2, q_cI (n := 5) (by omega)]
      have es : q_sh R Q (10 + j) = q_shG key val (q_sh R Q x) := by rw [esh]; unfold q_shK; rw [if_neg (by rw [k1]; decide), if_pos k1, ekey, eval]
      have en0 : q_c (Q (67 + 7 * j) 9) = 0 := by rw [g3]; exact q_cI (by omega)
      refine ⟨i1, t, i2, q_out_w i3 (fun a b q => by omega), ?_⟩
      unfold q_csh
      rw [ew, es, esn, en0, e10]
      exact ⟨i4, i5, i6, fun _ q => absurd (k1.symm.trans q) (by decide)⟩
    · refine ⟨fun q => absurd (k2.symm.trans q) (by decide), fun q => absurd (k2.symm.trans q) (by decide), fun _ => ?_, Or.inr (Or.inr k2)⟩
      obtain ⟨i1, t, i2, i3, i4, i5, i6, i7⟩ := qa_cross qc (show j < 8 by omega) g6 g11 g7 g8 g12 g9 hsw hlen f1 f3 (fun a ha => (hsi a ha val g9).1)
      have esec : q_fI Q j 5 = sec := by unfold q_fI; rw [g11]; exact q_cI (by omega)
      have ew : q_wx A R Q (10 + j) = (q_ks sec [] (q_sh R Q x)).length + 1 := by
        unfold q_wx; rw [if_neg (by omega), e10, if_pos k2, esec, x2]
      have es : q_sh R Q (10 + j) = q_shC key sec val (q_sh R Q x) := by rw [esh]; unfold q_shK; rw [if_neg (by rw [k2]; decide), if_neg (by rw [k2]; decide), ekey, eval, esec]
      have en0 : q_c (Q (67 + 7 * j) 9) = 0 := by rw [g3]; exact q_cI (by omega)
      refine ⟨i1, t, i2, q_out_w i3 (fun a b q => by omega), ?_⟩
      unfold q_csh
      rw [ew, es, esn, en0, e10, esec, x2]
      exact ⟨i4, i5, i6, fun _ _ => i7⟩
theorem qa_f7 {A R Q : am_M} (w : q_wd A) (wr : q_wr A R) (qw : q_qw A Q) (x1 : Int32) : ∀ (src len n : Nat) (s : am_M), (src < 4 ∨ (10 ≤ src ∧ src < 10 + q_nq Q)) → len + (src - 9) ≤ 8 → 10 < n + len → q_cd s A → q_cb s 9 10 11 R → q_qc s Q → ∃ m T y2 y3, am_F ≤ m + (src - 9) ∧ f_AS_find_7 n s x1 (nI len) (nI src) = f_AS_find_62 m T x1 y2 y3 (nI len - 1) ∧ (p_AS_find_62 m T x1 y2 y3 (nI len - 1) → p_AS_find_7 n s x1 (nI len) (nI src)) ∧ q_out s T (fun a b => q_FD a b ∨ (a = 66 ∧ len ≤ b)) ∧ q_csh A R Q T src := by
  have h8 := qw.1.2
  have h4 := w.1.2
  intro src
  induction src using Nat.strongRecOn with
  | ind src ih =>
    intro len n s hsrc hlen hn cd cb qc
    obtain ⟨n, rfl⟩ : ∃ k, n = k + 1 := ⟨n - 1, by omega⟩
    by_cases h10 : src < 10
    · have ht : src < 4 := by omega
      obtain ⟨i1, t, i2, i3, i4, i5, i6⟩ := qa_findRows cd w cb ht
      have lt : nI src < (10 : Int32) := qt_10 (by omega)
      have ew : q_wx A R Q src = q_w A src := by unfold q_wx; rw [if_pos h10]
      have en : q_sn Q src = 1 := by unfold q_sn; rw [if_pos h10]
      have fin : q_csh A R Q t src := by
        unfold q_csh
        rw [ew, en, q_sh_t h10]
        exact ⟨i4, i5, i6, fun q => by omega⟩
      unfold f_AS_find_7 p_AS_find_7 f_AS_find_52 p_AS_find_52
      rw [if_pos lt, i2]
      refine ⟨am_F, t, nI len, nI src, by omega, ?_, fun q => ⟨fun _ => ⟨i1, q⟩, fun _ => ⟨fun _ => ⟨i1, q⟩, fun q2 => absurd lt q2⟩⟩, fun a b q => i3 a b (by omega), fin⟩
      by_cases hl8 : (8 : Int32) ≤ nI len
      · rw [if_pos hl8]
      · rw [if_neg hl8]
    · obtain ⟨j, rfl⟩ : ∃ j, src = 10 + j := ⟨src - 10, by omega⟩
      have hj : j < q_nq Q := by omega
      have l8 : ¬ (8 : Int32) ≤ nI len := ql_8 (by omega)
      have l10 : ¬ nI (10 + j) < (10 : Int32) := qu_10 (by omega) (by omega)
      have ej : nI (10 + j) - (10 : Int32) = nI j := by
        have := q_subI j 10
        rw [Nat.add_comm]; exact this
      have e1 : nI len + (1 : Int32) = nI (len + 1) := nI_add len 1
      have vl : vp_in (nI len) 8 := vp_in_nI (by omega) (by omega)
      obtain ⟨x, x1', x2, x3, x4, x5, x6⟩ := q_q1_src w qw hj
      have oS : q_out s (am_set s 66 len (nI j)) (fun a b => a = 66 ∧ b = len) := fun a b q => am_set_p (by omega)
      have hS : (am_set s 66 len (nI j)) 66 len = nI j := am_set_q
      have psh : 67 + 7 * j < 207 ∧ am_sh (67 + 7 * j) = (0, 4, 17) := ⟨by omega, (qa_sh (by omega)).1⟩
      have qcS := q_qc_out oS (fun a b q => by omega) qc
      have hsrc1 : (am_set s 66 len (nI j)) (67 + 7 * j) 1 = nI x := by rw [qcS.2 _ (by omega) (by omega)]; exact x1'
      obtain ⟨Q1, Q2⟩ := qa_q (am_set s 66 len (nI j)) (show j < 8 by omega)
      obtain ⟨m, T, y2, y3, m1, m2, m3, m4, m5⟩ := ih x (by omega) (len + 1) n (am_set s 66 len (nI j)) (by
        rcases x3 with g | ⟨g1, g2, g3⟩
        · exact Or.inl (by omega)
        · exact Or.inr ⟨g1, by omega⟩) (by omega) (by omega) (q_cd_set (by omega) cd) (q_cb_set (by omega) cb) qcS
      have oT : q_out s T (fun a b => q_FD a b ∨ (a = 66 ∧ len ≤ b)) := fun a b q => by rw [m4 a b (by omega), oS a b (by omega)]
      have T66 : T 66 len = nI j := by rw [m4 66 len (by unfold q_FD; omega)]; exact hS
      have qcT := q_qc_out oT (fun a b q => by unfold q_FD at q; omega) qc
      have cbT := q_cb_out oT (fun a b q => by unfold q_FD at q; omega) cb
      obtain ⟨K0, K1, K2, K3⟩ := qa_kind w wr qw qcT cbT hj (by rw [x2]; exact m5)
      obtain ⟨m, rfl⟩ : ∃ k, m = k + 1 := ⟨m - 1, by rw [am_F_eq] at m1; omega⟩
      have elen : nI (len + 1) - (1 : Int32) = nI len := q_decI len
      have emin : nI len + (-1 : Int32) = nI len - 1 := by rw [Int32.sub_eq_add_neg]
      have zl : ¬ nI len < 0 := qz (by omega)
      have cl := nI_clamp (n := len) (by omega)
      have hk0 : T (67 + 7 * j) 0 = Q (67 + 7 * j) 0 := by rw [qcT.2 _ (by omega) (by omega)]
      obtain ⟨Q3, Q4⟩ := qa_q T (show j < 8 by omega)
      unfold f_AS_find_7 p_AS_find_7
      rw [if_neg l8, if_neg l10, ej, cl, hS, Q2, hsrc1, e1, m2]
      rw [elen] at m3 ⊢
      have E62 : f_AS_find_62 (m + 1) T x1 y2 y3 (nI len) = (if Q (67 + 7 * j) 0 = 0 then f_AS_find_62 m (f_AS_findPlain T (67 + 7 * j)) x1 y2 y3 (nI len - 1) else if Q (67 + 7 * j) 0 = (1 : Int32) then f_AS_find_62 m (f_AS_findGroups T (67 + 7 * j)) x1 y2 y3 (nI len - 1) else f_AS_find_62 m (f_AS_findCross T (67 + 7 * j)) x1 y2 y3 (nI len - 1)) := by
        conv => lhs; unfold f_AS_find_62
        unfold f_AS_find_121
        rw [if_neg zl, cl, T66, Q4, hk0, emin]
      unfold p_AS_find_62 p_AS_find_121 at m3
      rw [cl, T66, Q4, hk0, emin] at m3
      rw [E62]
      have hp7 : (p_AS_find_7 n (am_set s 66 len (nI j)) x1 (nI (len + 1)) (nI x)) → (((8 : Int32) ≤ nI len) → p_AS_find_52 s x1 (nI len) (nI (10 + j))) ∧ (¬ ((8 : Int32) ≤ nI len) → ((nI (10 + j) < (10 : Int32)) → p_AS_find_52 s x1 (nI len) (nI (10 + j))) ∧ (¬ (nI (10 + j) < (10 : Int32)) → vp_in (nI len) 8 ∧ (vp_in (nI len) 8 ∧ (p_AS_question (am_set s 66 len (nI j)) (nI j) ∧ ((67 + 7 * j < 207 ∧ am_sh (67 + 7 * j) = (0, 4, 17)) ∧ p_AS_find_7 n (am_set s 66 len (nI j)) x1 (nI (len + 1)) (nI x)))))) := fun q => ⟨fun q2 => absurd q2 l8, fun _ => ⟨fun q2 => absurd q2 l10, fun _ => ⟨vl, vl, Q1, psh, q⟩⟩⟩
      rcases K3 with k0 | k1 | k2
      · obtain ⟨c1, t, c2, c3, c4⟩ := K0 k0
        rw [k0, c2] at m3 ⊢
        rw [if_pos rfl]
        exact ⟨m, t, y2, y3, by omega, rfl, fun q => hp7 (m3 ⟨fun q2 => absurd q2 zl, fun _ => ⟨vl, Q3, psh, fun _ => ⟨c1, q⟩, fun q2 => absurd rfl q2⟩⟩), fun a b q => by rw [c3 a b (by omega), oT a b q], c4⟩
      · obtain ⟨c1, t, c2, c3, c4⟩ := K1 k1
        rw [k1, c2] at m3 ⊢
        rw [if_neg i10, if_pos rfl]
        exact ⟨m, t, y2, y3, by omega, rfl, fun q => hp7 (m3 ⟨fun q2 => absurd q2 zl, fun _ => ⟨vl, Q3, psh, fun q2 => absurd q2 i10, fun _ => ⟨fun _ => ⟨c1, q⟩, fun q2 => absurd rfl q2⟩⟩⟩), fun a b q => by rw [c3 a b (by omega), oT a b q], c4⟩
      · obtain ⟨c1, t, c2, c3, c4⟩ := K2 k2
        have n20 : ¬ (2 : Int32) = 0 := by decide
        have n21 : ¬ (2 : Int32) = 1 := by decide
        rw [k2, c2] at m3 ⊢
        rw [if_neg n20, if_neg n21]
        exact ⟨m, t, y2, y3, by omega, rfl, fun q => hp7 (m3 ⟨fun q2 => absurd q2 zl, fun _ => ⟨vl, Q3, psh, fun q2 => absurd q2 n20, fun _ => ⟨fun q2 => absurd q2 n21, fun _ => ⟨c1, q⟩⟩⟩⟩), fun a b q => by rw [c3 a b (by omega), oT a b q], c4⟩
/-- the class has found the answers of a question -/
theorem qa_find {s A R Q : am_M} (cd : q_cd s A) (w : q_wd A) (wr : q_wr A R) (cb : q_cb s 9 10 11 R) (qc : q_qc s Q) (qw : q_qw A Q) {j : Nat} (hj : j < q_nq Q) : p_AS_find s (nI j) ∧ ∃ t, f_AS_find s (nI j) = (nI (q_sh R Q (10 + j)).length, t) ∧ q_out s t (fun a b => q_FD a b ∨ a = 66) ∧ q_csh A R Q t (10 + j) := by
  have h8 := qw.1.2
  obtain ⟨m, T, y2, y3, m1, m2, m3, m4, m5⟩ := qa_f7 w wr qw (nI j) (10 + j) 0 am_F s (Or.inr ⟨by omega, by omega⟩) (by omega) (by rw [am_F_eq]; omega) cd cb qc
  have e10 : (10 : Int32) + nI j = nI (10 + j) := nI_add 10 j
  have hf : f_AS_find s (nI j) = f_AS_find_7 am_F s (nI j) (nI 0) ((10 : Int32) + nI j) := rfl
  have hp : p_AS_find s (nI j) = p_AS_find_7 am_F s (nI j) (nI 0) ((10 : Int32) + nI j) := rfl
  have em : nI 0 - (1 : Int32) < 0 := by decide
  obtain ⟨m, rfl⟩ : ∃ k, m = k + 1 := ⟨m - 1, by rw [am_F_eq] at m1; omega⟩
  rw [hf, hp, e10, m2]
  unfold f_AS_find_62
  unfold p_AS_find_62 at m3
  rw [if_pos em, m5.1]
  exact ⟨m3 ⟨fun _ => trivial, fun q => absurd em q⟩, T, rfl, fun a b q => m4 a b (by omega), m5⟩
end

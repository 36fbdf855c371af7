noncomputable section
theorem op_askCross_ok {c d : Nat} (hcd : c ≤ d) : op_askCross (pu_R c) (pu_R d) := by
  intro s a1 a2 a3 a4 h
  replace h := h.mono hcd
  have h' := h
  obtain ⟨hP, Z, hZ⟩ := h
  obtain ⟨cd, oc, md, wd⟩ : q_x1 s (Z 6) := hZ 1
  obtain ⟨cb, mb, wr⟩ : q_x3 s (Z 6) (Z 8) := hZ 3
  obtain ⟨qc, qm, qw⟩ : q_x5 s (Z 6) (Z 11) := hZ 5
  have h8 := qw.1.2
  obtain ⟨pS, hS⟩ := qa_wantS cd wd qc qw a1
  have M : ∀ {u t : am_M} {v : Int32} {x : Int32}, p_MO_asks u 2 x a2 a3 a4 ∧ f_MO_asks u 2 x a2 a3 a4 = (v, t) → p_MO_askCross u x a2 a3 a4 ∧ f_MO_askCross u x a2 a3 a4 = (v, t) := fun hh => by
    unfold p_MO_askCross f_MO_askCross
    rw [hh.2]
    exact ⟨⟨hh.1, trivial⟩, rfl⟩
  rcases hS with ⟨hS, hno⟩ | ⟨hS, src, rfl, hs⟩
  · obtain ⟨K1, t, K2, K3⟩ := qm_keysE (x1 := a1) (x2 := a2) (x3 := a3) (x4 := a4) md wd wr mb qm qw (fun q => by
      obtain ⟨⟨src, c, e1, e2, e3, e4⟩, -, -⟩ := q
      exact hno ⟨src, e1, e3⟩)
    obtain ⟨F1, F2⟩ := M (qm_asksE (K := 2) (by decide) K1 K2)
    exact on_askCross_1 (v := 0) (s1 := s) (w := 0) (t := am_set t 207 0 1) (by unfold f_CB_askCross; rw [hS]; rfl) (by unfold p_CB_askCross; rw [hS]; exact fun q => absurd (show (1 : Nat) = 0 from q) (by decide)) F1 F2 am_set_q (pu_look hP hZ (q_out_t (q_LD_LU K3) q_207_LU))
  obtain ⟨p1, e, t1, S1, T1, U1⟩ := qa_wantSC cd wd wr cb qc qw hs a2
  have o1 := q_FD_LU (Q := Z 11) T1
  obtain ⟨cd1, md1, cb1, mb1, qc1, qm1⟩ := q_LU_all o1 qw cd md cb mb qc qm
  rcases U1 with ⟨rfl, hno⟩ | ⟨rfl, h1⟩
  · obtain ⟨K1, t, K2, K3⟩ := qm_keysE (x1 := nI src) (x2 := a2) (x3 := a3) (x4 := a4) md1 wd wr mb1 qm1 qw (fun q => hno (q_gS_u wd qw hs q.1))
    obtain ⟨F1, F2⟩ := M (qm_asksE (K := 2) (by decide) K1 K2)
    refine on_askCross_1 (v := 0) (s1 := t1) (w := 0) (t := am_set t 207 0 1) ?_ ?_ F1 F2 am_set_q (pu_look hP hZ (q_out_t o1 (q_out_t (q_LD_LU K3) q_207_LU)))
    · unfold f_CB_askCross
      rw [hS, if_pos rfl, S1]
      dsimp only
      rfl
    · unfold p_CB_askCross
      rw [hS, S1]
      dsimp only
      exact fun _ => ⟨p1, fun q => absurd (show (1 : Nat) = 0 from q) (by decide)⟩
  obtain ⟨p2, e, t2, S2, T2, U2⟩ := qa_wantSC cd1 wd wr cb1 qc1 qw hs a3
  have o2 := q_out_t o1 (q_FD_LU (Q := Z 11) T2)
  obtain ⟨cd2, md2, cb2, mb2, qc2, qm2⟩ := q_LU_all o2 qw cd md cb mb qc qm
  rcases U2 with ⟨rfl, hno⟩ | ⟨rfl, h2⟩
  · obtain ⟨K1, t, K2, K3⟩ := qm_keysE (x1 := nI src) (x2 := a2) (x3 := a3) (x4 := a4) md2 wd wr mb2 qm2 qw (fun q => hno (q_gS_u wd qw hs q.2.1))
    obtain ⟨F1, F2⟩ := M (qm_asksE (K := 2) (by decide) K1 K2)
    refine on_askCross_1 (v := 0) (s1 := t2) (w := 0) (t := am_set t 207 0 1) ?_ ?_ F1 F2 am_set_q (pu_look hP hZ (q_out_t o2 (q_out_t (q_LD_LU K3) q_207_LU)))
    · unfold f_CB_askCross
      rw [hS, if_pos rfl, S1]
      dsimp only
      rw [if_pos rfl, S2]
      dsimp only
      rfl
    · unfold p_CB_askCross
      rw [hS, S1]
      dsimp only
      rw [S2]
      dsimp only
      exact fun _ => ⟨p1, fun _ => ⟨p2, fun q => absurd (show (1 : Nat) = 0 from q) (by decide)⟩⟩
  obtain ⟨p3, e, t3, S3, T3, U3⟩ := qa_wantSC cd2 wd wr cb2 qc2 qw hs a4
  have o3 := q_out_t o2 (q_FD_LU (Q := Z 11) T3)
  obtain ⟨cd3, md3, cb3, mb3, qc3, qm3⟩ := q_LU_all o3 qw cd md cb mb qc qm
  rcases U3 with ⟨rfl, hno⟩ | ⟨rfl, h3⟩
  · obtain ⟨K1, t, K2, K3⟩ := qm_keysE (x1 := nI src) (x2 := a2) (x3 := a3) (x4 := a4) md3 wd wr mb3 qm3 qw (fun q => hno (q_gS_u wd qw hs q.2.2))
    obtain ⟨F1, F2⟩ := M (qm_asksE (K := 2) (by decide) K1 K2)
    refine on_askCross_1 (v := 0) (s1 := t3) (w := 0) (t := am_set t 207 0 1) ?_ ?_ F1 F2 am_set_q (pu_look hP hZ (q_out_t o3 (q_out_t (q_LD_LU K3) q_207_LU)))
    · unfold f_CB_askCross
      rw [hS, if_pos rfl, S1]
      dsimp only
      rw [if_pos rfl, S2]
      dsimp only
      rw [if_pos rfl, S3]
      dsimp only
      rfl
    · unfold p_CB_askCross
      rw [hS, S1]
      dsimp only
      rw [S2]
      dsimp only
      rw [S3]
      dsimp only
      exact fun _ => ⟨p1, fun _ => ⟨p2, fun _ => ⟨p3, fun q => absurd (show (1 : Nat) = 0 from q) (by decide)⟩⟩⟩
  obtain ⟨X1, X2⟩ := qa_noX wd qc3 qw hs
  have hpl := qa_qplace qc3 qw
  obtain ⟨K1, e, t, K2, K3, -, K4⟩ := qm_keysG md3 wd wr mb3 qm3 qw hs h1 h2 h3
  rcases X2 with ⟨X2, hx⟩ | ⟨X2, hx⟩
  · have e2 : e = 2 := by
      rcases K4 with ⟨q, -⟩ | ⟨-, q, -⟩ | ⟨-, q, -⟩
      · exact q
      · exact absurd hx q
      · exact absurd hx q
    subst e2
    obtain ⟨F1, F2⟩ := M (qm_asksE (K := 2) (by decide) K1 K2)
    refine on_askCross_2 (v := 0) (s1 := t3) (w := 0) (t := am_set t 207 0 2) ?_ ?_ F1 F2 am_set_q (pu_look hP hZ (q_out_t o3 (q_out_t (q_LD_LU K3) q_207_LU)))
    · unfold f_CB_askCross
      rw [hS, if_pos rfl, S1]
      dsimp only
      rw [if_pos rfl, S2]
      dsimp only
      rw [if_pos rfl, S3]
      dsimp only
      rw [if_pos rfl, X2]
      rfl
    · unfold p_CB_askCross
      rw [hS, S1]
      dsimp only
      rw [S2]
      dsimp only
      rw [S3]
      dsimp only
      rw [X2]
      exact fun _ => ⟨p1, fun _ => ⟨p2, fun _ => ⟨p3, fun _ => ⟨X1, fun q => absurd (show (2 : Nat) = 0 from q) (by decide)⟩⟩⟩⟩
  by_cases c8 : q_nq (Z 11) < 8
  rotate_left
  · have e3 : e = 3 := by
      rcases K4 with ⟨-, q⟩ | ⟨q, -⟩ | ⟨-, -, q⟩
      · exact absurd q hx
      · exact q
      · exact absurd q c8
    subst e3
    rw [if_neg c8] at hpl
    obtain ⟨F1, F2⟩ := M (qm_asksE (K := 2) (by decide) K1 K2)
    refine on_askCross_3 (v := 0) (s1 := t3) (w := 0) (t := am_set t 207 0 3) ?_ ?_ F1 F2 am_set_q (pu_look hP hZ (q_out_t o3 (q_out_t (q_LD_LU K3) q_207_LU)))
    · unfold f_CB_askCross
      rw [hS, if_pos rfl, S1]
      dsimp only
      rw [if_pos rfl, S2]
      dsimp only
      rw [if_pos rfl, S3]
      dsimp only
      rw [if_pos rfl, X2, if_pos rfl, hpl]
      rfl
    · unfold p_CB_askCross
      rw [hS, S1]
      dsimp only
      rw [S2]
      dsimp only
      rw [S3]
      dsimp only
      rw [X2, hpl]
      exact fun _ => ⟨p1, fun _ => ⟨p2, fun _ => ⟨p3, fun _ => ⟨X1, fun _ q => absurd (show (3 : Nat) = 0 from q) (by decide)⟩⟩⟩⟩
  rw [if_pos c8] at hpl
  have e52 : t3 52 3 = nI (q_nq (Z 11)) := qc3.1.trans qw.1.1
  obtain ⟨D1, D2⟩ := qa_makeG c8 e52 2 (nI src) a2 a3 a4
  obtain ⟨F1, t9, F2, F3, F4, F5⟩ := pu_makeG (K := 2) (x4 := a3) (x4m := a3) hP hZ c8 hs hx o3 h1 h2 h3 (Or.inr ⟨rfl, rfl⟩)
  obtain ⟨G1, G2⟩ := M ⟨F1, F2⟩
  refine og_askCross (hn := n9_nI (by first | omega | (have := qw.1.2; omega) | (have := wd.1.2; omega))) (v := nI (q_nq (Z 11))) (s1 := q_mg9 t3 (q_nq (Z 11)) 2 (nI src) a2 a3 a4) (w := nI (q_nq (Z 11))) (t := t9) ?_ ?_ G1 G2 F3 F4 F5
  · unfold f_CB_askCross
    rw [hS, if_pos rfl, S1]
    dsimp only
    rw [if_pos rfl, S2]
    dsimp only
    rw [if_pos rfl, S3]
    dsimp only
    rw [if_pos rfl, X2, if_pos rfl, hpl, if_pos rfl, D2]
  · unfold p_CB_askCross
    rw [hS, S1]
    dsimp only
    rw [S2]
    dsimp only
    rw [S3]
    dsimp only
    rw [X2, hpl]
    exact fun _ => ⟨p1, fun _ => ⟨p2, fun _ => ⟨p3, fun _ => ⟨X1, fun _ _ => ⟨D1, trivial⟩⟩⟩⟩⟩
end

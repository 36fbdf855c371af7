noncomputable section
-- answers are what their targets have
theorem LE_asks_4 {u : am_M} {x2 x3 x4 x5 x6 : Int32} : f_LH_asks u (4 : Int32) x2 x3 x4 x5 x6 = az (f_CB_answer u x2 x3 x4) := by
  unfold f_LH_asks
  rw [if_neg (show ¬ ((4 : Int32) = 0) by decide), if_neg (show ¬ ((4 : Int32) = (1 : Int32)) by decide), if_neg (show ¬ ((4 : Int32) = (2 : Int32)) by decide), if_neg (show ¬ ((4 : Int32) = (3 : Int32)) by decide), if_pos rfl]
  exact az3 _
theorem PS_a4 {c : Nat} {s : am_M} {x2 x3 x4 x5 x6 : Int32} (h : pu_R c s) : p_LH_asks s (4 : Int32) x2 x3 x4 x5 x6 := by
  obtain ⟨⟨ps, -⟩, e1, -⟩ := zo_answer (op_answer_ok (c := c) (d := c) (Nat.le_refl c)) (⟨h, h, gq_rf⟩ : RR c s s) (a1 := x2) (a2 := x3) (a3 := x4)
  unfold p_LH_asks
  exact ⟨fun q => absurd q (by decide), fun _ => ⟨fun q => absurd q (by decide), fun _ => ⟨fun q => absurd q (by decide), fun _ => ⟨fun q => absurd q (by decide), fun _ => ⟨fun _ => ⟨ps, e1, fun _ => trivial, fun _ => ⟨fun _ => trivial, fun _ => ⟨fun _ => trivial, fun _ => trivial⟩⟩⟩, fun q => absurd rfl q⟩⟩⟩⟩⟩
theorem ans304 {c : Nat} {s t : am_M} {x2 x3 x4 x5 x6 x7 x8 x9 x10 x11 x12 : Int32} (h : RR c s t) (hr : (f_CB_reason s = 0 ∧ x12 = 1) ∨ (¬ f_CB_reason s = 0 ∧ x12 = 0)) : p_LH_isAnswerSo_304 s t x2 x3 x4 x5 x6 x7 x8 x9 x10 x11 x12 ∧ (f_LH_isAnswerSo_304 s t x2 x3 x4 x5 x6 x7 x8 x9 x10 x11 x12).1 = 1 ∧ RR c (f_LH_isAnswerSo_304 s t x2 x3 x4 x5 x6 x7 x8 x9 x10 x11 x12).2.1 (f_LH_isAnswerSo_304 s t x2 x3 x4 x5 x6 x7 x8 x9 x10 x11 x12).2.2 := by
  obtain ⟨B1, B2, B3, B4, B5⟩ := Q_broken h.1
  have r := RR_12 h ⟨B4, B5⟩ ⟨h.2.1, gq_rf⟩
  have i01 : ¬ (0 : Int32) = 1 := by decide
  unfold p_LH_isAnswerSo_304 f_LH_isAnswerSo_304 p_LH_isAnswerSo_315 f_LH_isAnswerSo_315
  rcases hr with ⟨a, rfl⟩ | ⟨a, rfl⟩
  · rw [if_pos rfl, if_pos a, if_pos rfl, if_pos B2]
    exact ⟨⟨fun _ => ⟨fun _ => ⟨fun _ => ⟨B1, fun _ => trivial, fun _ => trivial⟩, fun q => absurd rfl q⟩, fun q => absurd a q⟩, fun q => absurd rfl q⟩, rfl, r⟩
  · rw [if_neg i01, if_neg a, if_pos rfl, if_pos B2]
    exact ⟨⟨fun q => absurd q i01, fun _ => ⟨fun q => absurd q a, fun _ => ⟨fun _ => ⟨B1, fun _ => trivial, fun _ => trivial⟩, fun q => absurd rfl q⟩⟩⟩, rfl, r⟩
theorem ans248 {c : Nat} {s t : am_M} {x2 x3 x4 x5 x6 x7 x8 x9 x10 x11 x12 : Int32} (h : RR c s t) (hr : (f_CB_reason s = 0 ∧ x12 = 1) ∨ (¬ f_CB_reason s = 0 ∧ x12 = 0)) (hc : x9 < 0 ∨ (¬ x9 < 0 ∧ ∃ V, (f_CB_cell s (x9 / (1000 : Int32)) ((x9 / (10 : Int32)) - (x9 / (10 : Int32)) / (100 : Int32) * (100 : Int32)) (x9 - x9 / (10 : Int32) * (10 : Int32))) = (0, V, s) ∧ ((x12 = 1 ∧ V = x11) ∨ (¬ x12 = 1 ∧ V = x8)))) : p_LH_isAnswerSo_248 s t x2 x3 x4 x5 x6 x7 x8 x9 x10 x11 x12 ∧ (f_LH_isAnswerSo_248 s t x2 x3 x4 x5 x6 x7 x8 x9 x10 x11 x12).1 = 1 ∧ RR c (f_LH_isAnswerSo_248 s t x2 x3 x4 x5 x6 x7 x8 x9 x10 x11 x12).2.1 (f_LH_isAnswerSo_248 s t x2 x3 x4 x5 x6 x7 x8 x9 x10 x11 x12).2.2 := by
  unfold p_LH_isAnswerSo_248 f_LH_isAnswerSo_248 p_LH_isAnswerSo_253 f_LH_isAnswerSo_253 p_LH_isAnswerSo_301 f_LH_isAnswerSo_301
  rw [if_neg i10]
  obtain ⟨⟨pc, -⟩, -⟩ := zo_cell (op_cell_ok (c := c) (d := c) (Nat.le_refl c)) h (a1 := (x9 / (1000 : Int32))) (a2 := ((x9 / (10 : Int32)) - (x9 / (10 : Int32)) / (100 : Int32) * (100 : Int32))) (a3 := (x9 - x9 / (10 : Int32) * (10 : Int32)))
  rcases hc with a | ⟨a, V, e, hv⟩
  · have k := ans304 (x2 := x2) (x3 := x3) (x4 := x4) (x5 := x5) (x6 := x6) (x7 := x7) (x8 := x8) (x9 := x9) (x10 := (1 : Int32)) (x11 := x11) (x12 := x12) h hr
    rw [if_pos a]
    exact ⟨⟨fun q => absurd q i10, fun _ => ⟨fun _ => k.1, fun q => absurd a q⟩⟩, k.2⟩
  · have k := ans304 (x2 := x2) (x3 := x3) (x4 := x4) (x5 := x5) (x6 := x6) (x7 := x7) (x8 := x8) (x9 := x9) (x10 := (1 : Int32)) (x11 := x11) (x12 := x12) h hr
    rw [if_neg a, e]
    dsimp only
    rcases hv with ⟨v1, v2⟩ | ⟨v1, v2⟩
    · rw [if_pos v1, if_pos v2]
      exact ⟨⟨fun q => absurd q i10, fun _ => ⟨fun q => absurd q a, fun _ => ⟨pc, rfl, fun _ => ⟨fun _ => k.1, fun q => absurd v2 q⟩, fun q => absurd v1 q⟩⟩⟩, k.2⟩
    · rw [if_neg v1, if_pos v2]
      exact ⟨⟨fun q => absurd q i10, fun _ => ⟨fun q => absurd q a, fun _ => ⟨pc, rfl, fun q => absurd q v1, fun _ => ⟨fun _ => k.1, fun q => absurd v2 q⟩⟩⟩⟩, k.2⟩
theorem fo_ne {B : List q_It} (h : q_rs B) (n : B ≠ []) : (q_fo B).1 ≠ 0 := by
  match B, h, n with
  | [], _, n => exact absurd rfl n
  | a :: l, h, _ =>
    have ra := h a (by simp)
    show nI a.1 ≠ 0
    exact fun q => by
      have := (qe_0 (n := a.1) (by omega)).mp q
      omega
theorem ans163 {c : Nat} {s t A U R Q : am_M} {j i k : Nat} {G x3 x4 x5 : Int32} (h : RR c s t) (b : CQ9 s A U R Q) (p : PQ9 A U R Q) (hj : j < q_nq Q) (hi : i < (q_sh R Q (10 + j)).length) (hk : k < q_wx A R Q (10 + j)) (tg : TG9 A R Q j i k G) : p_LH_isAnswerSo_163 s t (nI j) x3 x4 x5 (nI i) (nI k) (((q_sh R Q (10 + j)).getD i q_A0).1 k) G ∧ (f_LH_isAnswerSo_163 s t (nI j) x3 x4 x5 (nI i) (nI k) (((q_sh R Q (10 + j)).getD i q_A0).1 k) G).1 = 1 ∧ RR c (f_LH_isAnswerSo_163 s t (nI j) x3 x4 x5 (nI i) (nI k) (((q_sh R Q (10 + j)).getD i q_A0).1 k) G).2.1 (f_LH_isAnswerSo_163 s t (nI j) x3 x4 x5 (nI i) (nI k) (((q_sh R Q (10 + j)).getD i q_A0).1 k) G).2.2 := by
  unfold p_LH_isAnswerSo_163 f_LH_isAnswerSo_163 p_LH_isAnswerSo_168 f_LH_isAnswerSo_168
  have plow : p_LH_low s (x3 >>> ((7 : Int32) &&& 31)) (12 : Int32) := lowp (by decide)
  obtain ⟨m, m12, em⟩ := low_v (s := s) (x := x3 >>> ((7 : Int32) &&& 31)) (n := 12) (by omega) (by omega)
  have em : f_LH_low s (x3 >>> ((7 : Int32) &&& 31)) (12 : Int32) = nI m := em
  rw [em]
  obtain ⟨ps, pt, z⟩ := LS_asks_6 (Nat.le_refl c) h (x2 := nI j) (x3 := nI i) (x4 := nI k) (x5 := nI m) (x6 := (0 : Int32))
  have les : f_LH_asks s (6 : Int32) (nI j) (nI i) (nI k) (nI m) (0 : Int32) = bz (h_CB_write s (nI j) (nI i) (nI k) (nI m)) := LE_asks_6
  have hv : ∀ u, f_CB_wantValue u (nI m) = 0 := fun u => wv_30 (by omega)
  have hv2 : q_v (nI m) := q_v_30 (by omega)
  generalize hP : f_LH_asks s (6 : Int32) (nI j) (nI i) (nI k) (nI m) (0 : Int32) = P at *
  generalize hT : f_LH_asks t (6 : Int32) (nI j) (nI i) (nI k) (nI m) (0 : Int32) = T at *
  rw [if_neg i10]
  rcases tg with ⟨rfl, hst⟩ | ⟨T9, C, r, rfl, g2, g3, g4, g5, gT, gC, g6, hs, g7, g9, gv⟩
  · obtain ⟨T2, eW, w0, w1⟩ := A_write0 b p hj hi hk hv hst
    obtain ⟨y1, y2, y3⟩ := hg_write eW
    obtain ⟨b1, b2⟩ := bz_v y1 y2
    rw [← les] at b1 b2
    rw [if_pos rfl] at b1
    rcases z with ⟨z1, -⟩ | ⟨-, z2, z3⟩
    · rw [b1] at z1; exact absurd z1 (by decide)
    have er : f_CB_reason P.2 = (7 : Int32) := by
      show P.2 123 0 = 7
      rw [b2, y3 _ _ (by omega)]; exact w0
    have ew : f_CB_whereTable P.2 = (-1 : Int32) := by
      show P.2 123 1 = -1
      rw [b2, y3 _ _ (by omega)]; exact w1
    have n0 : ¬ (0 : Int32) ≤ -1 := by decide
    have key := ans248 (x2 := nI j) (x3 := x3) (x4 := x4) (x5 := x5) (x6 := nI i) (x7 := nI k) (x8 := ((q_sh R Q (10 + j)).getD i q_A0).1 k) (x9 := (-1 : Int32)) (x10 := (1 : Int32)) (x11 := nI m) (x12 := P.1) z3 (Or.inr ⟨by rw [er]; decide, b1⟩) (Or.inl (by decide))
    rw [if_pos z2, if_neg n0, if_pos b1, if_pos er, if_pos ew]
    exact ⟨⟨plow, ps, fun q => absurd q i10, fun _ => ⟨pt, fun _ => ⟨fun q => absurd q n0, fun _ => ⟨fun _ => ⟨fun _ => ⟨fun _ => key.1, fun q => absurd ew q⟩, fun q => absurd er q⟩, fun q => absurd b1 q⟩⟩, fun q => absurd z2 q⟩⟩, key.2⟩
  · obtain ⟨T2, eW, bW, fdW⟩ := A_write1 b p hj hi hk hv hv2 g2 g3 g4 g5 hs g7 g9
    obtain ⟨y1, y2, y3⟩ := hg_write eW
    obtain ⟨b1, b2⟩ := bz_v y1 y2
    rw [← les] at b1 b2
    have hrs : q_rs (q_brk A U (q_reck A (q_put R (180 * T9 + 6 * r + C) (nI m)))) := q_rs_brk
    have hre := q_we_reck p.1.1 (q_put_we (x := 180 * T9 + 6 * r + C) p.1.2.1.we hv2)
    have hcell : q_reck A (q_put R (180 * T9 + 6 * r + C) (nI m)) 2 (180 * T9 + 6 * r + C) = nI m := by
      rw [q_reck_o (by
        rw [show 6 * ((180 * T9 + 6 * r + C) / 180) + (180 * T9 + 6 * r + C) % 6 = 6 * T9 + C from by omega]
        rcases hs with q | q <;> rw [q] <;> decide)]
      exact if_pos ⟨rfl, rfl⟩
    have hrow1 : q_reck A (q_put R (180 * T9 + 6 * r + C) (nI m)) 1 (30 * T9 + r) ≠ 0 := by rw [hre.2.1, q_put_1]; exact g6
    have we2 := hre.1
    generalize q_brk A U (q_reck A (q_put R (180 * T9 + 6 * r + C) (nI m))) = L at *
    generalize q_reck A (q_put R (180 * T9 + 6 * r + C) (nI m)) = RW at *
    have x90 : ¬ nI (1000 * T9 + 10 * r + C) < 0 := qz (by omega)
    have x9p : (0 : Int32) ≤ nI (1000 * T9 + 10 * r + C) := Int32.not_lt.mp x90
    obtain ⟨d1, d2, d3⟩ := tg_div g3 g5 g4
    have er0 : f_CB_reason P.2 = (q_fo L).1 := by
      show P.2 123 0 = _
      rw [b2, y3 _ _ (by omega)]; exact fdW.1
    have bP : CB9 P.2 A U (q_pick L RW R) := by rw [b2]; exact CB9_out y3 (fun a b q => by omega) bW
    have hh : P.1 ≠ -9999999 ∧ ((f_CB_reason P.2 = 0 ∧ P.1 = 1) ∨ (¬ f_CB_reason P.2 = 0 ∧ P.1 = 0)) ∧ ∃ V, f_CB_cell P.2 (nI T9) (nI r) (nI C) = (0, V, P.2) ∧ ((P.1 = 1 ∧ V = nI m) ∨ (¬ P.1 = 1 ∧ V = ((q_sh R Q (10 + j)).getD i q_A0).1 k)) := by
      rcases q_good_c L with ⟨q1, q2, q3⟩ | ⟨q1, q2, q3⟩
      · rw [q2, if_neg i10] at b1
        rw [q3] at bP
        exact ⟨by rw [b1]; decide, Or.inl ⟨by rw [er0, q1]; rfl, b1⟩, RW 2 (180 * T9 + 6 * r + C), CB_cell bP p.1.1 we2 gT g5 gC hrow1, Or.inl ⟨b1, hcell⟩⟩
      · rw [q2, if_pos rfl] at b1
        rw [q3] at bP
        exact ⟨by rw [b1]; decide, Or.inr ⟨by rw [er0]; exact fo_ne hrs q1, b1⟩, R 2 (180 * T9 + 6 * r + C), CB_cell bP p.1.1 p.1.2.1.we gT g5 gC g6, Or.inr ⟨by rw [b1]; decide, gv.symm⟩⟩
    obtain ⟨n9, hr, hc⟩ := hh
    rcases z with ⟨z1, -⟩ | ⟨-, z2, z3⟩
    · exact absurd z1 n9
    have key := ans248 (x2 := nI j) (x3 := x3) (x4 := x4) (x5 := x5) (x6 := nI i) (x7 := nI k) (x8 := ((q_sh R Q (10 + j)).getD i q_A0).1 k) (x9 := nI (1000 * T9 + 10 * r + C)) (x10 := (1 : Int32)) (x11 := nI m) (x12 := P.1) z3 hr (Or.inr ⟨x90, by rw [d1, d2, d3]; exact hc⟩)
    rw [if_pos z2, if_pos x9p]
    exact ⟨⟨plow, ps, fun q => absurd q i10, fun _ => ⟨pt, fun _ => ⟨fun _ => key.1, fun q => absurd x9p q⟩, fun q => absurd z2 q⟩⟩, key.2⟩
set_option maxRecDepth 100000 in
theorem ansA {c : Nat} {s t : am_M} {x2 x3 : Int32} (h : RR c s t) (pm0 : p_LH_many s (0 : Int32) x2) (pm1 : p_LH_many s (1 : Int32) x2) (m0 : f_LH_many s (0 : Int32) x2 = (-9999999, s)) (m1 : f_LH_many s (1 : Int32) x2 = (-9999999, s)) : p_LH_isAnswerSo s t x2 x3 ∧ (f_LH_isAnswerSo s t x2 x3).1 = 1 ∧ RR c (f_LH_isAnswerSo s t x2 x3).2.1 (f_LH_isAnswerSo s t x2 x3).2.2 := by
  unfold p_LH_isAnswerSo f_LH_isAnswerSo
  generalize f_LH_many = F1 at *
  generalize f_CB_answer = F2 at *
  generalize f_CB_target = F3 at *
  generalize f_LH_asks = F4 at *
  generalize f_CB_cell = F5 at *
  generalize f_LH_low = F6 at *
  rw [m0]
  dsimp only
  rw [m1]
  dsimp only
  have n1 : (-9999999 : Int32) < 1 := by decide
  rw [if_pos n1]
  unfold p_LH_isAnswerSo_28 f_LH_isAnswerSo_28
  rw [if_pos rfl]
  exact ⟨⟨pm0, pm1, fun _ => ⟨fun _ => trivial, fun q => absurd rfl q⟩, fun q => absurd n1 q⟩, rfl, h⟩
set_option maxRecDepth 100000 in
theorem ansB {c N : Nat} {s t s1 s2 : am_M} {x2 x3 v1 : Int32} (h2 : RR c s2 t) (pm0 : p_LH_many s (0 : Int32) x2) (pm1 : p_LH_many s1 (1 : Int32) x2) (m0 : f_LH_many s (0 : Int32) x2 = (nI N, s1)) (m1 : f_LH_many s1 (1 : Int32) x2 = (v1, s2)) (n0 : N = 0) : p_LH_isAnswerSo s t x2 x3 ∧ (f_LH_isAnswerSo s t x2 x3).1 = 1 ∧ RR c (f_LH_isAnswerSo s t x2 x3).2.1 (f_LH_isAnswerSo s t x2 x3).2.2 := by
  have n1 : nI N < 1 := qt_1 (by omega)
  have n2 : nI N = 0 := (qe_0 (by omega)).mpr n0
  have n9 : ¬ nI N = -9999999 := n9_nI (by omega)
  unfold p_LH_isAnswerSo f_LH_isAnswerSo
  generalize f_LH_many = F1 at *
  generalize f_CB_answer = F2 at *
  generalize f_CB_target = F3 at *
  generalize f_LH_asks = F4 at *
  generalize f_CB_cell = F5 at *
  generalize f_LH_low = F6 at *
  rw [m0]
  dsimp only
  rw [m1]
  dsimp only
  rw [if_pos n1]
  unfold p_LH_isAnswerSo_28 f_LH_isAnswerSo_28
  rw [if_neg n9, if_pos n2]
  exact ⟨⟨pm0, pm1, fun _ => ⟨fun q => absurd q n9, fun _ => ⟨fun _ => trivial, fun q => absurd n2 q⟩⟩, fun q => absurd n1 q⟩, rfl, h2⟩
set_option maxRecDepth 100000 in
theorem ansC {c N : Nat} {s t s1 s2 : am_M} {x2 x3 : Int32} (h2 : RR c s2 t) (pm0 : p_LH_many s (0 : Int32) x2) (pm1 : p_LH_many s1 (1 : Int32) x2) (m0 : f_LH_many s (0 : Int32) x2 = (nI N, s1)) (m1 : f_LH_many s1 (1 : Int32) x2 = (nI 0, s2)) (n0 : ¬ N = 0) (n30 : N ≤ 30) : p_LH_isAnswerSo s t x2 x3 ∧ (f_LH_isAnswerSo s t x2 x3).1 = 1 ∧ RR c (f_LH_isAnswerSo s t x2 x3).2.1 (f_LH_isAnswerSo s t x2 x3).2.2 := by
  have n1 : ¬ nI N < 1 := qu_1 (by omega) (by omega)
  have n2 : ¬ nI N = 0 := fun q => n0 ((qe_0 (by omega)).mp q)
  have n9 : ¬ nI N = -9999999 := n9_nI (by omega)
  have w1 : ¬ (1 : Int32) ≤ nI 0 := nI_ge (b := 1) (by omega) (by decide)
  have w2 : nI 0 = 0 := nI_0
  unfold p_LH_isAnswerSo f_LH_isAnswerSo
  generalize f_LH_many = F1 at *
  generalize f_CB_answer = F2 at *
  generalize f_CB_target = F3 at *
  generalize f_LH_asks = F4 at *
  generalize f_CB_cell = F5 at *
  generalize f_LH_low = F6 at *
  rw [m0]
  dsimp only
  rw [m1]
  dsimp only
  rw [if_neg n1, if_neg w1]
  unfold p_LH_isAnswerSo_28 f_LH_isAnswerSo_28
  rw [if_neg n9, if_neg n2, if_pos w2]
  exact ⟨⟨pm0, pm1, fun q => absurd q n1, fun _ => ⟨fun q => absurd q w1, fun _ => ⟨fun q => absurd q n9, fun _ => ⟨fun q => absurd q n2, fun _ => ⟨fun _ => trivial, fun q => absurd w2 q⟩⟩⟩⟩⟩, rfl, h2⟩
set_option maxRecDepth 100000 in
theorem ansD {c N W : Nat} {s t s1 s2 s3 s4 s5 s6 : am_M} {x2 x3 a k its G : Int32} (pm0 : p_LH_many s (0 : Int32) x2) (pm1 : p_LH_many s1 (1 : Int32) x2) (m0 : f_LH_many s (0 : Int32) x2 = (nI N, s1)) (m1 : f_LH_many s1 (1 : Int32) x2 = (nI W, s2)) (n0 : ¬ N = 0) (n30 : N ≤ 30) (w0 : ¬ W = 0) (w54 : W ≤ 54)
    (ei : f_LH_low s2 x3 (nI N) = a) (ek : f_LH_low s2 (x3 >>> ((4 : Int32) &&& 31)) (nI W) = k) (pA : p_CB_answer s2 x2 a k) (eA : f_CB_answer s2 x2 a k = (0, its, s3)) (pT : p_CB_target s3 x2 a k) (eT : f_CB_target s3 x2 a k = (0, G, s4)) (pa4 : p_LH_asks s4 (4 : Int32) x2 (nI N) (0 : Int32) (0 : Int32) (0 : Int32)) (E5 : f_LH_asks s4 (4 : Int32) x2 (nI N) (0 : Int32) (0 : Int32) (0 : Int32) = (-9999999, s5)) (pa5 : p_LH_asks s5 (4 : Int32) x2 (0 : Int32) (nI W) (0 : Int32) (0 : Int32)) (E6 : f_LH_asks s5 (4 : Int32) x2 (0 : Int32) (nI W) (0 : Int32) (0 : Int32) = (-9999999, s6))
    (key : p_LH_isAnswerSo_163 s6 t x2 x3 (nI N) (nI W) a k its G ∧ (f_LH_isAnswerSo_163 s6 t x2 x3 (nI N) (nI W) a k its G).1 = 1 ∧ RR c (f_LH_isAnswerSo_163 s6 t x2 x3 (nI N) (nI W) a k its G).2.1 (f_LH_isAnswerSo_163 s6 t x2 x3 (nI N) (nI W) a k its G).2.2)
    (hc : G < 0 ∨ (¬ G < 0 ∧ p_CB_cell s6 (G / (1000 : Int32)) ((G / (10 : Int32)) - (G / (10 : Int32)) / (100 : Int32) * (100 : Int32)) (G - G / (10 : Int32) * (10 : Int32)) ∧ f_CB_cell s6 (G / (1000 : Int32)) ((G / (10 : Int32)) - (G / (10 : Int32)) / (100 : Int32) * (100 : Int32)) (G - G / (10 : Int32) * (10 : Int32)) = (0, its, s6))) : p_LH_isAnswerSo s t x2 x3 ∧ (f_LH_isAnswerSo s t x2 x3).1 = 1 ∧ RR c (f_LH_isAnswerSo s t x2 x3).2.1 (f_LH_isAnswerSo s t x2 x3).2.2 := by
  have n1 : ¬ nI N < 1 := qu_1 (by omega) (by omega)
  have w1 : (1 : Int32) ≤ nI W := nI_le (a := 1) (by omega) (by omega)
  have pl1 : p_LH_low s2 x3 (nI N) := lowp (fun q => n0 ((qe_0 (by omega)).mp q))
  have pl2 : p_LH_low s2 (x3 >>> ((4 : Int32) &&& 31)) (nI W) := lowp (fun q => w0 ((qe_0 (by omega)).mp q))
  have n39 : ¬ (30 : Int32) < nI N := Int32.not_lt.mpr (nI_le (b := 30) (by omega) (by decide))
  unfold p_LH_isAnswerSo f_LH_isAnswerSo
  generalize f_LH_many = F1 at *
  generalize f_CB_answer = F2 at *
  generalize f_CB_target = F3 at *
  generalize f_LH_asks = F4 at *
  generalize f_CB_cell = F5 at *
  generalize f_LH_low = F6 at *
  rw [m0]
  dsimp only
  rw [m1]
  dsimp only
  rw [if_neg n1, if_pos w1, ei, ek, eA]
  dsimp only
  rw [eT]
  dsimp only
  rw [if_neg n39, E5]
  dsimp only
  rw [if_pos rfl, E6]
  dsimp only
  rw [if_pos rfl]
  rcases hc with l0 | ⟨x90, pc, ec⟩
  · rw [if_pos l0]
    exact ⟨⟨pm0, pm1, fun q => absurd q n1, fun _ => ⟨fun _ => ⟨pl1, pl2, pA, rfl, pT, rfl, fun q => absurd q n39, fun _ => ⟨pa4, fun _ => ⟨pa5, fun _ => ⟨fun _ => key.1, fun q => absurd l0 q⟩, fun q => absurd rfl q⟩, fun q => absurd rfl q⟩⟩, fun q => absurd w1 q⟩⟩, key.2⟩
  · rw [if_neg x90, ec]
    dsimp only
    rw [if_pos rfl]
    exact ⟨⟨pm0, pm1, fun q => absurd q n1, fun _ => ⟨fun _ => ⟨pl1, pl2, pA, rfl, pT, rfl, fun q => absurd q n39, fun _ => ⟨pa4, fun _ => ⟨pa5, fun _ => ⟨fun q => absurd q x90, fun _ => ⟨pc, rfl, fun _ => key.1, fun q => absurd rfl q⟩⟩, fun q => absurd rfl q⟩, fun q => absurd rfl q⟩⟩, fun q => absurd w1 q⟩⟩, key.2⟩
theorem LS_answer {c : Nat} {s t : am_M} (h : RR c s t) (x2 x3 : Int32) : p_LH_isAnswerSo s t x2 x3 ∧ (f_LH_isAnswerSo s t x2 x3).1 = 1 ∧ RR c (f_LH_isAnswerSo s t x2 x3).2.1 (f_LH_isAnswerSo s t x2 x3).2.2 := by
  obtain ⟨A, U, R, Q, b, p⟩ := CQ9_of h.1
  have pm0 := (Q_many0 (x := x2) h).1
  rcases A_many (x := x2) b p with ⟨m0, m1⟩ | ⟨j, rfl, hj⟩
  · exact ansA h pm0 (Q_many1 (x := x2) h).1 m0 m1
  obtain ⟨s1, m0, o1⟩ := A_many0 b p hj
  have h1 := RL9 h o1
  have b1 := CQ9_look o1 b
  obtain ⟨s2, m1, o2⟩ := A_many1 b1 p hj
  have pm1 := (Q_many1 (x := nI j) h1).1
  have h2 := RL9 h1 o2
  have b2 := CQ9_look o2 b1
  have h8 := p.2.1.2
  have hlen := q_sh_len (R := R) p.1.1 p.2 (10 + j) (by omega)
  have hwx := q_wx_le (R := R) p.1.1 p.2 (src := 10 + j) (Or.inr ⟨by omega, by omega⟩)
  by_cases n0 : (q_sh R Q (10 + j)).length = 0
  · exact ansB h2 pm0 pm1 m0 m1 n0
  by_cases w0 : q_wx A R Q (10 + j) = 0
  · rw [w0] at m1
    exact ansC h2 pm0 pm1 m0 m1 n0 hlen
  obtain ⟨i, hi, ei⟩ := low_v (s := s2) (x := x3) (n := (q_sh R Q (10 + j)).length) (by omega) (by omega)
  obtain ⟨k, hk, ek⟩ := low_v (s := s2) (x := x3 >>> ((4 : Int32) &&& 31)) (n := q_wx A R Q (10 + j)) (by omega) (by omega)
  obtain ⟨s3, eA, o3⟩ := A_answer b2 p hj hi hk
  have h3 := RL9 h2 o3
  have b3 := CQ9_look o3 b2
  obtain ⟨⟨pA, -⟩, -⟩ := zo_answer (op_answer_ok (c := c) (d := c) (Nat.le_refl c)) (⟨h2.1, h2.1, gq_rf⟩ : RR c s2 s2) (a1 := nI j) (a2 := nI i) (a3 := nI k)
  obtain ⟨G, s4, eT, o4, tg⟩ := A_target b3 p hj hi hk
  have h4 := RL9 h3 o4
  have b4 := CQ9_look o4 b3
  obtain ⟨⟨pT, -⟩, -⟩ := zo_target (op_target_ok (c := c) (d := c) (Nat.le_refl c)) (⟨h3.1, h3.1, gq_rf⟩ : RR c s3 s3) (a1 := nI j) (a2 := nI i) (a3 := nI k)
  obtain ⟨s5, e5, o5⟩ := A_beyond (i := (q_sh R Q (10 + j)).length) (k := 0) b4 p hj (by omega) (by omega) (fun q => absurd q.1 (by omega))
  have h5 := RL9 h4 o5
  have b5 := CQ9_look o5 b4
  have pa4 := PS_a4 (x2 := nI j) (x3 := nI (q_sh R Q (10 + j)).length) (x4 := (0 : Int32)) (x5 := (0 : Int32)) (x6 := (0 : Int32)) h4.1
  have E5 : f_LH_asks s4 (4 : Int32) (nI j) (nI (q_sh R Q (10 + j)).length) (0 : Int32) (0 : Int32) (0 : Int32) = (-9999999, s5) := by
    rw [LE_asks_4, show f_CB_answer s4 (nI j) (nI (q_sh R Q (10 + j)).length) (0 : Int32) = (1, 0, s5) from e5]; rfl
  obtain ⟨s6, e6, o6⟩ := A_beyond (i := 0) (k := q_wx A R Q (10 + j)) b5 p hj (by omega) (by omega) (fun q => absurd q.2 (by omega))
  have h6 := RL9 h5 o6
  have b6 := CQ9_look o6 b5
  have pa5 := PS_a4 (x2 := nI j) (x3 := (0 : Int32)) (x4 := nI (q_wx A R Q (10 + j))) (x5 := (0 : Int32)) (x6 := (0 : Int32)) h5.1
  have E6 : f_LH_asks s5 (4 : Int32) (nI j) (0 : Int32) (nI (q_wx A R Q (10 + j))) (0 : Int32) (0 : Int32) = (-9999999, s6) := by
    rw [LE_asks_4, show f_CB_answer s5 (nI j) (0 : Int32) (nI (q_wx A R Q (10 + j))) = (1, 0, s6) from e6]; rfl
  have key := ans163 (x3 := x3) (x4 := nI (q_sh R Q (10 + j)).length) (x5 := nI (q_wx A R Q (10 + j))) h6 b6 p hj hi hk tg
  refine ansD pm0 pm1 m0 m1 n0 hlen w0 hwx ei ek pA eA pT eT pa4 E5 pa5 E6 key ?_
  rcases tg with ⟨rfl, hst⟩ | ⟨T9, C, r, rfl, g2, g3, g4, g5, gT, gC, g6, hs, g7, g9, gv⟩
  · exact Or.inl (by decide)
  · obtain ⟨d1, d2, d3⟩ := tg_div g3 g5 g4
    have ec := CB_cell b6.1 p.1.1 p.1.2.1.we gT g5 gC g6
    obtain ⟨⟨pc, -⟩, -⟩ := zo_cell (op_cell_ok (c := c) (d := c) (Nat.le_refl c)) (⟨h6.1, h6.1, gq_rf⟩ : RR c s6 s6) (a1 := nI T9) (a2 := nI r) (a3 := nI C)
    refine Or.inr ⟨qz (by omega), ?_, ?_⟩
    · rw [d1, d2, d3]; exact pc
    · rw [d1, d2, d3, gv]; exact ec
end

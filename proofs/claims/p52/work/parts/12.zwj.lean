noncomputable section
-- the law begins alike, and as it says
theorem hg_addTable {u S : am_M} {v : Int32} (e : f_CB_addTable u = (0, v, S)) : (h_CB_addTable u).1 = 0 ∧ (h_CB_addTable u).2.1 = v ∧ q_out S (h_CB_addTable u).2.2 (fun a _ => 207 ≤ a) := by
  have e0 : (f_CB_addTable u).1 = 0 := by rw [e]
  refine ⟨e0, by show (f_CB_addTable u).2.1 = v; rw [e], ?_⟩
  show q_out S (if (f_CB_addTable u).1 = 0 then lo (f_CB_addTable u).2.2 (f_MO_addTable (f_LA_addTable u).2).2 else (f_CB_addTable u).2.2) _
  rw [if_pos e0, e]
  exact lo_out
theorem hg_addNumber {u S : am_M} {x y z : Int32} {v : Int32} (e : f_CB_addNumber u x y z = (0, v, S)) : (h_CB_addNumber u x y z).1 = 0 ∧ (h_CB_addNumber u x y z).2.1 = v ∧ q_out S (h_CB_addNumber u x y z).2.2 (fun a _ => 207 ≤ a) := by
  have e0 : (f_CB_addNumber u x y z).1 = 0 := by rw [e]
  refine ⟨e0, by show (f_CB_addNumber u x y z).2.1 = v; rw [e], ?_⟩
  show q_out S (if (f_CB_addNumber u x y z).1 = 0 then lo (f_CB_addNumber u x y z).2.2 (f_MO_addNumber (f_LA_addNumber u x y z).2 x y z).2 else (f_CB_addNumber u x y z).2.2) _
  rw [if_pos e0, e]
  exact lo_out
theorem hg_addLink {u S : am_M} {x y z : Int32} {v : Int32} (e : f_CB_addLink u x y z = (0, v, S)) : (h_CB_addLink u x y z).1 = 0 ∧ (h_CB_addLink u x y z).2.1 = v ∧ q_out S (h_CB_addLink u x y z).2.2 (fun a _ => 207 ≤ a) := by
  have e0 : (f_CB_addLink u x y z).1 = 0 := by rw [e]
  refine ⟨e0, by show (f_CB_addLink u x y z).2.1 = v; rw [e], ?_⟩
  show q_out S (if (f_CB_addLink u x y z).1 = 0 then lo (f_CB_addLink u x y z).2.2 (f_MO_addLink (f_LA_addLink u x y z).2 x y z).2 else (f_CB_addLink u x y z).2.2) _
  rw [if_pos e0, e]
  exact lo_out
theorem hg_addReckoned {u S : am_M} {x1 x2 x3 x4 x5 : Int32} {v : Int32} (e : f_CB_addReckoned u x1 x2 x3 x4 x5 = (0, v, S)) : (h_CB_addReckoned u x1 x2 x3 x4 x5).1 = 0 ∧ (h_CB_addReckoned u x1 x2 x3 x4 x5).2.1 = v ∧ q_out S (h_CB_addReckoned u x1 x2 x3 x4 x5).2.2 (fun a _ => 207 ≤ a) := by
  have e0 : (f_CB_addReckoned u x1 x2 x3 x4 x5).1 = 0 := by rw [e]
  refine ⟨e0, by show (f_CB_addReckoned u x1 x2 x3 x4 x5).2.1 = v; rw [e], ?_⟩
  show q_out S (if (f_CB_addReckoned u x1 x2 x3 x4 x5).1 = 0 then lo (f_CB_addReckoned u x1 x2 x3 x4 x5).2.2 (f_MO_addReckoned (f_LA_addReckoned u x1 x2 x3 x4 x5).2 x1 x2 x3 x4 x5).2 else (f_CB_addReckoned u x1 x2 x3 x4 x5).2.2) _
  rw [if_pos e0, e]
  exact lo_out
theorem hg_ask {u S : am_M} {x y : Int32} {v : Int32} (e : f_CB_ask u x y = (0, v, S)) : (h_CB_ask u x y).1 = 0 ∧ (h_CB_ask u x y).2.1 = v ∧ q_out S (h_CB_ask u x y).2.2 (fun a _ => 207 ≤ a) := by
  have e0 : (f_CB_ask u x y).1 = 0 := by rw [e]
  refine ⟨e0, by show (f_CB_ask u x y).2.1 = v; rw [e], ?_⟩
  show q_out S (if (f_CB_ask u x y).1 = 0 then lo (f_CB_ask u x y).2.2 (f_MO_ask (f_LA_ask u x y).2 x y).2 else (f_CB_ask u x y).2.2) _
  rw [if_pos e0, e]
  exact lo_out
theorem hg_askGroups {u S : am_M} {x y z : Int32} {v : Int32} (e : f_CB_askGroups u x y z = (0, v, S)) : (h_CB_askGroups u x y z).1 = 0 ∧ (h_CB_askGroups u x y z).2.1 = v ∧ q_out S (h_CB_askGroups u x y z).2.2 (fun a _ => 207 ≤ a) := by
  have e0 : (f_CB_askGroups u x y z).1 = 0 := by rw [e]
  refine ⟨e0, by show (f_CB_askGroups u x y z).2.1 = v; rw [e], ?_⟩
  show q_out S (if (f_CB_askGroups u x y z).1 = 0 then lo (f_CB_askGroups u x y z).2.2 (f_MO_askGroups (f_LA_askGroups u x y z).2 x y z).2 else (f_CB_askGroups u x y z).2.2) _
  rw [if_pos e0, e]
  exact lo_out
theorem hg_addAct {u S : am_M} {v : Int32} (e : f_CB_addAct u = (0, v, S)) : (h_CB_addAct u).1 = 0 ∧ (h_CB_addAct u).2.1 = v ∧ q_out S (h_CB_addAct u).2.2 (fun a _ => 207 ≤ a) := by
  have e0 : (f_CB_addAct u).1 = 0 := by rw [e]
  refine ⟨e0, by show (f_CB_addAct u).2.1 = v; rw [e], ?_⟩
  show q_out S (if (f_CB_addAct u).1 = 0 then lo (f_CB_addAct u).2.2 (f_MO_addAct (f_LA_addAct u).2).2 else (f_CB_addAct u).2.2) _
  rw [if_pos e0, e]
  exact lo_out
theorem hg_stepPut {u S : am_M} {x y z w : Int32} {v : Int32} (e : f_CB_stepPut u x y z w = (0, v, S)) : (h_CB_stepPut u x y z w).1 = 0 ∧ (h_CB_stepPut u x y z w).2.1 = v ∧ q_out S (h_CB_stepPut u x y z w).2.2 (fun a _ => 207 ≤ a) := by
  have e0 : (f_CB_stepPut u x y z w).1 = 0 := by rw [e]
  refine ⟨e0, by show (f_CB_stepPut u x y z w).2.1 = v; rw [e], ?_⟩
  show q_out S (if (f_CB_stepPut u x y z w).1 = 0 then lo (f_CB_stepPut u x y z w).2.2 (f_MO_stepPut (f_LA_stepPut u x y z w).2 x y z w).2 else (f_CB_stepPut u x y z w).2.2) _
  rw [if_pos e0, e]
  exact lo_out
theorem nx9 {c : Nat} {s : am_M} {q : Nat × Int32 × am_M} (z : ZZ c c s (az q) (az q)) (e0 : q.1 = 0) (n : q.2.1 ≠ -9999999) : pu_R c q.2.2 := by
  have e : az q = (q.2.1, q.2.2) := if_pos e0
  rw [e] at z
  rcases z with ⟨z, -⟩ | ⟨-, -, z⟩
  · exact absurd z n
  · exact z.1
theorem b_1 {c n : Nat} {s : am_M} (h : pu_R c s) (f : BF s n 0 0 0 0 0) (hn : n < 4) : (h_CB_addTable s).1 = 0 ∧ (h_CB_addTable s).2.1 = nI n ∧ pu_R c (h_CB_addTable s).2.2 ∧ BF (h_CB_addTable s).2.2 (n + 1) 0 0 0 0 0 := by
  have e := B_table f.1 hn
  obtain ⟨g1, g2, g3⟩ := hg_addTable e
  obtain ⟨-, -, z⟩ := zs_addTable (Nat.le_refl c) (⟨h, h, gq_rf⟩ : RR c s s)
  refine ⟨g1, g2, nx9 z g1 (by rw [g2]; exact n9_nI (by omega)), BF_out g3 (fun x y q => by omega) ?_⟩
  obtain ⟨f1, f2, f3, f4, f5, f6, f7⟩ := f
  exact ⟨am_set_q, by (repeat rw [am_set_p (by omega)]); exact f2, by (repeat rw [am_set_p (by omega)]); exact f3, by (repeat rw [am_set_p (by omega)]); exact f4, by (repeat rw [am_set_p (by omega)]); exact f5, by (repeat rw [am_set_p (by omega)]); exact f6, by (repeat rw [am_set_p (by omega)]); exact f7⟩

theorem b_4 {c : Nat} {s : am_M} (h : pu_R c s) (f : BF s 3 0 0 0 0 0) : p_CB_addNumber s (0 : Int32) (-2 : Int32) (14 : Int32) ∧ (h_CB_addNumber s (0 : Int32) (-2 : Int32) (14 : Int32)).1 = 0 ∧ (h_CB_addNumber s (0 : Int32) (-2 : Int32) (14 : Int32)).2.1 = nI 0 ∧ pu_R c (h_CB_addNumber s (0 : Int32) (-2 : Int32) (14 : Int32)).2.2 ∧ BF (h_CB_addNumber s (0 : Int32) (-2 : Int32) (14 : Int32)).2.2 3 1 0 0 0 0 ∧ (h_CB_addNumber s (0 : Int32) (-2 : Int32) (14 : Int32)).2.2 20 0 = 1 := by
  obtain ⟨A, R, Q, ⟨cd, md, oc, wd⟩, ⟨cb, wr⟩, ⟨qc, qw⟩, n1, w0, w1, w2, q1⟩ := B_of h f (by omega) (by omega) (by omega) (by omega) (by omega)
  have e := B_number (T := 0) (w := 0) (lo := (-2 : Int32)) (hi := (14 : Int32)) cd wd (by omega) w0 (by omega) (by unfold f_CB_wantRange; rw [if_neg (by decide), if_neg (by decide), if_pos (by decide)])
  obtain ⟨g1, g2, g3⟩ := hg_addNumber (x := (0 : Int32)) e
  obtain ⟨⟨p, -⟩, -, -, z⟩ := zs_addNumber (a1 := (0 : Int32)) (a2 := (-2 : Int32)) (a3 := (14 : Int32)) (Nat.le_refl c) (⟨h, h, gq_rf⟩ : RR c s s)
  obtain ⟨f1, f2, f3, f4, f5, f6, f7⟩ := f
  refine ⟨p, g1, g2, nx9 z g1 (by rw [g2]; exact n9_nI (by omega)), BF_out g3 (fun x y q => by omega) ⟨by (repeat rw [am_set_p (by omega)]); first | exact f1 | exact am_set_q, by (repeat rw [am_set_p (by omega)]); first | exact f2 | exact am_set_q, by (repeat rw [am_set_p (by omega)]); first | exact f3 | exact am_set_q, by (repeat rw [am_set_p (by omega)]); first | exact f4 | exact am_set_q, by (repeat rw [am_set_p (by omega)]); first | exact f5 | exact am_set_q, by (repeat rw [am_set_p (by omega)]); first | exact f6 | exact am_set_q, by (repeat rw [am_set_p (by omega)]); first | exact f7 | exact am_set_q⟩, by rw [g3 _ _ (by omega)]; (repeat rw [am_set_p (by omega)]); first | exact am_set_q⟩

theorem b_5 {c : Nat} {s : am_M} (h : pu_R c s) (f : BF s 3 1 0 0 0 0) (e0 : s 20 0 = 1) : p_CB_addLink s (0 : Int32) (1 : Int32) (2 : Int32) ∧ (h_CB_addLink s (0 : Int32) (1 : Int32) (2 : Int32)).1 = 0 ∧ (h_CB_addLink s (0 : Int32) (1 : Int32) (2 : Int32)).2.1 = nI 1 ∧ pu_R c (h_CB_addLink s (0 : Int32) (1 : Int32) (2 : Int32)).2.2 ∧ BF (h_CB_addLink s (0 : Int32) (1 : Int32) (2 : Int32)).2.2 3 2 0 0 0 0 ∧ (h_CB_addLink s (0 : Int32) (1 : Int32) (2 : Int32)).2.2 20 0 = 1 ∧ (h_CB_addLink s (0 : Int32) (1 : Int32) (2 : Int32)).2.2 21 0 = 2 ∧ (h_CB_addLink s (0 : Int32) (1 : Int32) (2 : Int32)).2.2 21 3 = nI 1 := by
  obtain ⟨A, R, Q, ⟨cd, md, oc, wd⟩, ⟨cb, wr⟩, ⟨qc, qw⟩, n1, w0, w1, w2, q1⟩ := B_of h f (by omega) (by omega) (by omega) (by omega) (by omega)
  have e := B_link (T := 0) (T2 := 1) (w := 1) (a3 := (2 : Int32)) cd wd (by omega) (by omega) w0 (by omega) (by unfold f_CB_wantRemoval; rw [if_neg (by decide), if_pos (by decide)])
  obtain ⟨g1, g2, g3⟩ := hg_addLink (x := (0 : Int32)) (y := (1 : Int32)) e
  obtain ⟨⟨p, -⟩, -, -, z⟩ := zs_addLink (a1 := (0 : Int32)) (a2 := (1 : Int32)) (a3 := (2 : Int32)) (Nat.le_refl c) (⟨h, h, gq_rf⟩ : RR c s s)
  obtain ⟨f1, f2, f3, f4, f5, f6, f7⟩ := f
  refine ⟨p, g1, g2, nx9 z g1 (by rw [g2]; exact n9_nI (by omega)), BF_out g3 (fun x y q => by omega) ⟨by (repeat rw [am_set_p (by omega)]); first | exact f1 | exact am_set_q, by (repeat rw [am_set_p (by omega)]); first | exact f2 | exact am_set_q, by (repeat rw [am_set_p (by omega)]); first | exact f3 | exact am_set_q, by (repeat rw [am_set_p (by omega)]); first | exact f4 | exact am_set_q, by (repeat rw [am_set_p (by omega)]); first | exact f5 | exact am_set_q, by (repeat rw [am_set_p (by omega)]); first | exact f6 | exact am_set_q, by (repeat rw [am_set_p (by omega)]); first | exact f7 | exact am_set_q⟩, by rw [g3 _ _ (by omega)]; (repeat rw [am_set_p (by omega)]); first | exact am_set_q | exact e0, by rw [g3 _ _ (by omega)]; (repeat rw [am_set_p (by omega)]); first | exact am_set_q | exact e0, by rw [g3 _ _ (by omega)]; (repeat rw [am_set_p (by omega)]); first | exact am_set_q | exact e0⟩

theorem b_6 {c : Nat} {s : am_M} (h : pu_R c s) (f : BF s 3 2 0 0 0 0) (e0 : s 20 0 = 1) (e1 : s 21 0 = 2) (e2 : s 21 3 = nI 1) : p_CB_addNumber s (1 : Int32) (-2 : Int32) (14 : Int32) ∧ (h_CB_addNumber s (1 : Int32) (-2 : Int32) (14 : Int32)).1 = 0 ∧ (h_CB_addNumber s (1 : Int32) (-2 : Int32) (14 : Int32)).2.1 = nI 0 ∧ pu_R c (h_CB_addNumber s (1 : Int32) (-2 : Int32) (14 : Int32)).2.2 ∧ BF (h_CB_addNumber s (1 : Int32) (-2 : Int32) (14 : Int32)).2.2 3 2 1 0 0 0 ∧ (h_CB_addNumber s (1 : Int32) (-2 : Int32) (14 : Int32)).2.2 20 0 = 1 ∧ (h_CB_addNumber s (1 : Int32) (-2 : Int32) (14 : Int32)).2.2 21 0 = 2 ∧ (h_CB_addNumber s (1 : Int32) (-2 : Int32) (14 : Int32)).2.2 21 3 = nI 1 := by
  obtain ⟨A, R, Q, ⟨cd, md, oc, wd⟩, ⟨cb, wr⟩, ⟨qc, qw⟩, n1, w0, w1, w2, q1⟩ := B_of h f (by omega) (by omega) (by omega) (by omega) (by omega)
  have e := B_number (T := 1) (w := 0) (lo := (-2 : Int32)) (hi := (14 : Int32)) cd wd (by omega) w1 (by omega) (by unfold f_CB_wantRange; rw [if_neg (by decide), if_neg (by decide), if_pos (by decide)])
  obtain ⟨g1, g2, g3⟩ := hg_addNumber (x := (1 : Int32)) e
  obtain ⟨⟨p, -⟩, -, -, z⟩ := zs_addNumber (a1 := (1 : Int32)) (a2 := (-2 : Int32)) (a3 := (14 : Int32)) (Nat.le_refl c) (⟨h, h, gq_rf⟩ : RR c s s)
  obtain ⟨f1, f2, f3, f4, f5, f6, f7⟩ := f
  refine ⟨p, g1, g2, nx9 z g1 (by rw [g2]; exact n9_nI (by omega)), BF_out g3 (fun x y q => by omega) ⟨by (repeat rw [am_set_p (by omega)]); first | exact f1 | exact am_set_q, by (repeat rw [am_set_p (by omega)]); first | exact f2 | exact am_set_q, by (repeat rw [am_set_p (by omega)]); first | exact f3 | exact am_set_q, by (repeat rw [am_set_p (by omega)]); first | exact f4 | exact am_set_q, by (repeat rw [am_set_p (by omega)]); first | exact f5 | exact am_set_q, by (repeat rw [am_set_p (by omega)]); first | exact f6 | exact am_set_q, by (repeat rw [am_set_p (by omega)]); first | exact f7 | exact am_set_q⟩, by rw [g3 _ _ (by omega)]; (repeat rw [am_set_p (by omega)]); first | exact am_set_q | exact e0 | exact e1 | exact e2, by rw [g3 _ _ (by omega)]; (repeat rw [am_set_p (by omega)]); first | exact am_set_q | exact e0 | exact e1 | exact e2, by rw [g3 _ _ (by omega)]; (repeat rw [am_set_p (by omega)]); first | exact am_set_q | exact e0 | exact e1 | exact e2⟩

theorem b_7 {c : Nat} {s : am_M} (h : pu_R c s) (f : BF s 3 2 1 0 0 0) (e0 : s 20 0 = 1) (e1 : s 21 0 = 2) (e2 : s 21 3 = nI 1) : p_CB_addLink s (1 : Int32) (0 : Int32) (1 : Int32) ∧ (h_CB_addLink s (1 : Int32) (0 : Int32) (1 : Int32)).1 = 0 ∧ (h_CB_addLink s (1 : Int32) (0 : Int32) (1 : Int32)).2.1 = nI 1 ∧ pu_R c (h_CB_addLink s (1 : Int32) (0 : Int32) (1 : Int32)).2.2 ∧ BF (h_CB_addLink s (1 : Int32) (0 : Int32) (1 : Int32)).2.2 3 2 2 0 0 0 ∧ (h_CB_addLink s (1 : Int32) (0 : Int32) (1 : Int32)).2.2 20 0 = 1 ∧ (h_CB_addLink s (1 : Int32) (0 : Int32) (1 : Int32)).2.2 21 0 = 2 ∧ (h_CB_addLink s (1 : Int32) (0 : Int32) (1 : Int32)).2.2 21 3 = nI 1 := by
  obtain ⟨A, R, Q, ⟨cd, md, oc, wd⟩, ⟨cb, wr⟩, ⟨qc, qw⟩, n1, w0, w1, w2, q1⟩ := B_of h f (by omega) (by omega) (by omega) (by omega) (by omega)
  have e := B_link (T := 1) (T2 := 0) (w := 1) (a3 := (1 : Int32)) cd wd (by omega) (by omega) w1 (by omega) (by unfold f_CB_wantRemoval; rw [if_neg (by decide), if_pos (by decide)])
  obtain ⟨g1, g2, g3⟩ := hg_addLink (x := (1 : Int32)) (y := (0 : Int32)) e
  obtain ⟨⟨p, -⟩, -, -, z⟩ := zs_addLink (a1 := (1 : Int32)) (a2 := (0 : Int32)) (a3 := (1 : Int32)) (Nat.le_refl c) (⟨h, h, gq_rf⟩ : RR c s s)
  obtain ⟨f1, f2, f3, f4, f5, f6, f7⟩ := f
  refine ⟨p, g1, g2, nx9 z g1 (by rw [g2]; exact n9_nI (by omega)), BF_out g3 (fun x y q => by omega) ⟨by (repeat rw [am_set_p (by omega)]); first | exact f1 | exact am_set_q, by (repeat rw [am_set_p (by omega)]); first | exact f2 | exact am_set_q, by (repeat rw [am_set_p (by omega)]); first | exact f3 | exact am_set_q, by (repeat rw [am_set_p (by omega)]); first | exact f4 | exact am_set_q, by (repeat rw [am_set_p (by omega)]); first | exact f5 | exact am_set_q, by (repeat rw [am_set_p (by omega)]); first | exact f6 | exact am_set_q, by (repeat rw [am_set_p (by omega)]); first | exact f7 | exact am_set_q⟩, by rw [g3 _ _ (by omega)]; (repeat rw [am_set_p (by omega)]); first | exact am_set_q | exact e0 | exact e1 | exact e2, by rw [g3 _ _ (by omega)]; (repeat rw [am_set_p (by omega)]); first | exact am_set_q | exact e0 | exact e1 | exact e2, by rw [g3 _ _ (by omega)]; (repeat rw [am_set_p (by omega)]); first | exact am_set_q | exact e0 | exact e1 | exact e2⟩

theorem b_8 {c : Nat} {s : am_M} (h : pu_R c s) (f : BF s 3 2 2 0 0 0) (hl : BL9 s) : p_CB_addReckoned s (1 : Int32) (3 : Int32) (1 : Int32) (0 : Int32) (0 : Int32) ∧ (h_CB_addReckoned s (1 : Int32) (3 : Int32) (1 : Int32) (0 : Int32) (0 : Int32)).1 = 0 ∧ (h_CB_addReckoned s (1 : Int32) (3 : Int32) (1 : Int32) (0 : Int32) (0 : Int32)).2.1 = nI 2 ∧ pu_R c (h_CB_addReckoned s (1 : Int32) (3 : Int32) (1 : Int32) (0 : Int32) (0 : Int32)).2.2 ∧ BF (h_CB_addReckoned s (1 : Int32) (3 : Int32) (1 : Int32) (0 : Int32) (0 : Int32)).2.2 3 2 3 0 0 0 ∧ (h_CB_addReckoned s (1 : Int32) (3 : Int32) (1 : Int32) (0 : Int32) (0 : Int32)).2.2 21 0 = 2 := by
  obtain ⟨A, R, Q, ⟨cd, md, oc, wd⟩, ⟨cb, wr⟩, ⟨qc, qw⟩, n1, w0, w1, w2, q1⟩ := B_of h f (by omega) (by omega) (by omega) (by omega) (by omega)
  obtain ⟨S, e, oS, cdS⟩ := B_reck (T := 1) cd md wd cb wr (by omega) (by omega) (B_form cd wd n1 w0 hl)
  rw [w1] at e
  obtain ⟨g1, g2, g3⟩ := hg_addReckoned (x1 := (1 : Int32)) e
  obtain ⟨⟨p, -⟩, -, -, z⟩ := zs_addReckoned (a1 := (1 : Int32)) (a2 := (3 : Int32)) (a3 := (1 : Int32)) (a4 := (0 : Int32)) (a5 := (0 : Int32)) (Nat.le_refl c) (⟨h, h, gq_rf⟩ : RR c s s)
  obtain ⟨f1, f2, f3, f4, f5, f6, f7⟩ := f
  have k4 : ∀ t, t < 3 → t ≠ 1 → S 4 t = s 4 t := fun t ht h1 => by
    rw [cdS.2.1 t (by omega), cd.2.1 t (by omega)]
    unfold q_mf q_mk
    repeat rw [am_set_p (by omega)]
  have k1 : S 4 1 = nI 3 := by
    rw [cdS.2.1 1 (by omega)]
    unfold q_mf q_mk
    rw [am_set_p (by omega), am_set_p (by omega), am_set_p (by omega), am_set_p (by omega), am_set_q, show q_w A 1 + 1 = 3 from by omega]
  have k0 : S 21 0 = 2 := by
    have e1 : S 21 0 = q_kc (q_mf A 1 (3 : Int32) (1 : Int32) (0 : Int32) (0 : Int32) 209 1) := cdS.2.2.1 1 (by omega)
    have e2 : s 21 0 = q_kc (A 209 1) := cd.2.2.1 1 (by omega)
    have e3 : q_mf A 1 (3 : Int32) (1 : Int32) (0 : Int32) (0 : Int32) 209 1 = A 209 1 := by
      unfold q_mf q_mk
      repeat rw [am_set_p (by omega)]
    rw [e1, e3, ← e2]; exact hl.2.1
  refine ⟨p, g1, g2, nx9 z g1 (by rw [g2]; exact n9_nI (by omega)), BF_out g3 (fun x y q => by omega) ⟨(oS _ _ (by omega)).trans f1, (k4 0 (by omega) (by omega)).trans f2, k1, (k4 2 (by omega) (by omega)).trans f4, (oS _ _ (by omega)).trans f5, (oS _ _ (by omega)).trans f6, (oS _ _ (by omega)).trans f7⟩, by rw [g3 _ _ (by omega)]; exact k0⟩

theorem b_9 {c : Nat} {s : am_M} (h : pu_R c s) (f : BF s 3 2 3 0 0 0) (e0 : s 21 0 = 2) : p_CB_addNumber s (2 : Int32) (0 : Int32) (9 : Int32) ∧ (h_CB_addNumber s (2 : Int32) (0 : Int32) (9 : Int32)).1 = 0 ∧ (h_CB_addNumber s (2 : Int32) (0 : Int32) (9 : Int32)).2.1 = nI 0 ∧ pu_R c (h_CB_addNumber s (2 : Int32) (0 : Int32) (9 : Int32)).2.2 ∧ BF (h_CB_addNumber s (2 : Int32) (0 : Int32) (9 : Int32)).2.2 3 2 3 1 0 0 ∧ (h_CB_addNumber s (2 : Int32) (0 : Int32) (9 : Int32)).2.2 21 0 = 2 := by
  obtain ⟨A, R, Q, ⟨cd, md, oc, wd⟩, ⟨cb, wr⟩, ⟨qc, qw⟩, n1, w0, w1, w2, q1⟩ := B_of h f (by omega) (by omega) (by omega) (by omega) (by omega)
  have e := B_number (T := 2) (w := 0) (lo := (0 : Int32)) (hi := (9 : Int32)) cd wd (by omega) w2 (by omega) (by unfold f_CB_wantRange; rw [if_neg (by decide), if_neg (by decide), if_pos (by decide)])
  obtain ⟨g1, g2, g3⟩ := hg_addNumber (x := (2 : Int32)) e
  obtain ⟨⟨p, -⟩, -, -, z⟩ := zs_addNumber (a1 := (2 : Int32)) (a2 := (0 : Int32)) (a3 := (9 : Int32)) (Nat.le_refl c) (⟨h, h, gq_rf⟩ : RR c s s)
  obtain ⟨f1, f2, f3, f4, f5, f6, f7⟩ := f
  refine ⟨p, g1, g2, nx9 z g1 (by rw [g2]; exact n9_nI (by omega)), BF_out g3 (fun x y q => by omega) ⟨by (repeat rw [am_set_p (by omega)]); first | exact f1 | exact am_set_q, by (repeat rw [am_set_p (by omega)]); first | exact f2 | exact am_set_q, by (repeat rw [am_set_p (by omega)]); first | exact f3 | exact am_set_q, by (repeat rw [am_set_p (by omega)]); first | exact f4 | exact am_set_q, by (repeat rw [am_set_p (by omega)]); first | exact f5 | exact am_set_q, by (repeat rw [am_set_p (by omega)]); first | exact f6 | exact am_set_q, by (repeat rw [am_set_p (by omega)]); first | exact f7 | exact am_set_q⟩, by rw [g3 _ _ (by omega)]; (repeat rw [am_set_p (by omega)]); first | exact am_set_q | exact e0⟩

theorem b_10 {c : Nat} {s : am_M} (h : pu_R c s) (f : BF s 3 2 3 1 0 0) (hl : s 21 0 = 2) : p_CB_ask s (0 : Int32) (-1 : Int32) ∧ (h_CB_ask s (0 : Int32) (-1 : Int32)).1 = 0 ∧ (h_CB_ask s (0 : Int32) (-1 : Int32)).2.1 = nI 0 ∧ pu_R c (h_CB_ask s (0 : Int32) (-1 : Int32)).2.2 ∧ BF (h_CB_ask s (0 : Int32) (-1 : Int32)).2.2 3 2 3 1 1 0 ∧ (h_CB_ask s (0 : Int32) (-1 : Int32)).2.2 21 0 = 2 ∧ BQ9 (h_CB_ask s (0 : Int32) (-1 : Int32)).2.2 := by
  obtain ⟨A, R, Q, ⟨cd, md, oc, wd⟩, ⟨cb, wr⟩, ⟨qc, qw⟩, n1, w0, w1, w2, q1⟩ := B_of h f (by omega) (by omega) (by omega) (by omega) (by omega)
  obtain ⟨S, e, oS, k1, k2, k3⟩ := B_ask0 (R := R) (src := 0) cd wd qc qw (Or.inl (by omega)) (fun z => absurd z.1 (by omega)) (by omega)
  have esw : q_sw A Q 0 = 2 := by unfold q_sw; rw [if_pos (by omega)]; exact w0
  rw [esw] at k3
  rw [q1] at e oS k1 k2 k3
  obtain ⟨g1, g2, g3⟩ := hg_ask (x := (0 : Int32)) e
  obtain ⟨⟨p, -⟩, -, -, z⟩ := zs_ask (a1 := (0 : Int32)) (a2 := (-1 : Int32)) (Nat.le_refl c) (⟨h, h, gq_rf⟩ : RR c s s)
  obtain ⟨f1, f2, f3, f4, f5, f6, f7⟩ := f
  refine ⟨p, g1, g2, nx9 z g1 (by rw [g2]; exact n9_nI (by omega)), BF_out g3 (fun x y q => by omega) ⟨(oS _ _ (by omega)).trans f1, (oS _ _ (by omega)).trans f2, (oS _ _ (by omega)).trans f3, (oS _ _ (by omega)).trans f4, k1, (oS _ _ (by omega)).trans f6, (oS _ _ (by omega)).trans f7⟩, by rw [g3 _ _ (by omega), oS _ _ (by omega)]; exact hl, ?_⟩
  exact ⟨(g3 _ _ (by omega)).trans k2, (g3 _ _ (by omega)).trans k3⟩

theorem b_11 {c : Nat} {s : am_M} (h : pu_R c s) (f : BF s 3 2 3 1 1 0) (hl : s 21 0 = 2) (hq : BQ9 s) : p_CB_ask s (0 : Int32) (1 : Int32) ∧ (h_CB_ask s (0 : Int32) (1 : Int32)).1 = 0 ∧ (h_CB_ask s (0 : Int32) (1 : Int32)).2.1 = nI 1 ∧ pu_R c (h_CB_ask s (0 : Int32) (1 : Int32)).2.2 ∧ BF (h_CB_ask s (0 : Int32) (1 : Int32)).2.2 3 2 3 1 2 0 ∧ BQ9 (h_CB_ask s (0 : Int32) (1 : Int32)).2.2 := by
  obtain ⟨A, R, Q, ⟨cd, md, oc, wd⟩, ⟨cb, wr⟩, ⟨qc, qw⟩, n1, w0, w1, w2, q1⟩ := B_of h f (by omega) (by omega) (by omega) (by omega) (by omega)
  have kA : A 209 1 = 1 := q_kc_2.mp ((cd.2.2.1 1 (by omega)).symm.trans hl)
  have hk : q_lk A Q 0 1 := ⟨0, 1, by unfold q_so; rw [if_pos (by omega)], by omega, by omega, kA⟩
  have ewx : q_wx A R Q 0 = 2 := by unfold q_wx; rw [if_pos (by omega)]; exact w0
  obtain ⟨S, e, oS, k1⟩ := B_ask1 (R := R) (src := 0) (c := 1) cd wd cb wr qc qw (Or.inl (by omega)) (fun z => absurd z.1 (by omega)) (by omega) (by omega) (by omega) hk
  rw [q1] at e oS k1
  obtain ⟨g1, g2, g3⟩ := hg_ask (x := (0 : Int32)) (y := (1 : Int32)) e
  obtain ⟨⟨p, -⟩, -, -, z⟩ := zs_ask (a1 := (0 : Int32)) (a2 := (1 : Int32)) (Nat.le_refl c) (⟨h, h, gq_rf⟩ : RR c s s)
  obtain ⟨f1, f2, f3, f4, f5, f6, f7⟩ := f
  have o : ∀ x y, ¬ ((61 ≤ x ∧ x ≤ 66) ∨ (74 ≤ x ∧ x ≤ 76) ∨ (x = 52 ∧ (y = 3 ∨ y = 4 ∨ y = 5))) → S x y = s x y := fun x y q => oS x y (by unfold q_FD; omega)
  refine ⟨p, g1, g2, nx9 z g1 (by rw [g2]; exact n9_nI (by omega)), BF_out g3 (fun x y q => by omega) ⟨(o _ _ (by omega)).trans f1, (o _ _ (by omega)).trans f2, (o _ _ (by omega)).trans f3, (o _ _ (by omega)).trans f4, k1, (o _ _ (by omega)).trans f6, (o _ _ (by omega)).trans f7⟩, ?_⟩
  exact ⟨(g3 _ _ (by omega)).trans ((o _ _ (by omega)).trans hq.1), (g3 _ _ (by omega)).trans ((o _ _ (by omega)).trans hq.2)⟩

theorem b_wx {A R Q s : am_M} (qc : q_qc s Q) (hq : BQ9 s) : Q (67 + 7 * 0) 0 = 0 ∧ q_wx A R Q 10 = 2 ∧ ¬ q_xS Q 10 := by
  have e0 : Q (67 + 7 * 0) 0 = 0 := by
    have := hq.1
    rw [qc.2 67 (by omega) (by omega)] at this
    exact this
  have e7 : Q (67 + 7 * 0) 7 = nI 2 := by
    have := hq.2
    rw [qc.2 67 (by omega) (by omega)] at this
    exact this
  have n2 : Q (67 + 7 * (10 - 10)) 0 ≠ 2 := fun z => by
    have z : Q (67 + 7 * 0) 0 = 2 := z
    rw [e0] at z; exact absurd z (by decide)
  refine ⟨e0, ?_, fun z => n2 z.2⟩
  rw [q_wx_n (A := A) (R := R) (Q := Q) (src := 10) (Or.inr n2)]
  unfold q_sw
  rw [if_neg (by omega)]
  show q_c (Q (67 + 7 * 0) 7) = 2
  rw [e7]; exact nI_clamp (by omega)
theorem b_12 {c : Nat} {s : am_M} (h : pu_R c s) (f : BF s 3 2 3 1 2 0) (hq : BQ9 s) : p_CB_askGroups s (10 : Int32) (1 : Int32) (0 : Int32) ∧ (h_CB_askGroups s (10 : Int32) (1 : Int32) (0 : Int32)).1 = 0 ∧ (h_CB_askGroups s (10 : Int32) (1 : Int32) (0 : Int32)).2.1 = nI 2 ∧ pu_R c (h_CB_askGroups s (10 : Int32) (1 : Int32) (0 : Int32)).2.2 ∧ BF (h_CB_askGroups s (10 : Int32) (1 : Int32) (0 : Int32)).2.2 3 2 3 1 3 0 ∧ BQ9 (h_CB_askGroups s (10 : Int32) (1 : Int32) (0 : Int32)).2.2 := by
  obtain ⟨A, R, Q, ⟨cd, md, oc, wd⟩, ⟨cb, wr⟩, ⟨qc, qw⟩, n1, w0, w1, w2, q1⟩ := B_of h f (by omega) (by omega) (by omega) (by omega) (by omega)
  obtain ⟨-, ewx, hx⟩ := b_wx (A := A) (R := R) qc hq
  obtain ⟨S, e, oS, k1⟩ := B_groups (R := R) (src := 10) (c1 := 1) (c2 := 0) cd wd cb wr qc qw (Or.inr ⟨by omega, by omega⟩) hx (by omega) (by omega) (by omega)
  rw [q1] at e oS k1
  obtain ⟨g1, g2, g3⟩ := hg_askGroups (x := (10 : Int32)) (y := (1 : Int32)) (z := (0 : Int32)) e
  obtain ⟨⟨p, -⟩, -, -, z⟩ := zs_askGroups (a1 := (10 : Int32)) (a2 := (1 : Int32)) (a3 := (0 : Int32)) (Nat.le_refl c) (⟨h, h, gq_rf⟩ : RR c s s)
  obtain ⟨f1, f2, f3, f4, f5, f6, f7⟩ := f
  have o : ∀ x y, ¬ ((61 ≤ x ∧ x ≤ 66) ∨ (81 ≤ x ∧ x ≤ 83) ∨ (x = 52 ∧ (y = 3 ∨ y = 4 ∨ y = 5))) → S x y = s x y := fun x y q => oS x y (by unfold q_FD; omega)
  refine ⟨p, g1, g2, nx9 z g1 (by rw [g2]; exact n9_nI (by omega)), BF_out g3 (fun x y q => by omega) ⟨(o _ _ (by omega)).trans f1, (o _ _ (by omega)).trans f2, (o _ _ (by omega)).trans f3, (o _ _ (by omega)).trans f4, k1, (o _ _ (by omega)).trans f6, (o _ _ (by omega)).trans f7⟩, ?_⟩
  exact ⟨(g3 _ _ (by omega)).trans ((o _ _ (by omega)).trans hq.1), (g3 _ _ (by omega)).trans ((o _ _ (by omega)).trans hq.2)⟩

theorem b_13 {c : Nat} {s : am_M} (h : pu_R c s) (f : BF s 3 2 3 1 3 0) (hq : BQ9 s) : (h_CB_addAct s).1 = 0 ∧ (h_CB_addAct s).2.1 = nI 0 ∧ pu_R c (h_CB_addAct s).2.2 ∧ BF (h_CB_addAct s).2.2 3 2 3 1 3 1 ∧ BQ9 (h_CB_addAct s).2.2 := by
  obtain ⟨f1, f2, f3, f4, f5, f6, f7⟩ := f
  have e := B_act f6 (by omega)
  obtain ⟨g1, g2, g3⟩ := hg_addAct e
  obtain ⟨-, -, z⟩ := zs_addAct (Nat.le_refl c) (⟨h, h, gq_rf⟩ : RR c s s)
  refine ⟨g1, g2, nx9 z g1 (by rw [g2]; exact n9_nI (by omega)), BF_out g3 (fun x y q => by omega) ⟨by rw [am_set_p (by omega)]; exact f1, by rw [am_set_p (by omega)]; exact f2, by rw [am_set_p (by omega)]; exact f3, by rw [am_set_p (by omega)]; exact f4, by rw [am_set_p (by omega)]; exact f5, am_set_q, by rw [am_set_p (by omega)]; exact f7⟩, ?_⟩
  exact ⟨(g3 _ _ (by omega)).trans (by rw [am_set_p (by omega)]; exact hq.1), (g3 _ _ (by omega)).trans (by rw [am_set_p (by omega)]; exact hq.2)⟩

theorem b_14 {c : Nat} {s : am_M} (h : pu_R c s) (f : BF s 3 2 3 1 3 1) (hq : BQ9 s) : p_CB_stepPut s (0 : Int32) (0 : Int32) (0 : Int32) (3 : Int32) ∧ (h_CB_stepPut s (0 : Int32) (0 : Int32) (0 : Int32) (3 : Int32)).1 = 0 ∧ (h_CB_stepPut s (0 : Int32) (0 : Int32) (0 : Int32) (3 : Int32)).2.1 = nI 1 ∧ pu_R c (h_CB_stepPut s (0 : Int32) (0 : Int32) (0 : Int32) (3 : Int32)).2.2 := by
  obtain ⟨A, R, Q, ⟨cd, md, oc, wd⟩, ⟨cb, wr⟩, ⟨qc, qw⟩, n1, w0, w1, w2, q1⟩ := B_of h f (by omega) (by omega) (by omega) (by omega) (by omega)
  obtain ⟨k0, ewx, -⟩ := b_wx (A := A) (R := R) qc hq
  obtain ⟨f1, f2, f3, f4, f5, f6, f7⟩ := f
  obtain ⟨S, e⟩ := B_step (R := R) (q0 := 0) (c0 := 0) (a4 := (3 : Int32)) cd wd cb wr qc qw (B_wantAct f6) (by omega) (by omega) (by rw [show 10 + 0 = 10 from rfl, ewx]; omega) k0 (fun t => by unfold f_CB_wantValue; rw [if_neg (by decide), if_neg (by decide), if_pos (by decide)]) f7
  obtain ⟨g1, g2, g3⟩ := hg_stepPut (x := (0 : Int32)) (y := (0 : Int32)) (z := (0 : Int32)) e
  obtain ⟨⟨p, -⟩, -, -, z⟩ := zs_stepPut (a1 := (0 : Int32)) (a2 := (0 : Int32)) (a3 := (0 : Int32)) (a4 := (3 : Int32)) (Nat.le_refl c) (⟨h, h, gq_rf⟩ : RR c s s)
  exact ⟨p, g1, g2, nx9 z g1 (by rw [g2]; exact n9_nI (by omega))⟩

set_option maxHeartbeats 2000000 in
theorem LS_begun {c : Nat} {s : am_M} (h : pu_R c s) (f : BF s 0 0 0 0 0 0) : p_LH_isBegun s ∧ (f_LH_isBegun s).1 = 1 ∧ pu_R c (f_LH_isBegun s).2 := by
  obtain ⟨c1, a1, r1, f1⟩ := b_1 h f (by omega)
  obtain ⟨s1, hs1⟩ : ∃ x, x = (h_CB_addTable s).2.2 := ⟨_, rfl⟩
  rw [← hs1] at r1 f1
  obtain ⟨c2, a2, r2, f2⟩ := b_1 r1 f1 (by omega)
  obtain ⟨s2, hs2⟩ : ∃ x, x = (h_CB_addTable s1).2.2 := ⟨_, rfl⟩
  rw [← hs2] at r2 f2
  obtain ⟨c3, a3, r3, f3⟩ := b_1 r2 f2 (by omega)
  obtain ⟨s3, hs3⟩ : ∃ x, x = (h_CB_addTable s2).2.2 := ⟨_, rfl⟩
  rw [← hs3] at r3 f3
  obtain ⟨p4, c4, a4, r4, f4, e4⟩ := b_4 r3 f3
  obtain ⟨s4, hs4⟩ : ∃ x, x = (h_CB_addNumber s3 (0 : Int32) (-2 : Int32) (14 : Int32)).2.2 := ⟨_, rfl⟩
  rw [← hs4] at r4 f4 e4
  obtain ⟨p5, c5, a5, r5, f5, l5⟩ := b_5 r4 f4 e4
  obtain ⟨s5, hs5⟩ : ∃ x, x = (h_CB_addLink s4 (0 : Int32) (1 : Int32) (2 : Int32)).2.2 := ⟨_, rfl⟩
  rw [← hs5] at r5 f5 l5
  obtain ⟨p6, c6, a6, r6, f6, l6⟩ := b_6 r5 f5 l5.1 l5.2.1 l5.2.2
  obtain ⟨s6, hs6⟩ : ∃ x, x = (h_CB_addNumber s5 (1 : Int32) (-2 : Int32) (14 : Int32)).2.2 := ⟨_, rfl⟩
  rw [← hs6] at r6 f6 l6
  obtain ⟨p7, c7, a7, r7, f7, l7⟩ := b_7 r6 f6 l6.1 l6.2.1 l6.2.2
  obtain ⟨s7, hs7⟩ : ∃ x, x = (h_CB_addLink s6 (1 : Int32) (0 : Int32) (1 : Int32)).2.2 := ⟨_, rfl⟩
  rw [← hs7] at r7 f7 l7
  obtain ⟨p8, c8, a8, r8, f8, l8⟩ := b_8 r7 f7 l7
  obtain ⟨s8, hs8⟩ : ∃ x, x = (h_CB_addReckoned s7 (1 : Int32) (3 : Int32) (1 : Int32) (0 : Int32) (0 : Int32)).2.2 := ⟨_, rfl⟩
  rw [← hs8] at r8 f8 l8
  obtain ⟨p9, c9, a9, r9, f9, l9⟩ := b_9 r8 f8 l8
  obtain ⟨s9, hs9⟩ : ∃ x, x = (h_CB_addNumber s8 (2 : Int32) (0 : Int32) (9 : Int32)).2.2 := ⟨_, rfl⟩
  rw [← hs9] at r9 f9 l9
  obtain ⟨p10, c10, a10, r10, f10, l10, q10⟩ := b_10 r9 f9 l9
  obtain ⟨s10, hs10⟩ : ∃ x, x = (h_CB_ask s9 (0 : Int32) (-1 : Int32)).2.2 := ⟨_, rfl⟩
  rw [← hs10] at r10 f10 l10 q10
  obtain ⟨p11, c11, a11, r11, f11, q11⟩ := b_11 r10 f10 l10 q10
  obtain ⟨s11, hs11⟩ : ∃ x, x = (h_CB_ask s10 (0 : Int32) (1 : Int32)).2.2 := ⟨_, rfl⟩
  rw [← hs11] at r11 f11 q11
  obtain ⟨p12, c12, a12, r12, f12, q12⟩ := b_12 r11 f11 q11
  obtain ⟨s12, hs12⟩ : ∃ x, x = (h_CB_askGroups s11 (10 : Int32) (1 : Int32) (0 : Int32)).2.2 := ⟨_, rfl⟩
  rw [← hs12] at r12 f12 q12
  obtain ⟨c13, a13, r13, f13, q13⟩ := b_13 r12 f12 q12
  obtain ⟨s13, hs13⟩ : ∃ x, x = (h_CB_addAct s12).2.2 := ⟨_, rfl⟩
  rw [← hs13] at r13 f13 q13
  obtain ⟨p14, c14, a14, r14⟩ := b_14 r13 f13 q13
  obtain ⟨s14, hs14⟩ : ∃ x, x = (h_CB_stepPut s13 (0 : Int32) (0 : Int32) (0 : Int32) (3 : Int32)).2.2 := ⟨_, rfl⟩
  rw [← hs14] at r14
  unfold p_LH_isBegun f_LH_isBegun
  rw [← hs1]
  rw [← hs2]
  rw [← hs3]
  rw [← hs4]
  rw [← hs5]
  rw [← hs6]
  rw [← hs7]
  rw [← hs8]
  rw [← hs9]
  rw [← hs10]
  rw [← hs11]
  rw [← hs12]
  rw [← hs13]
  rw [← hs14]
  rw [if_pos (show _ = (0 : Int32) from a1), if_pos (show _ = (1 : Int32) from a2), if_pos (show _ = (2 : Int32) from a3), if_pos (show _ = (0 : Int32) from a4), if_pos (show _ = (1 : Int32) from a5), if_pos (show _ = (0 : Int32) from a6), if_pos (show _ = (1 : Int32) from a7), if_pos (show _ = (2 : Int32) from a8), if_pos (show _ = (0 : Int32) from a9), if_pos (show _ = (0 : Int32) from a10), if_pos (show _ = (1 : Int32) from a11), if_pos (show _ = (2 : Int32) from a12), if_pos (show _ = (0 : Int32) from a13), if_pos (show _ = (1 : Int32) from a14)]
  exact ⟨⟨c1, fun _ => ⟨c2, fun _ => ⟨c3, fun _ => ⟨p4, c4, fun _ => ⟨p5, c5, fun _ => ⟨p6, c6, fun _ => ⟨p7, c7, fun _ => ⟨p8, c8, fun _ => ⟨p9, c9, fun _ => ⟨p10, c10, fun _ => ⟨p11, c11, fun _ => ⟨p12, c12, fun _ => ⟨c13, fun _ => ⟨p14, c14, fun _ => trivial, fun _ => trivial⟩, fun _ => trivial⟩, fun _ => trivial⟩, fun _ => trivial⟩, fun _ => trivial⟩, fun _ => trivial⟩, fun _ => trivial⟩, fun _ => trivial⟩, fun _ => trivial⟩, fun _ => trivial⟩, fun _ => trivial⟩, fun _ => trivial⟩, fun _ => trivial⟩, fun _ => trivial⟩, rfl, r14⟩

end

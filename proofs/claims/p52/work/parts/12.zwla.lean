noncomputable section
-- the law's look at what is lost
theorem L132 {c : Nat} {s t : am_M} (h : RR c s t) (x2 x3 x4 x5 x6 x7 : Int32) : p_LH_isLostSo_127 s t x2 x3 x4 x5 x6 x7 ∧ (f_LH_isLostSo_127 s t x2 x3 x4 x5 x6 x7).1 = 1 ∧ RR c (f_LH_isLostSo_127 s t x2 x3 x4 x5 x6 x7).2.1 (f_LH_isLostSo_127 s t x2 x3 x4 x5 x6 x7).2.2 := by
  unfold p_LH_isLostSo_127 f_LH_isLostSo_127 p_LH_isLostSo_132 f_LH_isLostSo_132
  by_cases v : ((x4 >>> ((5 : Int32) &&& 31)) &&& (3 : Int32)) ≤ 0
  rotate_left
  · rw [if_neg v]
    exact ⟨⟨fun q => absurd q v, fun _ => ⟨Or.inr rfl, trivial⟩⟩, rfl, h⟩
  have p12 := PS_12 (x2 := x2) (x3 := x3) (x4 := (0 : Int32)) (x5 := (0 : Int32)) (x6 := (0 : Int32)) (x7 := (0 : Int32)) h.1
  obtain ⟨p5s, p5t, z⟩ := LS_sets_5 (Nat.le_refl c) h (x2 := x2) (x3 := x3) (x4 := (0 : Int32)) (x5 := (0 : Int32)) (x6 := (0 : Int32)) (x7 := (0 : Int32))
  have les : (f_LH_sets s (5 : Int32) x2 x3 (0 : Int32) (0 : Int32) (0 : Int32) (0 : Int32)) = bz (h_CB_drop s x2 x3) := LE_sets_5
  have le12 : (f_LH_sets s (12 : Int32) x2 x3 (0 : Int32) (0 : Int32) (0 : Int32) (0 : Int32)) = az (f_CB_wouldLoseAll s x2 x3) := LE_sets_12
  rw [if_pos v, if_neg i10, S12_2 (s := s)]
  generalize hP : f_LH_sets s (5 : Int32) x2 x3 (0 : Int32) (0 : Int32) (0 : Int32) (0 : Int32) = P at *
  generalize hT : f_LH_sets t (5 : Int32) x2 x3 (0 : Int32) (0 : Int32) (0 : Int32) (0 : Int32) = T at *
  generalize hW : f_LH_sets s (12 : Int32) x2 x3 (0 : Int32) (0 : Int32) (0 : Int32) (0 : Int32) = W at *
  rcases z with ⟨z1, z2, z3, z4⟩ | ⟨z1, z2, z3⟩
  · have e := z2.trans z1.symm
    have n1 : ¬ P.1 = 1 := by rw [z1]; decide
    have n0 : ¬ P.1 = 0 := by rw [z1]; decide
    unfold p_LH_isLostSo_215 f_LH_isLostSo_215
    rw [if_pos e, if_neg n1, if_neg n0]
    exact ⟨⟨fun _ => ⟨p12, p5s, fun q => absurd q i10, fun _ => ⟨p5t, fun _ => ⟨fun q => absurd q n1, fun _ => ⟨fun q => absurd q n0, fun _ => trivial⟩⟩, fun q => absurd e q⟩⟩, fun q => absurd v q⟩, rfl, z4⟩
  rw [les] at z1
  have hc0 := bz_n z1
  have hc1 : (f_CB_drop s x2 x3).1 = 0 := by
    have q := hc0
    unfold h_CB_drop at q
    exact q
  obtain ⟨g, S, n, eD, eA, hg⟩ := C_drop h.1 hc1
  obtain ⟨g1, g2, g3⟩ := hg_drop eD
  obtain ⟨e1, e2⟩ := bz_v g1 g2
  rw [← les] at e1 e2
  have W1 : W.1 = nI n := by rw [le12]; exact az_v eA
  have oP : q_out S P.2 (fun a _ => 207 ≤ a) := by rw [e2]; exact g3
  have pP := PS_12 (x2 := x2) (x3 := x3) (x4 := (0 : Int32)) (x5 := (0 : Int32)) (x6 := (0 : Int32)) (x7 := (0 : Int32)) z3.1
  rw [if_pos z2]
  rcases hg with ⟨gg, hu⟩ | ⟨gg, e8, hu⟩
  · have P1 : P.1 = 1 := by rw [e1, gg, if_neg i10]
    have a0 : (f_LH_sets P.2 (12 : Int32) x2 x3 (0 : Int32) (0 : Int32) (0 : Int32) (0 : Int32)).1 = 0 := by rw [LE_sets_12]; exact (az_v (hu P.2 oP)).trans nI_0
    have n0 : ¬ P.1 = 0 := by rw [P1]; exact i10
    rw [if_pos P1, if_pos a0, S12_2 (s := P.2)]
    unfold p_LH_isLostSo_215 f_LH_isLostSo_215
    rw [if_neg n0]
    exact ⟨⟨fun _ => ⟨p12, p5s, fun q => absurd q i10, fun _ => ⟨p5t, fun _ => ⟨fun _ => ⟨pP, fun _ => ⟨fun q => absurd q n0, fun _ => trivial⟩, fun q => absurd a0 q⟩, fun q => absurd P1 q⟩, fun q => absurd z2 q⟩⟩, fun q => absurd v q⟩, rfl, z3⟩
  · have P0 : P.1 = 0 := by rw [e1, gg, if_pos rfl]
    have n1 : ¬ P.1 = 1 := by rw [P0]; decide
    have a0 : (f_LH_sets P.2 (12 : Int32) x2 x3 (0 : Int32) (0 : Int32) (0 : Int32) (0 : Int32)).1 = W.1 := by rw [LE_sets_12, W1]; exact az_v (hu P.2 oP)
    have er : f_CB_reason P.2 = (8 : Int32) := (oP 123 0 (by omega)).trans e8
    rw [if_neg n1]
    unfold p_LH_isLostSo_215 f_LH_isLostSo_215
    rw [S12_2 (s := P.2), if_pos P0, if_pos a0, if_pos er]
    exact ⟨⟨fun _ => ⟨p12, p5s, fun q => absurd q i10, fun _ => ⟨p5t, fun _ => ⟨fun q => absurd q n1, fun _ => ⟨fun _ => ⟨pP, fun _ => ⟨fun _ => trivial, fun q => absurd er q⟩, fun q => absurd a0 q⟩, fun q => absurd P0 q⟩⟩, fun q => absurd z2 q⟩⟩, fun q => absurd v q⟩, rfl, z3⟩
theorem LS_lost {c : Nat} {s t : am_M} (h : RR c s t) (x2 x3 x4 : Int32) : p_LH_isLostSo s t x2 x3 x4 ∧ (f_LH_isLostSo s t x2 x3 x4).1 = 1 ∧ RR c (f_LH_isLostSo s t x2 x3 x4).2.1 (f_LH_isLostSo s t x2 x3 x4).2.2 := by
  have plow : p_LH_low s x4 (12 : Int32) := lowp (by decide)
  unfold p_LH_isLostSo f_LH_isLostSo
  generalize f_LH_low s x4 (12 : Int32) = m at *
  have p11 := PS_11 (x2 := x2) (x3 := x3) (x4 := (-1 : Int32)) (x5 := m) (x6 := (0 : Int32)) (x7 := (0 : Int32)) h.1
  obtain ⟨p4s, p4t, z⟩ := LS_sets_4 (Nat.le_refl c) h (x2 := x2) (x3 := x3) (x4 := (-1 : Int32)) (x5 := m) (x6 := (0 : Int32)) (x7 := (0 : Int32))
  have les : f_LH_sets s (4 : Int32) x2 x3 (-1 : Int32) m (0 : Int32) (0 : Int32) = bz (h_CB_narrow s x2 x3 (-1 : Int32) m) := LE_sets_4
  have le11 : f_LH_sets s (11 : Int32) x2 x3 (-1 : Int32) m (0 : Int32) (0 : Int32) = az (f_CB_wouldLose s x2 x3 (-1 : Int32) m) := LE_sets_11
  rw [S11_2 (s := s)]
  generalize hP : f_LH_sets s (4 : Int32) x2 x3 (-1 : Int32) m (0 : Int32) (0 : Int32) = P at *
  generalize hT : f_LH_sets t (4 : Int32) x2 x3 (-1 : Int32) m (0 : Int32) (0 : Int32) = T at *
  generalize hW : f_LH_sets s (11 : Int32) x2 x3 (-1 : Int32) m (0 : Int32) (0 : Int32) = W at *
  rcases z with ⟨z1, z2, z3, z4⟩ | ⟨z1, z2, z3⟩
  · have e := z2.trans z1.symm
    have nh : ¬ (f_CB_narrow s x2 x3 (-1 : Int32) m).1 = 0 := fun q => by
      rw [les] at z1
      have k := bz_t z1
      unfold h_CB_narrow at k
      exact k q
    have w1 : W.1 = -9999999 := by rw [le11]; exact az_t (fun q => nh (C_lose_iff.mp q))
    have n1 : ¬ P.1 = 1 := by rw [z1]; decide
    have n0 : ¬ P.1 = 0 := by rw [z1]; decide
    obtain ⟨y1, y2⟩ := L132 z4 x2 x3 x4 m W.1 P.1
    unfold p_LH_isLostSo_67 f_LH_isLostSo_67 p_LH_isLostSo_79 f_LH_isLostSo_79 p_LH_isLostSo_104 f_LH_isLostSo_104
    rw [if_pos e, if_pos w1, if_pos z1, if_pos rfl, if_neg n1, if_neg n0]
    exact ⟨⟨plow, p11, p4s, p4t, fun _ => ⟨fun _ => ⟨fun _ => ⟨fun _ => ⟨fun q => absurd q n1, fun _ => ⟨fun q => absurd q n0, fun _ => y1⟩⟩, fun q => absurd rfl q⟩, fun q => absurd z1 q⟩, fun q => absurd w1 q⟩, fun q => absurd e q⟩, y2⟩
  have z19 := z1
  rw [les] at z1
  have hc0 := bz_n z1
  have hc1 : (f_CB_narrow s x2 x3 (-1 : Int32) m).1 = 0 := by
    have q := hc0
    unfold h_CB_narrow at q
    exact q
  obtain ⟨g, S, n, eD, eA, n30, hg⟩ := C_narrow h.1 hc1
  obtain ⟨g1, g2, g3⟩ := hg_narrow eD
  obtain ⟨e1, e2⟩ := bz_v g1 g2
  rw [← les] at e1 e2
  have W1 : W.1 = nI n := by rw [le11]; exact az_v eA
  have nW : ¬ W.1 = -9999999 := by rw [W1]; exact n9_nI (by omega)
  have oP : q_out S P.2 (fun a _ => 207 ≤ a) := by rw [e2]; exact g3
  have pP := PS_11 (x2 := x2) (x3 := x3) (x4 := (-1 : Int32)) (x5 := m) (x6 := (0 : Int32)) (x7 := (0 : Int32)) z3.1
  obtain ⟨y1, y2⟩ := L132 z3 x2 x3 x4 m W.1 P.1
  unfold p_LH_isLostSo_67 f_LH_isLostSo_67 p_LH_isLostSo_79 f_LH_isLostSo_79 p_LH_isLostSo_104 f_LH_isLostSo_104
  rw [if_pos z2, if_neg nW, if_neg z19, if_pos rfl, S11_2 (s := P.2)]
  rcases hg with ⟨gg, hu⟩ | ⟨gg, hu⟩
  · have P1 : P.1 = 1 := by rw [e1, gg, if_neg i10]
    have n0 : ¬ P.1 = 0 := by rw [P1]; exact i10
    have a0 : (f_LH_sets P.2 (11 : Int32) x2 x3 (-1 : Int32) m (0 : Int32) (0 : Int32)).1 = 0 := by rw [LE_sets_11]; exact (az_v (hu P.2 oP)).trans nI_0
    rw [if_pos P1, if_pos a0, if_neg n0]
    exact ⟨⟨plow, p11, p4s, p4t, fun _ => ⟨fun q => absurd q nW, fun _ => ⟨fun q => absurd q z19, fun _ => ⟨fun _ => ⟨fun _ => ⟨pP, fun _ => ⟨fun q => absurd q n0, fun _ => y1⟩, fun q => absurd a0 q⟩, fun q => absurd P1 q⟩, fun q => absurd rfl q⟩⟩⟩, fun q => absurd z2 q⟩, y2⟩
  · have P0 : P.1 = 0 := by rw [e1, gg, if_pos rfl]
    have n1 : ¬ P.1 = 1 := by rw [P0]; decide
    have a0 : (f_LH_sets P.2 (11 : Int32) x2 x3 (-1 : Int32) m (0 : Int32) (0 : Int32)).1 = W.1 := by rw [LE_sets_11, W1]; exact az_v (hu P.2 oP)
    rw [if_neg n1, if_pos P0, if_pos a0]
    exact ⟨⟨plow, p11, p4s, p4t, fun _ => ⟨fun q => absurd q nW, fun _ => ⟨fun q => absurd q z19, fun _ => ⟨fun _ => ⟨fun q => absurd q n1, fun _ => ⟨fun _ => ⟨pP, fun _ => y1, fun q => absurd a0 q⟩, fun q => absurd P0 q⟩⟩, fun q => absurd rfl q⟩⟩⟩, fun q => absurd z2 q⟩, y2⟩
end

noncomputable section
-- an act that is done and taken back
theorem qr_run_rs {s A U Q V R0 : am_M} (W : q_WW A U Q V) (C : q_CC A U Q V s) (M : q_MM A U Q V s) (h8 : q_nq Q ≤ 8) (cb : q_cb s 9 10 11 R0) (mb : q_mb s R0) (wr : q_wr A R0) {k L j : Nat} (k5 : k ≤ 5) (h07 : s 0 7 = nI k) (hL : s 1 12 = nI L) (hL6 : L + 6 < 100000) (ah : q_ah s) (hj : j < 4) (ha : f_CB_wantAct s (nI j) = 0) : ∃ B T, f_CB_run s (nI j) = (0, q_good B, T) ∧ q_fd T 123 0 B ∧ (B ≠ [] → q_rs B) := by
  have c0 : ¬ nI k < 0 := qz (by omega)
  have c6 : ¬ (6 : Int32) ≤ nI k := ql_6 (by omega)
  have ck : (nI k).toNatClampNeg = k := nI_clamp (by omega)
  obtain ⟨m, m6, hm⟩ := ah.1 k (by omega)
  have cm : (nI (183 + 4 * m)).toNatClampNeg = 183 + 4 * m := nI_clamp (by omega)
  obtain ⟨pc, s1, hs1, o1, cb1⟩ := qcp (q_bl_a m m6) q_bl_8 (by omega) (by omega) cb
  have eA : f_CB_keepAhead s = s1 := by
    unfold f_CB_keepAhead
    rw [h07, if_neg c0, if_neg c6, ck, hm, cm]; exact hs1
  obtain ⟨lk1, lk2, -⟩ := qv_lk j hj
  have cj : (nI j).toNatClampNeg = j := nI_clamp (by omega)
  obtain ⟨C1, C2, C3, C4, C5⟩ := C
  have CC1 : q_CC A U Q V s1 := ⟨q_cd_out o1 (fun a b q => by omega) C1, q_oc_out o1 (fun a b q => by omega) C2, q_uc_out o1 (fun a b q => by omega) C3, q_qc_out o1 (fun a b q => by omega) C4, fun a q1 q2 => by funext b; rw [o1 a b (by omega)]; exact congrFun (C5 a q1 q2) b⟩
  have cbS : q_cb s1 9 10 11 R0 := q_cb_out o1 (fun a b q => by omega) cb
  have L1 : s1 1 12 = nI L := by rw [o1 _ _ (by omega)]; exact hL
  have hst : q_c (V (126 + 14 * j) 1) ≤ 0 + 6 := by have := (W.2.2.2 j hj).2.1; omega
  have F : am_F = 5100 := am_F_eq
  obtain ⟨B0, sc0, sm9, R9, L9, -, f0, -, -, ⟨S1, -, -, -, S5, -⟩, -⟩ := qs_loop W hj (nI j) 6 0 am_F am_F s1 s R0 L hst (by omega) (by omega) (by omega) CC1 M cbS mb wr L1 hL6
  have e : ∀ a b, a = 0 ∨ a = 182 → sc0 a b = s a b := fun a b q => by rw [S1 a b (by unfold q_FC; omega), o1 a b (by omega)]
  obtain ⟨-, t0, e0, q0, fd0, -⟩ := qc_end (R0 := R0) (by rw [e _ _ (by omega)]; exact h07) k5 ⟨fun j hj => by rw [e _ _ (by omega)]; exact ah.1 j hj, fun i j hi hj q => by rw [e _ _ (by omega), e _ _ (by omega)] at q; exact ah.2 i j hi hj q⟩ (fun m' hm' q => by
    rw [e _ _ (by omega), hm] at q
    have := (nI_eq (a := 183 + 4 * m) (b := 183 + 4 * m') (by omega) (by omega)).mp q
    have em : m' = m := by omega
    subst em
    exact ⟨fun u hu => by rw [S1 _ _ (by unfold q_FC; omega)]; exact cb1.1 u hu, fun u hu => by rw [S1 _ _ (by unfold q_FC; omega)]; exact cb1.2.1 u hu, fun u hu hh => by rw [S1 _ _ (by unfold q_FC; omega)]; exact cb1.2.2 u hu hh⟩) (fun h => (S5 h).1)
  rw [nI_0, e0] at f0
  refine ⟨B0, t0, ?_, fd0, fun h => (S5 h).2.2⟩
  unfold f_CB_run
  rw [if_pos ha, eA, cj, lk1, f0]
theorem RR_up9 {c d : Nat} (hcd : c ≤ d) {s t : am_M} (h : RR c s t) : RR d s t := ⟨h.1.mono hcd, h.2.1.mono hcd, h.2.2⟩
theorem C_run {c : Nat} {s : am_M} {x : Int32} (h : pu_R c s) (hc : c ≤ 4000) (h0 : (f_CB_run s x).1 = 0) : ∃ k g T, k ≤ 5 ∧ s 0 7 = nI k ∧ f_CB_run s x = (0, g, T) ∧ ((g = 1 ∧ T 123 0 = 0 ∧ T 0 7 = nI (if k < 5 then k + 1 else 5)) ∨ (g = 0 ∧ ¬ T 123 0 ≤ 0 ∧ T 0 7 = nI k)) := by
  have h' := h
  obtain ⟨hP, Z, hZ⟩ := h
  obtain ⟨cd, oc, md, wd⟩ : q_x1 s (Z 6) := hZ 1
  obtain ⟨uc, um, uw⟩ := q_x2_p (hZ 2 : q_x2 s (Z 7))
  obtain ⟨cb, mb, wr⟩ : q_x3 s (Z 6) (Z 8) := hZ 3
  obtain ⟨qc, qm, qw⟩ : q_x5 s (Z 6) (Z 11) := hZ 5
  obtain ⟨vc, vm, vw⟩ : q_x6 s (Z 6) (Z 11) (Z 12) := hZ 6
  have h8 := qw.1.2
  have n4 := wd.1.2
  obtain ⟨k, L, k5, Lc, L1, h1, h2, h3, ah, sl, se, fo⟩ : q_x4 c s Z := hZ 4
  obtain ⟨n, hn4, A1, A2, A3⟩ := qv_act h'.nact x
  rcases q_in_c n (by omega) x with g | ⟨g, j, hj, rfl⟩
  · rw [g, if_pos rfl] at A1
    unfold f_CB_run at h0
    rw [A1, if_neg (by decide)] at h0
    exact absurd (show (1 : Nat) = 0 from h0) (by decide)
  rw [g, if_neg i10] at A1
  obtain ⟨B, T, t, R', L', m, m6, hm, fC, pC, oT, cbk, lT, LL, LL6, fdT, pM, fM, oM, t0, t2, fdt, CC, MM, hfail, hok⟩ := qr_run (A := Z 6) (U := Z 7) (Q := Z 11) (V := Z 12) ⟨wd, uw, qw, vw⟩ ⟨cd, oc, uc, qc, fun a q1 q2 => vc a q1 q2⟩ ⟨md, um, qm, vm⟩ h8 cb mb wr k5 h1 h2 h3 (by omega) ah (fun i hi => ⟨_, (sl i hi).2.1⟩) (show j < 4 by omega) A1
  obtain ⟨B0, T0, f0, fd0, rs⟩ := qr_run_rs (A := Z 6) (U := Z 7) (Q := Z 11) (V := Z 12) ⟨wd, uw, qw, vw⟩ ⟨cd, oc, uc, qc, fun a q1 q2 => vc a q1 q2⟩ ⟨md, um, qm, vm⟩ h8 cb mb wr k5 h1 h3 (by omega) ah (show j < 4 by omega) A1
  have e := fC.symm.trans f0
  obtain ⟨-, e2⟩ := Prod.mk.inj e
  obtain ⟨e3, e4⟩ := Prod.mk.inj e2
  refine ⟨k, q_good B, T, k5, h1, fC, ?_⟩
  rcases q_good_c B with ⟨g1, g2, -⟩ | ⟨g1, g2, -⟩
  · obtain ⟨-, -, -, -, hh⟩ := hok g1
    refine Or.inl ⟨g2, by rw [fdT.1, g1]; rfl, ?_⟩
    rcases hh with ⟨y1, y2, -⟩ | ⟨y1, y2, -⟩
    · rw [if_pos y1]; exact y2
    · rw [if_neg (by omega)]; exact y2
  · obtain ⟨-, -, y, -⟩ := hfail g1
    refine Or.inr ⟨g2, ?_, y⟩
    have n0 : B0 ≠ [] := fun z => by
      rw [e3, z] at g2
      exact absurd g2 (by decide)
    rw [e4, fd0.1]
    have r0 := rs n0
    match B0, n0, r0 with
    | [], n0, _ => exact absurd rfl n0
    | a :: l, _, r0 =>
      have ra := r0 a (by simp)
      show ¬ nI a.1 ≤ 0
      rw [← nI_0]
      exact nI_ge (by omega) (by omega)
theorem C_undo {c k : Nat} {s : am_M} (h : pu_R c s) (hk : k < 5) (h1 : s 0 7 = nI (k + 1)) : ∃ T, f_CB_undo s = (0, nI k, T) ∧ T 0 7 = nI k := by
  obtain ⟨hP, Z, hZ⟩ := h
  obtain ⟨k9, L, k5, Lc, L1, h19, h2, h3, ah, sl, se, fo⟩ : q_x4 c s Z := hZ 4
  have ek : k9 = k + 1 := (nI_eq (by omega) (by omega)).mp (h19.symm.trans h1)
  subst ek
  have c1 : ¬ s 0 7 < 1 := by rw [h1]; exact qu_1 (by omega) (by omega)
  have c2 : s 0 7 ≤ 5 := by rw [h1]; exact nI_le (b := 5) (by omega) (by decide)
  have es : s 0 7 - 1 = nI k := by rw [h1]; exact q_subI k 1
  obtain ⟨m, m6, hm⟩ := ah.1 k (by omega)
  have e182 : am_set s 0 7 (nI k) 182 k = nI (183 + 4 * m) := by rw [am_set_p (by omega)]; exact hm
  obtain ⟨cbk, mhk, wrk, sek, lek, lek2⟩ := sl k (by omega)
  have cbk := cbk m m6 hm
  have cbk' : q_cb (am_set s 0 7 (nI k)) (184 + 4 * m) (185 + 4 * m) (186 + 4 * m) (Z (20 + k)) := ⟨fun u hu => by rw [am_set_o (by omega)]; exact cbk.1 u hu, fun u hu => by rw [am_set_o (by omega)]; exact cbk.2.1 u hu, fun u hu hh => by rw [am_set_o (by omega)]; exact cbk.2.2 u hu hh⟩
  obtain ⟨pc, t1, ht1, o1, cb1⟩ := qcp q_bl_8 (q_bl_a m m6) (by omega) (by omega) cbk'
  refine ⟨t1, ?_, by rw [o1 0 7 (by omega), am_set_q]⟩
  unfold f_CB_undo
  rw [if_neg c1, if_pos c2, es, am_set_q, nI_clamp (n := k) (by omega), e182, nI_clamp (n := 183 + 4 * m) (by omega), ht1, o1 0 7 (by omega), am_set_q]
theorem hg_run {u S : am_M} {x v : Int32} (e : f_CB_run u x = (0, v, S)) : (h_CB_run u x).1 = 0 ∧ (h_CB_run u x).2.1 = v ∧ q_out S (h_CB_run u x).2.2 (fun a _ => 207 ≤ a) := by
  have e0 : (f_CB_run u x).1 = 0 := by rw [e]
  refine ⟨e0, by show (f_CB_run u x).2.1 = v; rw [e], ?_⟩
  show q_out S (if (f_CB_run u x).1 = 0 then lo (f_CB_run u x).2.2 (f_MO_run (f_LA_run u x).2 x).2 else (f_CB_run u x).2.2) _
  rw [if_pos e0, e]
  exact lo_out
theorem hg_undo {u S : am_M} {v : Int32} (e : f_CB_undo u = (0, v, S)) : (h_CB_undo u).1 = 0 ∧ (h_CB_undo u).2.1 = v ∧ q_out S (h_CB_undo u).2.2 (fun a _ => 207 ≤ a) := by
  have e0 : (f_CB_undo u).1 = 0 := by rw [e]
  refine ⟨e0, by show (f_CB_undo u).2.1 = v; rw [e], ?_⟩
  show q_out S (if (f_CB_undo u).1 = 0 then lo (f_CB_undo u).2.2 (f_MO_undo (f_LA_undo u).2).2 else (f_CB_undo u).2.2) _
  rw [if_pos e0, e]
  exact lo_out
theorem act122_0 {e : Nat} {u t : am_M} {x2 x3 : Int32} (r : RR e u (f_LH_does t (11 : Int32) x2 (0 : Int32) (0 : Int32)).2) (p2 : p_LH_does t (11 : Int32) x2 (0 : Int32) (0 : Int32)) (e1 : (f_LH_does t (11 : Int32) x2 (0 : Int32) (0 : Int32)).1 = 0) : p_LH_isActSo_117 u t x2 x3 (0 : Int32) ∧ (f_LH_isActSo_117 u t x2 x3 (0 : Int32)).1 = 1 ∧ RR e (f_LH_isActSo_117 u t x2 x3 (0 : Int32)).2.1 (f_LH_isActSo_117 u t x2 x3 (0 : Int32)).2.2 := by
  unfold p_LH_isActSo_117 f_LH_isActSo_117 p_LH_isActSo_122 f_LH_isActSo_122
  obtain ⟨a1, a2, a3⟩ := LS_alike r
  rw [if_neg i10, if_pos e1, if_pos rfl, if_neg (by rw [a2]; exact i10)]
  exact ⟨⟨p2, fun q => absurd q i10, fun _ => ⟨fun _ => ⟨fun _ => ⟨a1, fun _ => trivial, fun _ => trivial⟩, fun q => absurd rfl q⟩, fun q => absurd e1 q⟩⟩, rfl, a3⟩
theorem act122_1 {e : Nat} {u t : am_M} {x2 x3 : Int32} (r : RR e u (f_LH_does (f_LH_does t (11 : Int32) x2 (0 : Int32) (0 : Int32)).2 (10 : Int32) (0 : Int32) (0 : Int32) (0 : Int32)).2) (p2 : p_LH_does t (11 : Int32) x2 (0 : Int32) (0 : Int32)) (e1 : (f_LH_does t (11 : Int32) x2 (0 : Int32) (0 : Int32)).1 = 1) (e2 : (f_LH_does (f_LH_does t (11 : Int32) x2 (0 : Int32) (0 : Int32)).2 (10 : Int32) (0 : Int32) (0 : Int32) (0 : Int32)).1 = f_CB_undoable u) (p3 : p_LH_does (f_LH_does t (11 : Int32) x2 (0 : Int32) (0 : Int32)).2 (10 : Int32) (0 : Int32) (0 : Int32) (0 : Int32)) : p_LH_isActSo_117 u t x2 x3 (1 : Int32) ∧ (f_LH_isActSo_117 u t x2 x3 (1 : Int32)).1 = 1 ∧ RR e (f_LH_isActSo_117 u t x2 x3 (1 : Int32)).2.1 (f_LH_isActSo_117 u t x2 x3 (1 : Int32)).2.2 := by
  unfold p_LH_isActSo_117 f_LH_isActSo_117 p_LH_isActSo_122 f_LH_isActSo_122
  obtain ⟨a1, a2, a3⟩ := LS_alike r
  rw [if_neg i10, if_pos e1, if_neg i10, if_pos e2, if_neg (by rw [a2]; exact i10)]
  exact ⟨⟨p2, fun q => absurd q i10, fun _ => ⟨fun _ => ⟨fun q => absurd q i10, fun _ => ⟨p3, fun _ => ⟨a1, fun _ => trivial, fun _ => trivial⟩, fun q => absurd e2 q⟩⟩, fun q => absurd e1 q⟩⟩, rfl, a3⟩
theorem act79 {e k : Nat} {u t : am_M} {x2 x3 y : Int32} (hk : k < 5) (hu : u 0 7 = nI (k + 1)) (r : RR e u (f_LH_does t (11 : Int32) x2 (0 : Int32) (0 : Int32)).2) (p2 : p_LH_does t (11 : Int32) x2 (0 : Int32) (0 : Int32)) (e1 : (f_LH_does t (11 : Int32) x2 (0 : Int32) (0 : Int32)).1 = 1) (he : e + 7 ≤ 4000) (hx : (if (5 : Int32) ≤ x3 then (4 : Int32) else x3) = nI k) : p_LH_isActSo_79 u t x2 x3 (1 : Int32) y y ∧ (f_LH_isActSo_79 u t x2 x3 (1 : Int32) y y).1 = 1 ∧ RR e (f_LH_isActSo_79 u t x2 x3 (1 : Int32) y y).2.1 (f_LH_isActSo_79 u t x2 x3 (1 : Int32) y y).2.2 := by
  obtain ⟨Tu, eU, e7⟩ := C_undo r.1 hk hu
  obtain ⟨g1, g2, g3⟩ := hg_undo eU
  obtain ⟨⟨pu, -⟩, -, -, z⟩ := zs_undo (Nat.le_refl e) r
  have ea : az (h_CB_undo u) = (nI k, (h_CB_undo u).2.2) := by unfold az; rw [if_pos g1, g2]
  rw [ea] at z
  have le : f_LH_does (f_LH_does t (11 : Int32) x2 (0 : Int32) (0 : Int32)).2 (10 : Int32) (0 : Int32) (0 : Int32) (0 : Int32) = az (h_CB_undo (f_LH_does t (11 : Int32) x2 (0 : Int32) (0 : Int32)).2) := LE_does_10
  rw [← le] at z
  rcases z with ⟨z1, -⟩ | ⟨-, z2, z3⟩
  · exact absurd z1 (n9_nI (by omega))
  obtain ⟨-, p3, -⟩ := LS_does_10 (d := e + 7) (Nat.le_refl _) he r (x2 := (0 : Int32)) (x3 := (0 : Int32)) (x4 := (0 : Int32))
  have eu : f_CB_undoable (h_CB_undo u).2.2 = nI k := (g3 0 7 (by omega)).trans e7
  have key := act122_1 (x3 := x3) (u := (h_CB_undo u).2.2) z3 p2 e1 (z2.trans eu.symm) p3
  unfold p_LH_isActSo_79 f_LH_isActSo_79 p_LH_isActSo_96 f_LH_isActSo_96
  rw [g2, if_pos rfl]
  by_cases c5 : (5 : Int32) ≤ x3
  · rw [if_pos c5] at hx ⊢
    rw [if_pos hx.symm]
    exact ⟨⟨fun _ => ⟨pu, g1, fun _ => ⟨fun _ => key.1, fun q => absurd hx.symm q⟩, fun q => absurd c5 q⟩, fun q => absurd rfl q⟩, key.2⟩
  · rw [if_neg c5] at hx ⊢
    rw [if_pos hx.symm]
    exact ⟨⟨fun _ => ⟨pu, g1, fun q => absurd q c5, fun _ => ⟨fun _ => key.1, fun q => absurd hx.symm q⟩⟩, fun q => absurd rfl q⟩, key.2⟩
theorem LS_act {c d : Nat} (hcd : c + 14 ≤ d) (hd9 : d ≤ 4000) {s t : am_M} (h : RR c s t) (x2 : Int32) : p_LH_isActSo s t x2 ∧ (f_LH_isActSo s t x2).1 = 1 ∧ RR d (f_LH_isActSo s t x2).2.1 (f_LH_isActSo s t x2).2.2 := by
  obtain ⟨p1, p2, z⟩ := LS_does_11 (d := c + 7) (Nat.le_refl _) (by omega) h (x2 := x2) (x3 := (0 : Int32)) (x4 := (0 : Int32))
  have les : f_LH_does s (11 : Int32) x2 (0 : Int32) (0 : Int32) = bz (h_CB_run s x2) := LE_does_11
  unfold p_LH_isActSo f_LH_isActSo
  generalize hP : f_LH_does s (11 : Int32) x2 (0 : Int32) (0 : Int32) = P at *
  rcases z with ⟨z1, z2, z3, z4⟩ | ⟨z1, z2, z3⟩
  · have e : (f_LH_does t (11 : Int32) x2 (0 : Int32) (0 : Int32)).1 = P.1 := z2.trans z1.symm
    rw [if_pos z1, if_pos e]
    exact ⟨⟨p1, fun _ => ⟨p2, fun _ => trivial, fun _ => trivial⟩, fun q => absurd z1 q⟩, rfl, RR_up9 (by omega) z4⟩
  have hc0 : (h_CB_run s x2).1 = 0 := by
    rcases Classical.em ((h_CB_run s x2).1 = 0) with q | q
    · exact q
    · rw [les] at z1
      unfold bz at z1
      rw [if_neg q] at z1
      exact absurd rfl z1
  have hc1 : (f_CB_run s x2).1 = 0 := by
    have q := hc0
    unfold h_CB_run at q
    exact q
  obtain ⟨k, g, T9, k5, ek, eR, hg⟩ := C_run h.1 (by omega) hc1
  obtain ⟨g1, g2, g3⟩ := hg_run eR
  have eP1 : P.1 = if g = 0 then (0 : Int32) else 1 := by
    rw [les]; unfold bz; rw [if_pos g1, g2]
    by_cases q : g = 0
    · rw [if_pos q, if_pos q]
    · rw [if_neg q, if_neg q]
  have eP2 : P.2 = (h_CB_run s x2).2.2 := by
    rw [les]; unfold bz; rw [if_pos g1, g2]
    by_cases q : g = 0
    · rw [if_pos q]
    · rw [if_neg q]
  obtain ⟨B1, B2, B3, B4, B5⟩ := Q_broken z3.1
  have r2 : RR (c + 7) (f_CB_broken P.2).2 (f_LH_does t (11 : Int32) x2 (0 : Int32) (0 : Int32)).2 := RR_12 z3 ⟨B4, B5⟩ ⟨z3.2.1, gq_rf⟩
  have eU : ∀ a b, a < 207 → a ≠ 16 → (f_CB_broken P.2).2 a b = T9 a b := fun a b q1 q2 => by
    rw [B3 a b q2, eP2]; exact g3 a b (by omega)
  have es : f_CB_undoable s = nI k := ek
  rw [if_neg z1, if_pos B2, es]
  generalize (f_CB_broken P.2).2 = u at *
  rcases hg with ⟨gg, e0, e7⟩ | ⟨gg, e0, e7⟩
  · have P1 : P.1 = 1 := by rw [eP1, gg, if_neg i10]
    have er : f_CB_reason u = 0 := (eU 123 0 (by omega) (by omega)).trans e0
    have e7u : u 0 7 = nI (if k < 5 then k + 1 else 5) := (eU 0 7 (by omega) (by omega)).trans e7
    have ed : f_CB_undoable u = nI (if k < 5 then k + 1 else 5) := e7u
    have t1 : (f_LH_does t (11 : Int32) x2 (0 : Int32) (0 : Int32)).1 = 1 := z2.trans P1
    rw [ed, P1, if_pos rfl, if_pos er]
    by_cases c5 : k < 5
    · have n5 : ¬ (5 : Int32) ≤ nI k := nI_ge (b := 5) c5 (by decide)
      rw [if_pos c5] at e7u ⊢
      obtain ⟨y1, y2, y3⟩ := act79 (x3 := nI k) (y := nI (k + 1)) c5 e7u r2 p2 t1 (by omega) (if_neg n5)
      rw [if_neg n5, nI_1]
      exact ⟨⟨p1, fun q => absurd q (by decide), fun _ => ⟨B1, fun _ => ⟨fun _ => ⟨fun _ => ⟨fun q => absurd q n5, fun _ => y1⟩, fun q => absurd er q⟩, fun q => absurd rfl q⟩, fun q => absurd B2 q⟩⟩, y2, RR_up9 (by omega) y3⟩
    · have k55 : k = 5 := by omega
      subst k55
      have n5 : (5 : Int32) ≤ nI 5 := by decide
      rw [if_neg c5] at e7u ⊢
      obtain ⟨y1, y2, y3⟩ := act79 (k := 4) (x3 := nI 5) (y := nI 5) (by omega) e7u r2 p2 t1 (by omega) (if_pos n5)
      rw [if_pos n5]
      exact ⟨⟨p1, fun q => absurd q (by decide), fun _ => ⟨B1, fun _ => ⟨fun _ => ⟨fun _ => ⟨fun _ => y1, fun q => absurd n5 q⟩, fun q => absurd er q⟩, fun q => absurd rfl q⟩, fun q => absurd B2 q⟩⟩, y2, RR_up9 (by omega) y3⟩
  · have P1 : P.1 = 0 := by rw [eP1, gg, if_pos rfl]
    have er : ¬ f_CB_reason u ≤ 0 := fun q => e0 (by rw [← eU 123 0 (by omega) (by omega)]; exact q)
    have ed : f_CB_undoable u = nI k := (eU 0 7 (by omega) (by omega)).trans e7
    have t1 : (f_LH_does t (11 : Int32) x2 (0 : Int32) (0 : Int32)).1 = 0 := z2.trans P1
    have i01 : ¬ (0 : Int32) = 1 := by decide
    obtain ⟨y1, y2, y3⟩ := act122_0 (x3 := nI k) r2 p2 t1
    rw [ed, P1, if_neg i01, if_neg er, if_pos rfl]
    exact ⟨⟨p1, fun q => absurd q (by decide), fun _ => ⟨B1, fun _ => ⟨fun q => absurd q i01, fun _ => ⟨fun q => absurd q er, fun _ => ⟨fun _ => y1, fun q => absurd rfl q⟩⟩⟩, fun q => absurd B2 q⟩⟩, y2, RR_up9 (by omega) y3⟩
end

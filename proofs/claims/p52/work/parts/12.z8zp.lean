noncomputable section
-- run: rows are removed
theorem qs_rem {A U Q V : am_M} (W : q_WW A U Q V) {q c T C N x : Nat} {x1m : Int32} (hq : q < q_nq Q) (hc : c < 54) (hT : T < 4) (hTn : T < q_nt A) (hC : C < 6) (hp : q_c (Q (69 + 7 * q) c) < 9) (hN : N ≤ 30) (hx : x < 207 ∧ am_sh x = (0, 8, 5)) (hx1 : 126 ≤ x) (hx2 : x ≤ 181) (v1 : V x 1 = nI q) (v2 : V x 2 = nI c) (rows : Nat → Nat) (hr30 : ∀ i, i < N → rows i < 30) : ∀ (d i nc nm : Nat) (sc sm R : am_M), i + d = N → d < nc → d < nm → q_CC A U Q V sc → q_MM A U Q V sm → (∀ i, i < N → sc 62 (9 * i + q_c (Q (69 + 7 * q) c)) = nI (rows i)) → (∀ i, i < N → sm 261 i = nI (rows i)) → q_cb sc 9 10 11 R → q_mb sm R → q_wr A R → ∃ B sc' sm' R', p_CB_removeAll_62 nc sc x (nI N) (nI (10 * T + C)) (nI i) ∧ f_CB_removeAll_62 nc sc x (nI N) (nI (10 * T + C)) (nI i) = (q_good B, sc') ∧ p_MO_doesRemove_59 nm sm x1m (nI N) (nI (6 * T + C)) 1 (nI i) ∧ f_MO_doesRemove_59 nm sm x1m (nI N) (nI (6 * T + C)) 1 (nI i) = (q_good B, sm') ∧ ∀ L, sc 1 12 = nI L → q_SS A U Q sc sm sc' sm' B R R' L L := by
  obtain ⟨w, uw, qw, vw⟩ := W
  have h8 := qw.1.2
  have h4 := w.1.2
  intro d
  induction d with
  | zero =>
    intro i nc nm sc sm R h1 h2 h3 CC MM hsc hsm cb mb wr
    obtain ⟨nc, rfl⟩ : ∃ k, nc = k + 1 := ⟨nc - 1, by omega⟩
    obtain ⟨nm, rfl⟩ : ∃ k, nm = k + 1 := ⟨nm - 1, by omega⟩
    have c1 : nI N ≤ nI i := nI_le (by omega) (by omega)
    unfold p_CB_removeAll_62 f_CB_removeAll_62 p_MO_doesRemove_59 f_MO_doesRemove_59
    rw [if_pos c1, if_pos c1]
    exact ⟨[], sc, sm, R, ⟨fun _ => trivial, fun z => absurd c1 z⟩, rfl, ⟨fun _ => ⟨Or.inr rfl, trivial⟩, fun z => absurd c1 z⟩, rfl, fun L hL => q_SS_0 hL cb mb wr⟩
  | succ d ih =>
    intro i nc nm sc sm R h1 h2 h3 CC MM hsc hsm cb mb wr
    obtain ⟨nc, rfl⟩ : ∃ k, nc = k + 1 := ⟨nc - 1, by omega⟩
    obtain ⟨nm, rfl⟩ : ∃ k, nm = k + 1 := ⟨nm - 1, by omega⟩
    have CC' := CC
    have MM' := MM
    obtain ⟨cd, oc, uc, qc, vc⟩ := CC'
    obtain ⟨md, um, qm, vm⟩ := MM'
    have c1 : ¬ nI N ≤ nI i := nI_ge (by omega) (by omega)
    have x1 : sc x 1 = nI q := by rw [vc x hx1 hx2]; exact v1
    have x2 : sc x 2 = nI c := by rw [vc x hx1 hx2]; exact v2
    obtain ⟨R1, R2⟩ := qa_row qc qw hq (show i < 30 by omega) hc
    have hrow := (R2 hp).trans (hsc i (by omega))
    have ci : (nI i).toNatClampNeg = i := nI_clamp (by omega)
    have hr := hr30 i (by omega)
    have em := hsm i (by omega)
    have vi : vp_in (nI i) 30 := vp_in_nI (by omega) (by omega)
    have hhas := qr_has cb hT (nI (rows i))
    obtain ⟨pr, hir⟩ := qr_isRow md w wr.we mb (nI T) (nI (rows i))
    have er : q_c (nI (rows i)) = rows i := nI_clamp (by omega)
    have eT : q_c (nI T) = T := nI_clamp (by omega)
    have hT1 : ¬ q_isT A (nI T) = 0 := by unfold q_isT; rw [q_in_1 hTn (by omega)]; exact i10
    unfold q_isR at hir
    rw [if_neg hT1, eT] at hir
    have hs30 : q_in 30 (nI (rows i)) = 1 := q_in_1 hr (by omega)
    unfold p_CB_removeAll_62 f_CB_removeAll_62 p_MO_doesRemove_59 f_MO_doesRemove_59
    rw [if_neg c1, if_neg c1, x1, x2, hrow, qd_10 (by omega), show (10 * T + C) / 10 = T from by omega, if_neg i10, ci, em, qd_6 (by omega), show (6 * T + C) / 6 = T from by omega, hhas, hir]
    unfold p_CB_removeAll_124 f_CB_removeAll_124 p_MO_doesRemove_106 f_MO_doesRemove_106 p_MO_doesRemove_111 f_MO_doesRemove_111
    by_cases hh : R 1 (30 * T + rows i) = 0
    · have nh : ¬ q_hs R T (nI (rows i)) := fun z => z.2 (by rw [er]; exact hh)
      rw [if_neg nh, if_pos rfl, if_pos rfl, nI_1 i]
      obtain ⟨B', sc', sm', R', p1, p2, p3, p4, p5⟩ := ih (i + 1) nc nm sc sm R (by omega) (by omega) (by omega) CC MM hsc hsm cb mb wr
      exact ⟨B', sc', sm', R', ⟨fun z => absurd z c1, fun _ => ⟨hx, R1, qr_phas _ _ _, fun _ => p1, fun z => absurd rfl z⟩⟩, p2, ⟨fun z => absurd z c1, fun _ => ⟨fun z => absurd z i10, fun _ => ⟨vi, pr, fun _ => p3, fun z => absurd rfl z⟩⟩⟩, p4, p5⟩
    have yh : q_hs R T (nI (rows i)) := ⟨hs30, by rw [er]; exact hh⟩
    rw [if_pos yh, if_neg i10, if_neg i10]
    obtain ⟨a1, sc1, a2, a3, a4, a5⟩ := qc_takeOut cd oc w wr cb uc uw (T := T) (r := rows i) rfl (by omega)
    obtain ⟨b1, sm1, b2, b3, b4, b5⟩ := qm_removes md w wr mb um uw (T := T) (r := rows i) rfl (by omega)
    have hgood := fun z => q_rw_wr (U := U) (G := q_gg A R (30 * T + rows i)) w wr z
    have hre := q_reck_01 w (q_rw_we (G := q_gg A R (30 * T + rows i)) wr)
    have hsr : ∀ L, q_sr R (q_reck A (q_rw A R (q_gg A R (30 * T + rows i)))) L L := fun L => ⟨fun u _ => by rw [hre.2, q_rw_0]; exact Nat.le_refl _, fun p _ => by
      rw [hre.1]
      rcases @q_rw_1 A R (q_gg A R (30 * T + rows i)) p with z | z
      · exact Or.inl z
      · exact Or.inr (Or.inl z)⟩
    have hst9 : q_rL A U R (q_gg A R (30 * T + rows i)) = [] → q_st9 A U R (q_reck A (q_rw A R (q_gg A R (30 * T + rows i)))) := fun z => Or.inr ⟨_, rfl, by
      unfold q_rL at z
      by_cases hf : q_fb A R (q_gg A R (30 * T + rows i)) < 720
      · rw [if_pos hf] at z; exact absurd z (by unfold q_fbL; simp)
      · rw [if_neg hf] at z; exact z⟩
    have hrs : q_rs (q_rL A U R (q_gg A R (30 * T + rows i))) := q_rs_rL
    generalize q_rL A U R (q_gg A R (30 * T + rows i)) = B at *
    generalize q_reck A (q_rw A R (q_gg A R (30 * T + rows i))) = RR at *
    have oc1 : q_out sc sc1 q_FC := q_out_w a3 (fun a b z => by unfold q_FC; omega)
    have om1 : q_out sm sm1 (q_FM Q) := q_out_w b3 (fun a b z => by unfold q_FM; omega)
    rw [a2, b2]
    dsimp only
    rw [nI_1 i]
    rcases q_good_c B with ⟨g1, g2, g3⟩ | ⟨g1, g2, g3⟩
    · rw [g2, if_neg i10, if_neg i10]
      rw [g3] at a4 b4
      obtain ⟨B', sc', sm', R', p1, p2, p3, p4, p5⟩ := ih (i + 1) nc nm sc1 sm1 RR (by omega) (by omega) (by omega) (q_CC_o oc1 CC) (q_MM_o h8 om1 MM) (fun u hu => by rw [a3 _ _ (by omega)]; exact hsc u hu) (fun u hu => by rw [b3 _ _ (by omega)]; exact hsm u hu) a4 b4 (hgood g1)
      refine ⟨B', sc', sm', R', ⟨fun z => absurd z c1, fun _ => ⟨hx, R1, qr_phas _ _ _, fun z => absurd z i10, fun _ => ⟨a1, fun z => absurd z i10, fun _ => p1⟩⟩⟩, p2, ⟨fun z => absurd z c1, fun _ => ⟨fun z => absurd z i10, fun _ => ⟨vi, pr, fun z => absurd z i10, fun _ => ⟨vi, b1, fun z => absurd z i10, fun _ => p3⟩⟩⟩⟩, p4, fun L hL => ?_⟩
      exact q_SS_t oc1 om1 (Nat.le_refl _) ⟨hsr L, hst9 g1⟩ (p5 L (by rw [a3 _ _ (by omega)]; exact hL))
    · rw [g2, if_pos rfl, if_pos rfl]
      have last : p_MO_doesRemove_59 nm sm1 x1m (nI N) (nI (6 * T + C)) 0 (nI (i + 1)) ∧ f_MO_doesRemove_59 nm sm1 x1m (nI N) (nI (6 * T + C)) 0 (nI (i + 1)) = (0, sm1) := by
        obtain ⟨nm, rfl⟩ : ∃ k, nm = k + 1 := ⟨nm - 1, by omega⟩
        unfold p_MO_doesRemove_59 f_MO_doesRemove_59
        rw [if_pos rfl, ite_self]
        exact ⟨⟨fun _ => ⟨Or.inl rfl, trivial⟩, fun _ => ⟨fun _ => ⟨Or.inl rfl, trivial⟩, fun z => absurd rfl z⟩⟩, rfl⟩
      refine ⟨B, sc1, sm1, R, ⟨fun z => absurd z c1, fun _ => ⟨hx, R1, qr_phas _ _ _, fun z => absurd z i10, fun _ => ⟨a1, fun _ => trivial, fun z => absurd rfl z⟩⟩⟩, by rw [g2], ⟨fun z => absurd z c1, fun _ => ⟨fun z => absurd z i10, fun _ => ⟨vi, pr, fun z => absurd z i10, fun _ => ⟨vi, b1, fun _ => last.1, fun z => absurd rfl z⟩⟩⟩⟩, by rw [g2]; exact last.2, fun L hL => ?_⟩
      exact ⟨oc1, om1, by rw [a3 _ _ (by omega)]; exact hL, Nat.le_refl _, fun _ => ⟨a5, b5, hrs⟩, fun z => absurd z g1⟩
theorem qs_dRem {A U Q V R sc sm : am_M} (W : q_WW A U Q V) (CC : q_CC A U Q V sc) (MM : q_MM A U Q V sm) (cb : q_cb sc 9 10 11 R) (mb : q_mb sm R) (wr : q_wr A R) {j k q c : Nat} (hj : j < 4) (hk : k < 6) (hkk : k < q_c (V (126 + 14 * j) 1)) (k2 : V (q_xs j k) 0 = 2) (v1 : V (q_xs j k) 1 = nI q) (hq : q < q_nq Q) (hq0 : Q (67 + 7 * q) 0 = 0) (v2 : V (q_xs j k) 2 = nI c) (hc : c < q_c (Q (67 + 7 * q) 7)) : ∃ B sc' sm' R', p_CB_removeAll sc (q_xs j k) ∧ f_CB_removeAll sc (q_xs j k) = (q_good B, sc') ∧ p_MO_doesRemove sm (nI (6 * j + k)) ∧ f_MO_doesRemove sm (nI (6 * j + k)) = (q_good B, sm') ∧ ∀ L, sc 1 12 = nI L → q_SS A U Q sc sm sc' sm' B R R' L L := by
  have W' := W
  obtain ⟨w, uw, qw, vw⟩ := W'
  have h8 := qw.1.2
  obtain ⟨l1, l2, l3, l4, l5⟩ := qv_lk j hj
  have hx : q_xs j k < 207 ∧ am_sh (q_xs j k) = (0, 8, 5) := (l5 k hk).2.1
  have hx1 : 126 ≤ q_xs j k := by unfold q_xs; omega
  have hx2 : q_xs j k ≤ 181 := by unfold q_xs; omega
  obtain ⟨N, tc, tm, hN, hc54, F1, F2, F3, K1, K2, K3, hrows⟩ := qs_rows W CC MM cb mb wr hq hq0 hc
  have ocf : q_out sc tc q_FC := q_out_w F3 (fun a b z => by unfold q_FC; unfold q_FD at z; omega)
  have omf : q_out sm tm (q_FM Q) := q_out_w K3 (fun a b z => by
    unfold q_FM
    rcases z with z | z
    · exact Or.inr (Or.inr (Or.inr (Or.inr (Or.inr (Or.inr (Or.inr (Or.inl z)))))))
    · exact Or.inr (Or.inr (Or.inr (Or.inr (Or.inr (Or.inr (Or.inr (Or.inr z))))))))
  have CC1 := q_CC_o ocf CC
  have MM1 := q_MM_o h8 omf MM
  have vc := CC.2.2.2.2
  have vc1 := CC1.2.2.2.2
  have vm := MM.2.2.2
  have qc1 := CC1.2.2.2.1
  have qm1 := MM1.2.2.1
  have cb1 := q_cb_out F3 (fun a b z => by unfold q_FD at z; omega) cb
  have mb1 := q_mb_out K3 (fun a b z => by
    rcases z with z | z
    · have := q_LD_w z; omega
    · omega) mb
  have L1 : ∀ L, sc 1 12 = nI L → tc 1 12 = nI L := fun L h => by rw [F3 _ _ (by unfold q_FD; omega)]; exact h
  obtain ⟨-, m2⟩ := vm j hj
  obtain ⟨-, -, m4, m5⟩ := m2 k hkk
  have n1 : V (128 + 14 * j + 2 * k) 0 ≠ 1 := by
    have : V (128 + 14 * j + 2 * k) 0 = 2 := k2
    rw [this]; decide
  have s57 : sm 257 (6 * j + k) = nI q := (m4 n1).1.trans v1
  have s58 : sm 258 (6 * j + k) = nI c := (m5 (Or.inr k2)).trans v2
  have tmo : ∀ a, 255 ≤ a → a ≤ 260 → tm a (6 * j + k) = sm a (6 * j + k) := fun a q1 q2 => K3 _ _ (by
    rintro (z | z)
    · have := q_LD_w z; omega
    · omega)
  have ct : (nI (6 * j + k)).toNatClampNeg = 6 * j + k := nI_clamp (by omega)
  have vt : vp_in (nI (6 * j + k)) 24 := vp_in_nI (by omega) (by omega)
  have x1 : sc (q_xs j k) 1 = nI q := by rw [vc _ hx1 hx2]; exact v1
  have y1 : tc (q_xs j k) 1 = nI q := by rw [vc1 _ hx1 hx2]; exact v1
  have y2 : tc (q_xs j k) 2 = nI c := by rw [vc1 _ hx1 hx2]; exact v2
  obtain ⟨Q1, Q2⟩ := qa_q tc (show q < 8 by omega)
  have psh : 67 + 7 * q < 207 ∧ am_sh (67 + 7 * q) = (0, 4, 17) := ⟨by omega, (qa_sh (by omega)).1⟩
  obtain ⟨O1, O2⟩ := qa_origin qc1 (show q < 8 by omega) hc54
  obtain ⟨-, -, -, -, -, -, -, -, -, e52⟩ := qm1.2 q hq
  have ix : (54 : Int32) * nI q + nI c = nI (54 * q + c) := by rw [qw_54, nI_add]
  have v6 : vp_in (nI (54 * q + c)) 648 := vp_in_nI (by omega) (by omega)
  obtain ⟨r1, r2, r3, r4, r5, r6⟩ := q_re16 tc 7 (-1) (-1) (-1)
  have fC : f_CB_removeAll sc (q_xs j k) = (if 0 ≤ Q (68 + 7 * q) c then f_CB_removeAll_62 am_F tc (q_xs j k) (nI N) (Q (68 + 7 * q) c) 0 else (if nI N = 0 then (1, tc) else (0, f_RE_set tc 16 7 (-1) (-1) (-1)))) := by
    unfold f_CB_removeAll
    rw [x1, F2]
    show (if 0 ≤ f_QU_originOf tc (f_AS_question tc (tc (q_xs j k) 1)) (tc (q_xs j k) 2) then f_CB_removeAll_62 am_F tc (q_xs j k) (nI N) (f_QU_originOf tc (f_AS_question tc (tc (q_xs j k) 1)) (tc (q_xs j k) 2)) 0 else (if nI N = 0 then ((1 : Int32), tc) else (0, f_RE_set tc 16 7 (-1) (-1) (-1)))) = _
    rw [y1, y2, Q2, O2]
  have pC : ((0 ≤ Q (68 + 7 * q) c → p_CB_removeAll_62 am_F tc (q_xs j k) (nI N) (Q (68 + 7 * q) c) 0)) → p_CB_removeAll sc (q_xs j k) := fun h => by
    unfold p_CB_removeAll
    rw [x1, F2]
    dsimp only
    rw [y1, y2, Q2, O2]
    exact ⟨hx, F1, Q1, O1, psh, h, fun _ => ⟨fun _ => trivial, fun _ => ⟨⟨r1, trivial⟩, fun _ => trivial, fun _ => trivial⟩⟩⟩
  have t57 : tm 257 (6 * j + k) = nI q := (tmo 257 (by omega) (by omega)).trans s57
  have t58 : tm 258 (6 * j + k) = nI c := (tmo 258 (by omega) (by omega)).trans s58
  have ex : tm 252 (((54 : Int32) * tm 257 (6 * j + k) + tm 258 (6 * j + k)).toNatClampNeg) = q_mc (Q (68 + 7 * q) c) := by
    rw [t57, t58, ix, nI_clamp (n := 54 * q + c) (by omega)]; exact e52 c hc54
  have fM : f_MO_doesRemove sm (nI (6 * j + k)) = (if nI N ≤ 0 then f_MO_doesRemove_53 tm (nI (6 * j + k)) (nI N) (q_mc (Q (68 + 7 * q) c)) else (if q_mc (Q (68 + 7 * q) c) = -1 then ((f_MO_isUnwritable tm).1, (f_MO_isUnwritable tm).2) else f_MO_doesRemove_53 tm (nI (6 * j + k)) (nI N) (q_mc (Q (68 + 7 * q) c)))) := by
    unfold f_MO_doesRemove
    rw [ct, s57, s58, K2]
    show (if nI N ≤ 0 then f_MO_doesRemove_53 tm (nI (6 * j + k)) (nI N) (tm 252 (((54 : Int32) * tm 257 (6 * j + k) + tm 258 (6 * j + k)).toNatClampNeg)) else (if tm 252 (((54 : Int32) * tm 257 (6 * j + k) + tm 258 (6 * j + k)).toNatClampNeg) = -1 then ((f_MO_isUnwritable tm).1, (f_MO_isUnwritable tm).2) else f_MO_doesRemove_53 tm (nI (6 * j + k)) (nI N) (tm 252 (((54 : Int32) * tm 257 (6 * j + k) + tm 258 (6 * j + k)).toNatClampNeg)))) = _
    rw [ex]
  have pM : ((nI N ≤ 0 → p_MO_doesRemove_53 tm (nI (6 * j + k)) (nI N) (q_mc (Q (68 + 7 * q) c))) ∧ (¬ nI N ≤ 0 → (q_mc (Q (68 + 7 * q) c) = -1 → ((f_MO_isUnwritable tm).1 = 0 ∨ (f_MO_isUnwritable tm).1 = 1) ∧ True) ∧ (¬ q_mc (Q (68 + 7 * q) c) = -1 → p_MO_doesRemove_53 tm (nI (6 * j + k)) (nI N) (q_mc (Q (68 + 7 * q) c))))) → p_MO_doesRemove sm (nI (6 * j + k)) := fun h => by
    unfold p_MO_doesRemove
    rw [ct, s57, s58, K2]
    dsimp only
    rw [ex, t57, t58, ix]
    exact ⟨vt, vt, K1, vt, vt, v6, h⟩
  rw [fC, fM]
  have f34 : ∃ n, am_F = n + 1 := ⟨am_F - 1, by rw [am_F_eq]⟩
  rcases hrows with g | ⟨T, C, g, hTn, hT, hC, hp, hrr⟩
  · have em1 : q_mc (-1) = -1 := by unfold q_mc; rw [if_pos rfl]
    have n0 : ¬ (0 : Int32) ≤ -1 := by decide
    rw [g] at pC pM ⊢
    rw [em1] at pM ⊢
    rw [if_neg n0]
    obtain ⟨n9, hn9⟩ := f34
    by_cases hN0 : N = 0
    · have c0 : nI N ≤ (0 : Int32) := by rw [hN0, nI_0]; exact Int32.le_refl 0
      have z0 : nI N = 0 := by rw [hN0, nI_0]
      have g53 : p_MO_doesRemove_53 tm (nI (6 * j + k)) (nI N) (-1) ∧ f_MO_doesRemove_53 tm (nI (6 * j + k)) (nI N) (-1) = (1, tm) := by
        unfold p_MO_doesRemove_53 f_MO_doesRemove_53
        rw [hn9]
        unfold p_MO_doesRemove_59 f_MO_doesRemove_59
        rw [if_pos c0]
        exact ⟨⟨fun _ => ⟨Or.inr rfl, trivial⟩, fun z => absurd c0 z⟩, rfl⟩
      rw [if_pos z0, if_pos c0]
      exact ⟨[], tc, tm, R, pC (fun z => absurd z n0), rfl, pM ⟨fun _ => g53.1, fun z => absurd c0 z⟩, g53.2, fun L hL => q_SS_t ocf omf (Nat.le_refl _) q_sR_0 (q_SS_0 (L1 L hL) cb1 mb1 wr)⟩
    · have c0 : ¬ nI N ≤ (0 : Int32) := by rw [← nI_0]; exact nI_ge (by omega) (by omega)
      have z0 : ¬ nI N = 0 := fun z => hN0 ((qe_0 (by omega)).mp z)
      rw [if_neg z0, if_neg c0, if_pos rfl]
      refine ⟨q_L7, f_RE_set tc 16 7 (-1) (-1) (-1), q_td tm 7 (-1) (-1) (-1), R, pC (fun z => absurd z n0), rfl, pM ⟨fun z => absurd z c0, fun _ => ⟨fun _ => ⟨Or.inl rfl, trivial⟩, fun z => absurd rfl z⟩⟩, rfl, fun L hL => ?_⟩
      refine ⟨q_out_t ocf (q_out_w r2 (fun a b z => by unfold q_FC; omega)), q_out_t omf (q_out_w (q_td_o _ _ _ _ _) (fun a b z => by unfold q_FM; omega)), by rw [r2 _ _ (by omega)]; exact L1 L hL, Nat.le_refl _, fun _ => ⟨⟨r3, r4, r5, r6⟩, q_td_v _ _ _ _ _, q_rs_7⟩, fun z => absurd z (by unfold q_L7; simp)⟩
  have nm := q_m1_ne (n := 6 * T + C) (by omega)
  have n0 : (0 : Int32) ≤ nI (10 * T + C) := nI_le (a := 0) (Nat.zero_le _) (by omega)
  obtain ⟨rows, hr⟩ : ∃ rows : Nat → Nat, ∀ i, i < N → rows i < 30 ∧ tc 62 (9 * i + q_c (Q (69 + 7 * q) c)) = nI (rows i) ∧ tm 261 i = nI (rows i) := by
    refine ⟨fun i => q_c (tm 261 i), fun i hi => ?_⟩
    obtain ⟨r, r1, -, r3, r4⟩ := hrr i hi
    have e : q_c (tm 261 i) = r := by rw [r4]; exact nI_clamp (by omega)
    exact ⟨by show q_c (tm 261 i) < 30; rw [e]; exact r1, by show _ = nI (q_c (tm 261 i)); rw [e]; exact r3, by show _ = nI (q_c (tm 261 i)); rw [e]; exact r4⟩
  obtain ⟨B, sc', sm', R', p1, p2, p3, p4, p5⟩ := qs_rem W (x1m := nI (6 * j + k)) hq hc54 hT hTn hC hp hN hx hx1 hx2 v1 v2 rows (fun i hi => (hr i hi).1) N 0 am_F am_F tc tm R (by omega) (by rw [am_F_eq]; omega) (by rw [am_F_eq]; omega) CC1 MM1 (fun i hi => (hr i hi).2.1) (fun i hi => (hr i hi).2.2) cb1 mb1 wr
  rw [nI_0] at p1 p2 p3 p4
  rw [g] at pC pM ⊢
  rw [q_mc_I (by omega) hC] at pM ⊢
  rw [if_pos n0, if_neg nm, ite_self]
  exact ⟨B, sc', sm', R', pC (fun _ => p1), p2, pM ⟨fun _ => p3, fun _ => ⟨fun z => absurd z nm, fun _ => p3⟩⟩, p4, fun L hL => q_SS_t ocf omf (Nat.le_refl _) q_sR_0 (p5 L (L1 L hL))⟩
end

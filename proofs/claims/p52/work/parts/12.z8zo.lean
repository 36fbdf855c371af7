noncomputable section
-- run: a number is put
theorem q_SS_0 {A U Q sc sm R : am_M} {L : Nat} (hL : sc 1 12 = nI L) (cb : q_cb sc 9 10 11 R) (mb : q_mb sm R) (wr : q_wr A R) : q_SS A U Q sc sm sc sm [] R R L L :=
  ⟨fun _ _ _ => rfl, fun _ _ _ => rfl, hL, Nat.le_refl _, fun q => absurd rfl q, fun _ => ⟨cb, mb, wr, q_sR_0⟩⟩
theorem q_SS_t {A U Q sc sm sc1 sm1 sc' sm' R R1 R' : am_M} {B : List q_It} {L L1 L' : Nat} (o1 : q_out sc sc1 q_FC) (o2 : q_out sm sm1 (q_FM Q)) (hL : L ≤ L1) (sr : q_sR A U R R1 L L1) (h : q_SS A U Q sc1 sm1 sc' sm' B R1 R' L1 L') : q_SS A U Q sc sm sc' sm' B R R' L L' := by
  obtain ⟨h1, h2, h3, h4, h5, h6⟩ := h
  refine ⟨q_out_t o1 h1, q_out_t o2 h2, h3, by omega, h5, fun q => ?_⟩
  obtain ⟨k1, k2, k3, k4⟩ := h6 q
  exact ⟨k1, k2, k3, q_sR_t sr k4 hL h4⟩
theorem qs_put {A U Q V : am_M} (W : q_WW A U Q V) {q c T C N x its : Nat} {v : Int32} (hq : q < q_nq Q) (hc : c < 54) (hT : T < 4) (hC : C < 6) (hst : A 209 (6 * T + C) = 0 ∨ A 209 (6 * T + C) = 1) (hv : q_v v) (hp : q_c (Q (69 + 7 * q) c) < 9) (hN : N ≤ 30) (hx : x < 207 ∧ am_sh x = (0, 8, 5)) (hx1 : 126 ≤ x) (hx2 : x ≤ 181) (v1 : V x 1 = nI q) (v2 : V x 2 = nI c) (v3 : V x 3 = v) (hits : its < 24) (rows : Nat → Nat) (hr30 : ∀ i, i < N → rows i < 30) : ∀ (d i nc nm : Nat) (sc sm R : am_M), i + d = N → d < nc → d < nm → q_CC A U Q V sc → q_MM A U Q V sm → (∀ i, i < N → sc 62 (9 * i + q_c (Q (69 + 7 * q) c)) = nI (rows i)) → (∀ i, i < N → sm 261 i = nI (rows i)) → sm 259 its = v → q_cb sc 9 10 11 R → q_mb sm R → q_wr A R → ∃ B sc' sm' R', p_CB_putInAll_34 nc sc x (nI N) (nI (10 * T + C)) (nI i) ∧ f_CB_putInAll_34 nc sc x (nI N) (nI (10 * T + C)) (nI i) = (q_good B, sc') ∧ p_MO_doesPut_54 nm sm (nI its) (nI N) (nI (6 * T + C)) 1 (nI i) ∧ f_MO_doesPut_54 nm sm (nI its) (nI N) (nI (6 * T + C)) 1 (nI i) = (q_good B, sm') ∧ ∀ L, sc 1 12 = nI L → q_SS A U Q sc sm sc' sm' B R R' L L := by
  obtain ⟨w, uw, qw, vw⟩ := W
  have h8 := qw.1.2
  intro d
  induction d with
  | zero =>
    intro i nc nm sc sm R h1 h2 h3 CC MM hsc hsm h59 cb mb wr
    obtain ⟨nc, rfl⟩ : ∃ k, nc = k + 1 := ⟨nc - 1, by omega⟩
    obtain ⟨nm, rfl⟩ : ∃ k, nm = k + 1 := ⟨nm - 1, by omega⟩
    have c1 : nI N ≤ nI i := nI_le (by omega) (by omega)
    unfold p_CB_putInAll_34 f_CB_putInAll_34 p_MO_doesPut_54 f_MO_doesPut_54
    rw [if_pos c1, if_pos c1]
    exact ⟨[], sc, sm, R, ⟨fun _ => trivial, fun z => absurd c1 z⟩, rfl, ⟨fun _ => ⟨Or.inr rfl, trivial⟩, fun z => absurd c1 z⟩, rfl, fun L hL => q_SS_0 hL cb mb wr⟩
  | succ d ih =>
    intro i nc nm sc sm R h1 h2 h3 CC MM hsc hsm h59 cb mb wr
    obtain ⟨nc, rfl⟩ : ∃ k, nc = k + 1 := ⟨nc - 1, by omega⟩
    obtain ⟨nm, rfl⟩ : ∃ k, nm = k + 1 := ⟨nm - 1, by omega⟩
    have CC' := CC
    have MM' := MM
    obtain ⟨cd, oc, uc, qc, vc⟩ := CC'
    obtain ⟨md, um, qm, vm⟩ := MM'
    have c1 : ¬ nI N ≤ nI i := nI_ge (by omega) (by omega)
    have x1 : sc x 1 = nI q := by rw [vc x hx1 hx2]; exact v1
    have x2 : sc x 2 = nI c := by rw [vc x hx1 hx2]; exact v2
    have x3 : sc x 3 = v := by rw [vc x hx1 hx2]; exact v3
    obtain ⟨R1, R2⟩ := qa_row qc qw hq (show i < 30 by omega) hc
    have hrow := (R2 hp).trans (hsc i (by omega))
    have ci : (nI i).toNatClampNeg = i := nI_clamp (by omega)
    have ct : (nI its).toNatClampNeg = its := nI_clamp (by omega)
    have hr := hr30 i (by omega)
    have em := hsm i (by omega)
    obtain ⟨a1, sc1, a2, a3, a4, a5, -⟩ := qc_put (v := v) cd oc w wr.we cb uc uw hT hr hC hst hv
    obtain ⟨b1, sm1, b2, b3, b4, b5⟩ := qm_put (v := v) md w wr.we mb um uw hT hr hC hv
    have hgood := fun z => q_put_wr (U := U) (v := v) w wr hv hst hT hr hC z
    have hre := q_we_reck w (q_put_we (x := 180 * T + 6 * rows i + C) wr.we hv)
    rw [q_put_1, q_put_0] at hre
    have hst9 : q_brk A U (q_reck A (q_put R (180 * T + 6 * rows i + C) v)) = [] → q_st9 A U R (q_reck A (q_put R (180 * T + 6 * rows i + C) v)) := fun z => Or.inr ⟨_, rfl, z⟩
    have hrs : q_rs (q_brk A U (q_reck A (q_put R (180 * T + 6 * rows i + C) v))) := q_rs_brk
    generalize q_brk A U (q_reck A (q_put R (180 * T + 6 * rows i + C) v)) = B at *
    generalize q_reck A (q_put R (180 * T + 6 * rows i + C) v) = RR at *
    have oc1 : q_out sc sc1 q_FC := q_out_w a3 (fun a b z => by unfold q_FC; omega)
    have om1 : q_out sm sm1 (q_FM Q) := q_out_w b3 (fun a b z => by unfold q_FM; omega)
    have e59 : sm1 259 its = v := by rw [b3 _ _ (by omega)]; exact h59
    unfold p_CB_putInAll_34 f_CB_putInAll_34 p_MO_doesPut_54 f_MO_doesPut_54
    rw [if_neg c1, if_neg c1, x1, x2, x3, hrow, a2, if_neg i10, ci, ct, em, h59, qr_6 (by omega), qd_6 (by omega), show (6 * T + C) / 6 = T from by omega, show (6 * T + C) % 6 = C from by omega, b2, nI_1 i]
    have vi : vp_in (nI i) 30 := vp_in_nI (by omega) (by omega)
    have vt : vp_in (nI its) 24 := vp_in_nI (by omega) (by omega)
    rcases q_good_c B with ⟨g1, g2, g3⟩ | ⟨g1, g2, g3⟩
    · rw [g2, if_neg i10]
      rw [g3] at a4 b4
      obtain ⟨B', sc', sm', R', p1, p2, p3, p4, p5⟩ := ih (i + 1) nc nm sc1 sm1 RR (by omega) (by omega) (by omega) (q_CC_o oc1 CC) (q_MM_o h8 om1 MM) (fun u hu => by rw [a3 _ _ (by omega)]; exact hsc u hu) (fun u hu => by rw [b3 _ _ (by omega)]; exact hsm u hu) e59 a4 b4 (hgood g1)
      refine ⟨B', sc', sm', R', ⟨fun z => absurd z c1, fun _ => ⟨hx, R1, a1, fun z => absurd z i10, fun _ => p1⟩⟩, p2, ⟨fun z => absurd z c1, fun _ => ⟨fun z => absurd z i10, fun _ => ⟨vi, vt, b1, p3⟩⟩⟩, p4, fun L hL => ?_⟩
      exact q_SS_t oc1 om1 (Nat.le_refl _) ⟨q_sr_0 hre.2.2 hre.2.1, hst9 g1⟩ (p5 L (by rw [a3 _ _ (by omega)]; exact hL))
    · rw [g2, if_pos rfl]
      -- the model's next turn ends
      have last : p_MO_doesPut_54 nm sm1 (nI its) (nI N) (nI (6 * T + C)) 0 (nI (i + 1)) ∧ f_MO_doesPut_54 nm sm1 (nI its) (nI N) (nI (6 * T + C)) 0 (nI (i + 1)) = (0, sm1) := by
        obtain ⟨nm, rfl⟩ : ∃ k, nm = k + 1 := ⟨nm - 1, by omega⟩
        unfold p_MO_doesPut_54 f_MO_doesPut_54
        rw [if_pos rfl, ite_self]
        exact ⟨⟨fun _ => ⟨Or.inl rfl, trivial⟩, fun _ => ⟨fun _ => ⟨Or.inl rfl, trivial⟩, fun z => absurd rfl z⟩⟩, rfl⟩
      refine ⟨B, sc1, sm1, R, ⟨fun z => absurd z c1, fun _ => ⟨hx, R1, a1, fun _ => trivial, fun z => absurd rfl z⟩⟩, by rw [g2], ⟨fun z => absurd z c1, fun _ => ⟨fun z => absurd z i10, fun _ => ⟨vi, vt, b1, last.1⟩⟩⟩, by rw [g2]; exact last.2, fun L hL => ?_⟩
      exact ⟨oc1, om1, by rw [a3 _ _ (by omega)]; exact hL, Nat.le_refl _, fun _ => ⟨a5, b5, hrs⟩, fun z => absurd z g1⟩
/-- a step of an act, as both sides have it -/
def q_xs (j k : Nat) : Nat := 128 + 14 * j + 2 * k
theorem qs_dPut {A U Q V R sc sm : am_M} (W : q_WW A U Q V) (CC : q_CC A U Q V sc) (MM : q_MM A U Q V sm) (cb : q_cb sc 9 10 11 R) (mb : q_mb sm R) (wr : q_wr A R) {j k q c : Nat} (hj : j < 4) (hk : k < 6) (hkk : k < q_c (V (126 + 14 * j) 1)) (k0 : V (q_xs j k) 0 = 0) (v1 : V (q_xs j k) 1 = nI q) (hq : q < q_nq Q) (hq0 : Q (67 + 7 * q) 0 = 0) (v2 : V (q_xs j k) 2 = nI c) (hc : c < q_c (Q (67 + 7 * q) 7)) (hv : q_v (V (q_xs j k) 3)) : ∃ B sc' sm' R', p_CB_putInAll sc (q_xs j k) ∧ f_CB_putInAll sc (q_xs j k) = (q_good B, sc') ∧ p_MO_doesPut sm (nI (6 * j + k)) ∧ f_MO_doesPut sm (nI (6 * j + k)) = (q_good B, sm') ∧ ∀ L, sc 1 12 = nI L → q_SS A U Q sc sm sc' sm' B R R' L L := by
  have W' := W
  obtain ⟨w, uw, qw, vw⟩ := W'
  have h8 := qw.1.2
  obtain ⟨l1, l2, l3, l4, l5⟩ := qv_lk j hj
  have hx : q_xs j k < 207 ∧ am_sh (q_xs j k) = (0, 8, 5) := (l5 k hk).2.1
  have hx1 : 126 ≤ q_xs j k := by unfold q_xs; omega
  have hx2 : q_xs j k ≤ 181 := by unfold q_xs; omega
  obtain ⟨N, tc, tm, hN, hc54, F1, F2, F3, K1, K2, K3, hrows⟩ := qs_rows W CC MM cb mb wr hq hq0 hc
  have ocf : q_out sc tc q_FC := q_out_w F3 (fun a b z => by unfold q_FC; unfold q_FD at z; omega)
  have omf : q_out sm tm (q_FM Q) := q_out_w K3 (fun a b z => by
    unfold q_FM
    rcases z with z | z
    · exact Or.inr (Or.inr (Or.inr (Or.inr (Or.inr (Or.inr (Or.inr (Or.inl z)))))))
    · exact Or.inr (Or.inr (Or.inr (Or.inr (Or.inr (Or.inr (Or.inr (Or.inr z))))))))
  have CC1 := q_CC_o ocf CC
  have MM1 := q_MM_o h8 omf MM
  have vc := CC.2.2.2.2
  have vc1 := CC1.2.2.2.2
  have vm := MM.2.2.2
  have qc1 := CC1.2.2.2.1
  have cd1 := CC1.1
  have md1 := MM1.1
  have qm1 := MM1.2.2.1
  have cb1 := q_cb_out F3 (fun a b z => by unfold q_FD at z; omega) cb
  have mb1 := q_mb_out K3 (fun a b z => by
    rcases z with z | z
    · have := q_LD_w z; omega
    · omega) mb
  have L1 : ∀ L, sc 1 12 = nI L → tc 1 12 = nI L := fun L h => by rw [F3 _ _ (by unfold q_FD; omega)]; exact h
  -- the model's step
  obtain ⟨-, m2⟩ := vm j hj
  obtain ⟨-, -, m4, m5⟩ := m2 k hkk
  have n1 : V (128 + 14 * j + 2 * k) 0 ≠ 1 := by
    have : V (128 + 14 * j + 2 * k) 0 = 0 := k0
    rw [this]; decide
  have s57 : sm 257 (6 * j + k) = nI q := (m4 n1).1.trans v1
  have s58 : sm 258 (6 * j + k) = nI c := (m5 (Or.inl k0)).trans v2
  have s59 : sm 259 (6 * j + k) = V (q_xs j k) 3 := (m4 n1).2
  have tmo : ∀ a, 255 ≤ a → a ≤ 260 → tm a (6 * j + k) = sm a (6 * j + k) := fun a q1 q2 => K3 _ _ (by
    rintro (z | z)
    · have := q_LD_w z; omega
    · omega)
  have ct : (nI (6 * j + k)).toNatClampNeg = 6 * j + k := nI_clamp (by omega)
  have vt : vp_in (nI (6 * j + k)) 24 := vp_in_nI (by omega) (by omega)
  have x1 : sc (q_xs j k) 1 = nI q := by rw [vc _ hx1 hx2]; exact v1
  have y1 : tc (q_xs j k) 1 = nI q := by rw [vc1 _ hx1 hx2]; exact v1
  have y2 : tc (q_xs j k) 2 = nI c := by rw [vc1 _ hx1 hx2]; exact v2
  obtain ⟨Q1, Q2⟩ := qa_q tc (show q < 8 by omega)
  have psh : 67 + 7 * q < 207 ∧ am_sh (67 + 7 * q) = (0, 4, 17) := ⟨by omega, (qa_sh (by omega)).1⟩
  obtain ⟨O1, O2⟩ := qa_origin qc1 (show q < 8 by omega) hc54
  have hw := qm_writable md1 qm1 h8 hq hc54 (by
    rcases hrows with g | ⟨T, C, g, -, hT, hC, -⟩
    · exact Or.inl g
    · exact Or.inr ⟨hq0, T, C, g, hT, hC⟩)
  have fC : f_CB_putInAll sc (q_xs j k) = f_CB_putInAll_34 am_F tc (q_xs j k) (nI N) (Q (68 + 7 * q) c) 0 := by
    unfold f_CB_putInAll
    rw [x1, F2]
    dsimp only
    rw [y1, y2, Q2, O2]
  have pC : p_CB_putInAll_34 am_F tc (q_xs j k) (nI N) (Q (68 + 7 * q) c) 0 → p_CB_putInAll sc (q_xs j k) := fun h => by
    unfold p_CB_putInAll
    rw [x1, F2]
    dsimp only
    rw [y1, y2, Q2, O2]
    exact ⟨hx, F1, Q1, O1, psh, h⟩
  have t57 : tm 257 (6 * j + k) = nI q := (tmo 257 (by omega) (by omega)).trans s57
  have t58 : tm 258 (6 * j + k) = nI c := (tmo 258 (by omega) (by omega)).trans s58
  have fM : f_MO_doesPut sm (nI (6 * j + k)) = (if nI N ≤ 0 then f_MO_doesPut_48 tm (nI (6 * j + k)) (nI N) (f_MO_writable tm (nI q) (nI c)) else (if f_MO_writable tm (nI q) (nI c) = -1 then ((f_MO_isUnwritable tm).1, (f_MO_isUnwritable tm).2) else f_MO_doesPut_48 tm (nI (6 * j + k)) (nI N) (f_MO_writable tm (nI q) (nI c)))) := by
    unfold f_MO_doesPut
    rw [ct, s57, s58, K2]
    show (if nI N ≤ 0 then f_MO_doesPut_48 tm (nI (6 * j + k)) (nI N) (f_MO_writable tm (tm 257 (6 * j + k)) (tm 258 (6 * j + k))) else (if f_MO_writable tm (tm 257 (6 * j + k)) (tm 258 (6 * j + k)) = -1 then ((f_MO_isUnwritable tm).1, (f_MO_isUnwritable tm).2) else f_MO_doesPut_48 tm (nI (6 * j + k)) (nI N) (f_MO_writable tm (tm 257 (6 * j + k)) (tm 258 (6 * j + k))))) = _
    rw [t57, t58]
  have pM : ((nI N ≤ 0 → p_MO_doesPut_48 tm (nI (6 * j + k)) (nI N) (f_MO_writable tm (nI q) (nI c))) ∧ (¬ nI N ≤ 0 → (f_MO_writable tm (nI q) (nI c) = -1 → ((f_MO_isUnwritable tm).1 = 0 ∨ (f_MO_isUnwritable tm).1 = 1) ∧ True) ∧ (¬ f_MO_writable tm (nI q) (nI c) = -1 → p_MO_doesPut_48 tm (nI (6 * j + k)) (nI N) (f_MO_writable tm (nI q) (nI c))))) → p_MO_doesPut sm (nI (6 * j + k)) := fun h => by
    unfold p_MO_doesPut
    rw [ct, s57, s58, K2]
    dsimp only
    rw [t57, t58]
    exact ⟨vt, vt, K1, vt, vt, hw.1, h⟩
  rw [fC, fM]
  -- nothing can be written
  have refuse : f_BA_isStored tc (Q (68 + 7 * q) c) = 0 → f_MO_writable tm (nI q) (nI c) = -1 → ∃ B sc' sm' R', p_CB_putInAll sc (q_xs j k) ∧ f_CB_putInAll_34 am_F tc (q_xs j k) (nI N) (Q (68 + 7 * q) c) 0 = (q_good B, sc') ∧ p_MO_doesPut sm (nI (6 * j + k)) ∧ (if nI N ≤ 0 then f_MO_doesPut_48 tm (nI (6 * j + k)) (nI N) (f_MO_writable tm (nI q) (nI c)) else (if f_MO_writable tm (nI q) (nI c) = -1 then ((f_MO_isUnwritable tm).1, (f_MO_isUnwritable tm).2) else f_MO_doesPut_48 tm (nI (6 * j + k)) (nI N) (f_MO_writable tm (nI q) (nI c)))) = (q_good B, sm') ∧ ∀ L, sc 1 12 = nI L → q_SS A U Q sc sm sc' sm' B R R' L L := fun hst hwr => by
    have f34 : ∃ n, am_F = n + 1 := ⟨am_F - 1, by rw [am_F_eq]⟩
    obtain ⟨n9, hn9⟩ := f34
    rw [hwr] at pM ⊢
    by_cases hN0 : N = 0
    · have c0 : nI N ≤ (0 : Int32) := by rw [hN0, nI_0]; exact Int32.le_refl 0
      have g34 : p_CB_putInAll_34 am_F tc (q_xs j k) (nI N) (Q (68 + 7 * q) c) 0 ∧ f_CB_putInAll_34 am_F tc (q_xs j k) (nI N) (Q (68 + 7 * q) c) 0 = (1, tc) := by
        rw [hn9]
        unfold p_CB_putInAll_34 f_CB_putInAll_34
        rw [if_pos c0]
        exact ⟨⟨fun _ => trivial, fun z => absurd c0 z⟩, rfl⟩
      have g48 : p_MO_doesPut_48 tm (nI (6 * j + k)) (nI N) (-1) ∧ f_MO_doesPut_48 tm (nI (6 * j + k)) (nI N) (-1) = (1, tm) := by
        unfold p_MO_doesPut_48 f_MO_doesPut_48
        rw [hn9]
        unfold p_MO_doesPut_54 f_MO_doesPut_54
        rw [if_pos c0]
        exact ⟨⟨fun _ => ⟨Or.inr rfl, trivial⟩, fun z => absurd c0 z⟩, rfl⟩
      rw [if_pos c0]
      exact ⟨[], tc, tm, R, pC g34.1, g34.2, pM ⟨fun _ => g48.1, fun z => absurd c0 z⟩, g48.2, fun L hL => q_SS_t ocf omf (Nat.le_refl _) q_sR_0 (q_SS_0 (L1 L hL) cb1 mb1 wr)⟩
    · have c0 : ¬ nI N ≤ (0 : Int32) := by rw [← nI_0]; exact nI_ge (by omega) (by omega)
      obtain ⟨r1, r2, r3, r4, r5, r6⟩ := q_re16 tc 7 (-1) (-1) (-1)
      have hput : ∀ x2 v9, f_BA_putThrough tc (Q (68 + 7 * q) c) x2 v9 = (0, f_RE_set tc 16 7 (-1) (-1) (-1)) := fun x2 v9 => by
        unfold f_BA_putThrough f_BA_refuse
        rw [if_pos hst]
      have pput : ∀ x2 v9, p_BA_putThrough tc (Q (68 + 7 * q) c) x2 v9 := fun x2 v9 => by
        unfold p_BA_putThrough p_BA_refuse
        exact ⟨qd_pstO _ _, fun _ => ⟨⟨r1, trivial⟩, Or.inl rfl, trivial⟩, fun z => absurd hst z⟩
      obtain ⟨R1, -⟩ := qa_row qc1 qw hq (show 0 < 30 by omega) hc54
      rw [nI_0] at R1
      have g34 : p_CB_putInAll_34 am_F tc (q_xs j k) (nI N) (Q (68 + 7 * q) c) 0 ∧ f_CB_putInAll_34 am_F tc (q_xs j k) (nI N) (Q (68 + 7 * q) c) 0 = (0, f_RE_set tc 16 7 (-1) (-1) (-1)) := by
        rw [hn9]
        unfold p_CB_putInAll_34 f_CB_putInAll_34
        rw [if_neg c0, hput, y1, y2]
        exact ⟨⟨fun z => absurd z c0, fun _ => ⟨hx, R1, pput _ _, fun _ => trivial, fun z => absurd rfl z⟩⟩, rfl⟩
      rw [if_neg c0, if_pos rfl]
      refine ⟨q_L7, f_RE_set tc 16 7 (-1) (-1) (-1), q_td tm 7 (-1) (-1) (-1), R, pC g34.1, g34.2, pM ⟨fun z => absurd z c0, fun _ => ⟨fun _ => ⟨Or.inl rfl, trivial⟩, fun z => absurd rfl z⟩⟩, rfl, fun L hL => ?_⟩
      refine ⟨q_out_t ocf (q_out_w r2 (fun a b z => by unfold q_FC; omega)), q_out_t omf (q_out_w (q_td_o _ _ _ _ _) (fun a b z => by unfold q_FM; omega)), by rw [r2 _ _ (by omega)]; exact L1 L hL, Nat.le_refl _, fun _ => ⟨⟨r3, r4, r5, r6⟩, q_td_v _ _ _ _ _, q_rs_7⟩, fun z => absurd z (by unfold q_L7; simp)⟩
  rcases hrows with g | ⟨T, C, g, hTn, hT, hC, hp, hrr⟩
  · exact refuse (by rw [g]; exact qd_stM1 _) (hw.2.1 g)
  have hst := qd_stO cd1 hT hC
  rw [← g] at hst
  by_cases hs : A 209 (6 * T + C) = 0 ∨ A 209 (6 * T + C) = 1
  rotate_left
  · rw [if_neg hs] at hst
    have := hw.2.2 T C g hT hC
    rw [if_neg hs] at this
    exact refuse hst this
  have hwr := hw.2.2 T C g hT hC
  rw [if_pos hs] at hwr
  have nm := q_m1_ne (n := 6 * T + C) (by omega)
  -- the rows, by number
  obtain ⟨rows, hr⟩ : ∃ rows : Nat → Nat, ∀ i, i < N → rows i < 30 ∧ tc 62 (9 * i + q_c (Q (69 + 7 * q) c)) = nI (rows i) ∧ tm 261 i = nI (rows i) := by
    refine ⟨fun i => q_c (tm 261 i), fun i hi => ?_⟩
    obtain ⟨r, r1, -, r3, r4⟩ := hrr i hi
    have e : q_c (tm 261 i) = r := by rw [r4]; exact nI_clamp (by omega)
    exact ⟨by show q_c (tm 261 i) < 30; rw [e]; exact r1, by show _ = nI (q_c (tm 261 i)); rw [e]; exact r3, by show _ = nI (q_c (tm 261 i)); rw [e]; exact r4⟩
  obtain ⟨B, sc', sm', R', p1, p2, p3, p4, p5⟩ := qs_put W (its := 6 * j + k) hq hc54 hT hC hs hv hp hN hx hx1 hx2 v1 v2 rfl (by omega) rows (fun i hi => (hr i hi).1) N 0 am_F am_F tc tm R (by omega) (by rw [am_F_eq]; omega) (by rw [am_F_eq]; omega) CC1 MM1 (fun i hi => (hr i hi).2.1) (fun i hi => (hr i hi).2.2) (by rw [tmo 259 (by omega) (by omega)]; exact s59) cb1 mb1 wr
  rw [nI_0] at p1 p2 p3 p4
  rw [hwr] at pM ⊢
  rw [if_neg nm, ite_self]
  rw [g] at pC ⊢
  exact ⟨B, sc', sm', R', pC p1, p2, pM ⟨fun _ => p3, fun _ => ⟨fun z => absurd z nm, fun _ => p3⟩⟩, p4, fun L hL => q_SS_t ocf omf (Nat.le_refl _) q_sR_0 (p5 L (L1 L hL))⟩
end

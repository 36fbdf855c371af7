noncomputable section
theorem op_enterInside_ok {c d : Nat} (hcd : c + 7 ≤ d) (hd9 : d ≤ 4000) : op_enterInside (pu_R c) (pu_R d) := by
  intro s a1 a2 h
  have hL9 : ∃ L, s 1 12 = nI L ∧ L + 1 ≤ d ∧ L < 100000 := by
    obtain ⟨-, Z, hZ⟩ := h
    obtain ⟨k, L, k5, Lc, L1, h1, h2, h3, -⟩ : q_x4 c s Z := hZ 4
    exact ⟨L, h3, by omega, L1⟩
  replace h := h.mono (show c ≤ d by omega)
  have h' := h
  obtain ⟨L, hL, hLd, hL1⟩ := hL9
  obtain ⟨hP, Z, hZ⟩ := h
  obtain ⟨cd, oc, md, wd⟩ : q_x1 s (Z 6) := hZ 1
  obtain ⟨uc, um, uw⟩ := q_x2_p (hZ 2 : q_x2 s (Z 7))
  obtain ⟨cb, mb, wr⟩ : q_x3 s (Z 6) (Z 8) := hZ 3
  obtain ⟨k9, L9, -, -, -, -, -, -, -, -, -, hform⟩ : q_x4 d s Z := hZ 4
  have dr : pr_draft s := hP 3
  have h4 := wd.1.2
  have hT := qd_wantC cd wd a1 a2
  have hI := qd_isC md wd a1 a2
  have hpI := qd_pisC md wd a1 a2
  have hfg := qf_good cd wd cb hform
  -- refused with a place of the exceptions
  have n50 : ∀ y : Int32, p_MO_enterInside_50 s a1 a2 0 y ∧ f_MO_enterInside_50 s a1 a2 0 y = (0, am_set s 207 0 1) := fun y => by
    unfold p_MO_enterInside_50 f_MO_enterInside_50 p_MO_enterInside_88 f_MO_enterInside_88 p_MO_enterInside_89 f_MO_enterInside_89
    rw [if_pos rfl, if_pos rfl, pr_holds1 s (by decide), if_pos rfl]
    exact ⟨⟨fun _ => ⟨fun _ => ⟨fun _ => trivial, fun q => absurd rfl q⟩, fun q => absurd rfl q⟩, fun q => absurd rfl q⟩, rfl⟩
  have mrow : (∃ T r, T < q_nt (Z 6) ∧ r < 30 ∧ s 207 28 = nI T ∧ s 207 29 = nI r ∧ Z 8 1 (30 * T + r) = 0) → p_MO_isRow s (s 207 28) (s 207 29) ∧ f_MO_isRow s (s 207 28) (s 207 29) = 0 := fun ⟨T, r, q1, q2, q3, q4, q5⟩ => by
    have h := qr_isRow md wd wr.we mb (s 207 28) (s 207 29)
    have e : q_isR (Z 6) (Z 8) (s 207 28) (s 207 29) = 0 := by
      unfold q_isR
      rw [q3, q4, show q_isT (Z 6) (nI T) = 1 from q_in_1 q1 (by omega), if_neg i10, show q_c (nI T) = T from nI_clamp (by omega), if_neg (fun z => (q_hs_I q2).mp z q5)]
    rw [e] at h; exact h
  rcases q_isC_c wd a1 a2 with g | ⟨g, T, C, ht, ht4, hc, hc6, rfl, rfl⟩
  · rw [g, if_pos rfl] at hT
    rw [g] at hI
    have hno : p_MO_enterInside s a1 a2 ∧ f_MO_enterInside s a1 a2 = (0, am_set s 207 0 1) := by
      have hrow := qr_isRow md wd wr.we mb (s 207 28) (s 207 29)
      unfold p_MO_enterInside f_MO_enterInside p_MO_enterInside_45 f_MO_enterInside_45 p_MO_enterInside_49 f_MO_enterInside_49
      rw [hI]
      refine ⟨⟨hpI, fun _ => (n50 1).1, fun _ => ⟨hrow.1, fun _ => (n50 1).1, fun _ => ⟨fun _ => (n50 0).1, fun q => absurd rfl q⟩⟩⟩, ?_⟩
      by_cases c1 : s 207 28 = -1
      · rw [if_pos c1]; exact (n50 1).2
      · rw [if_neg c1]
        by_cases c2 : f_MO_isRow s (s 207 28) (s 207 29) = 0
        · rw [if_pos c2]; exact (n50 1).2
        · rw [if_neg c2, if_pos rfl]; exact (n50 0).2
    exact on_enterInside_1 (v := 0) (s1 := s) (by unfold f_CB_enterInside; rw [hT]; rfl) (by unfold p_CB_enterInside; rw [hT]; exact ⟨qd_pwantC _ _ _, fun q => absurd q (by decide)⟩) hno.1 hno.2 am_set_q (pu_R_thrown h')
  rw [g, if_neg i10] at hT
  rw [g] at hI
  have hk : 6 * T + C < 24 := by omega
  have hK := qd_kind md wd ht4 hc6
  have ix : (6 : Int32) * nI T + nI C = nI (6 * T + C) := by rw [qw_6, nI_add]
  have n51 : p_MO_enterInside_50 s (nI T) (nI C) 1 1 ∧ f_MO_enterInside_50 s (nI T) (nI C) 1 1 = (0, am_set s 207 0 2) := by
    have z : ∀ y : Int32, p_MO_enterInside_89 s (nI T) (nI C) 1 1 y ∧ f_MO_enterInside_89 s (nI T) (nI C) 1 1 y = (0, am_set s 207 0 2) := fun y => by
      unfold p_MO_enterInside_89 f_MO_enterInside_89
      rw [if_neg i10, if_neg i10, pr_holds1 s (show (2 : Int32) ≠ 0 by decide), if_pos rfl]
      exact ⟨⟨fun q => absurd q i10, fun _ => ⟨fun q => absurd q i10, fun _ => ⟨fun _ => trivial, fun q => absurd rfl q⟩⟩⟩, rfl⟩
    unfold p_MO_enterInside_50 f_MO_enterInside_50 p_MO_enterInside_88 f_MO_enterInside_88
    rw [if_neg i10]
    refine ⟨⟨fun q => absurd q i10, fun _ => ⟨hK.1, fun _ => ⟨by rw [ix]; exact vp_in_nI hk (by omega), fun _ => (z 1).1, fun _ => (z 0).1⟩, fun _ => (z 0).1⟩⟩, ?_⟩
    by_cases c1 : f_MO_kindOf s (nI T) (nI C) = 1
    · rw [if_pos c1]
      by_cases c2 : s 212 ((6 : Int32) * nI T + nI C).toNatClampNeg = s 207 28
      · rw [if_pos c2]; exact (z 1).2
      · rw [if_neg c2]; exact (z 0).2
    · rw [if_neg c1]; exact (z 0).2
  have e0 := wr.1 T ht4
  have hfull := q_full s cb ht4 ⟨e0.1, e0.2.1⟩
  have f28 : ∀ u, q_mb u (Z 8) → u 228 T = nI (q_c (Z 8 0 T)) := fun u bu => (bu.1 T ht4).trans e0.1
  generalize hm9 : q_c (Z 8 0 T) = m at *
  rcases hfg with ⟨hG, hNo⟩ | ⟨hG, TF, r, hTF, hr30, f08, f09, m28, m29, hh⟩
  · have hno : p_MO_enterInside s (nI T) (nI C) ∧ f_MO_enterInside s (nI T) (nI C) = (0, am_set s 207 0 2) := by
      have hrow := qr_isRow md wd wr.we mb (s 207 28) (s 207 29)
      unfold p_MO_enterInside f_MO_enterInside p_MO_enterInside_45 f_MO_enterInside_45
      rw [hI]
      rcases hNo with q | q
      · rw [if_pos q]; exact ⟨⟨hpI, fun _ => n51.1, fun z => absurd q z⟩, n51.2⟩
      · have mr := mrow q
        obtain ⟨TT, rr, q1, q2, q3, q4, q5⟩ := q
        have hn : ¬ s 207 28 = -1 := fun z => by
          rw [q3] at z
          have := congrArg Int32.toInt z
          rw [nI_toInt (by omega)] at this
          have e1 : (-1 : Int32).toInt = -1 := by decide
          omega
        rw [if_neg hn, mr.2, if_pos rfl]
        exact ⟨⟨hpI, fun z => absurd z hn, fun _ => ⟨mr.1, fun _ => n51.1, fun z => absurd rfl z⟩⟩, n51.2⟩
    exact on_enterInside_2 (v := 0) (s1 := s) (by unfold f_CB_enterInside; rw [hT, hG]; rfl) (by unfold p_CB_enterInside; rw [hT, hG]; exact ⟨qd_pwantC _ _ _, fun _ => ⟨qf_p s, fun _ => trivial, fun q => absurd rfl q⟩⟩) hno.1 hno.2 am_set_q (pu_R_thrown h')
  have hnTF0 : ¬ s 207 28 = -1 := fun z => by
    rw [m28] at z
    have := congrArg Int32.toInt z
    rw [nI_toInt (by omega)] at this
    have e1 : (-1 : Int32).toInt = -1 := by decide
    omega
  have mrow1 : p_MO_isRow s (s 207 28) (s 207 29) ∧ f_MO_isRow s (s 207 28) (s 207 29) = 1 := by
    have h := qr_isRow md wd wr.we mb (s 207 28) (s 207 29)
    have e : q_isR (Z 6) (Z 8) (s 207 28) (s 207 29) = 1 := by
      unfold q_isR
      rw [m28, m29, show q_isT (Z 6) (nI TF) = 1 from q_in_1 hTF (by omega), if_neg i10, show q_c (nI TF) = TF from nI_clamp (by omega), if_pos ((q_hs_I hr30).mpr hh)]
    rw [e] at h; exact h
  by_cases hm : m < 30
  rotate_left
  · rw [if_neg hm] at hfull
    have hno : p_MO_enterInside s (nI T) (nI C) ∧ f_MO_enterInside s (nI T) (nI C) = (0, am_set s 207 0 2) := by
      have y30 : nI m = (30 : Int32) := (qe_30 (by omega)).mpr (by omega)
      unfold p_MO_enterInside f_MO_enterInside p_MO_enterInside_45 f_MO_enterInside_45
      rw [hI, if_neg hnTF0, mrow1.2, if_neg i10, if_neg i10, nI_clamp (n := T) (by omega), f28 s mb, if_pos y30]
      exact ⟨⟨hpI, fun z => absurd z hnTF0, fun _ => ⟨mrow1.1, fun z => absurd z i10, fun _ => ⟨fun z => absurd z i10, fun _ => ⟨vp_in_nI ht4 (by omega), fun _ => n51.1, fun z => absurd y30 z⟩⟩⟩⟩, n51.2⟩
    exact on_enterInside_2 (v := 0) (s1 := s) (by unfold f_CB_enterInside; rw [hT, hG, hfull.2]; rfl) (by unfold p_CB_enterInside; rw [hT, hG, hfull.2]; exact ⟨qd_pwantC _ _ _, fun _ => ⟨qf_p s, fun q => absurd q i10, fun _ => ⟨hfull.1, fun q => absurd q i10, fun _ => trivial⟩⟩⟩) hno.1 hno.2 am_set_q (pu_R_thrown h')
  have hwl0 : p_CB_wantLinkTo s (nI T) (nI C) (s 0 8) ∧ f_CB_wantLinkTo s (nI T) (nI C) (s 0 8) = if Z 6 209 (6 * T + C) = 1 ∧ Z 6 212 (6 * T + C) = nI TF then 0 else 2 := by
    have hlw := qd_link cd ht4 hc6
    have f3 : s (20 + (6 * T + C)) 3 = Z 6 212 (6 * T + C) := cd.2.2.2 _ 3 hk (by omega) (by omega)
    unfold p_CB_wantLinkTo f_CB_wantLinkTo
    rw [hlw, qd_col ht4 hc6, f3, f08]
    refine ⟨⟨qd_plink _ _ _, fun _ => ⟨qd_pcol _ _ _, ⟨by omega, qd_sh hk⟩, fun _ => trivial, fun _ => trivial⟩⟩, ?_⟩
    by_cases c1 : Z 6 209 (6 * T + C) = 1
    · rw [if_pos c1, if_pos rfl]
      by_cases c2 : Z 6 212 (6 * T + C) = nI TF
      · rw [if_pos c2, if_pos ⟨c1, c2⟩]
      · rw [if_neg c2, if_neg (fun q => c2 q.2)]
    · rw [if_neg c1, if_neg (by decide), if_neg (fun q => c1 q.1)]
  by_cases hlk : Z 6 209 (6 * T + C) = 1 ∧ Z 6 212 (6 * T + C) = nI TF
  rotate_left
  · rw [if_neg hlk] at hwl0
    rw [if_pos hm] at hfull
    have n30 : ¬ nI m = (30 : Int32) := fun q => by have := (qe_30 (by omega)).mp q; omega
    have hno : p_MO_enterInside s (nI T) (nI C) ∧ f_MO_enterInside s (nI T) (nI C) = (0, am_set s 207 0 3) := by
      have z : p_MO_enterInside_89 s (nI T) (nI C) 1 0 0 ∧ f_MO_enterInside_89 s (nI T) (nI C) 1 0 0 = (0, am_set s 207 0 3) := by
        unfold p_MO_enterInside_89 f_MO_enterInside_89
        rw [if_neg i10, if_pos rfl, if_pos rfl, pr_holds1 s (show (3 : Int32) ≠ 0 by decide), if_pos rfl]
        exact ⟨⟨fun q => absurd q i10, fun _ => ⟨fun _ => ⟨fun _ => ⟨fun _ => trivial, fun q => absurd rfl q⟩, fun q => absurd rfl q⟩, fun q => absurd rfl q⟩⟩, rfl⟩
      unfold p_MO_enterInside f_MO_enterInside p_MO_enterInside_49 f_MO_enterInside_49 p_MO_enterInside_50 f_MO_enterInside_50 p_MO_enterInside_88 f_MO_enterInside_88
      rw [hI, if_neg hnTF0, mrow1.2, if_neg i10, if_neg i10, nI_clamp (n := T) (by omega), f28 s mb, if_neg n30, if_neg i10, hK.2, ix, nI_clamp (n := 6 * T + C) (by omega), md.2 212 (by omega) (by omega), m28]
      refine ⟨⟨hpI, fun q => absurd q (by rw [← m28]; exact hnTF0), fun _ => ⟨by rw [← m28]; exact mrow1.1, fun q => absurd q i10, fun _ => ⟨fun q => absurd q i10, fun _ => ⟨vp_in_nI ht4 (by omega), fun q => absurd q n30, fun _ => ⟨fun q => absurd q i10, fun _ => ⟨hK.1, fun q1 => ⟨vp_in_nI hk (by omega), fun q2 => absurd ⟨q1, q2⟩ hlk, fun _ => z.1⟩, fun _ => z.1⟩⟩⟩⟩⟩⟩, ?_⟩
      by_cases c1 : Z 6 209 (6 * T + C) = 1
      · rw [if_pos c1, if_neg (fun q => hlk ⟨c1, q⟩)]; exact z.2
      · rw [if_neg c1]; exact z.2
    exact on_enterInside_3 (v := 0) (s1 := s) (by unfold f_CB_enterInside; rw [hT, hG, hfull.2, hwl0.2]; rfl) (by unfold p_CB_enterInside; rw [hT, hG, hfull.2, hwl0.2]; exact ⟨qd_pwantC _ _ _, fun _ => ⟨qf_p s, fun q => absurd q i10, fun _ => ⟨hfull.1, fun _ => ⟨hwl0.1, fun q => absurd q (by decide)⟩, fun q => absurd rfl q⟩⟩⟩) hno.1 hno.2 am_set_q (pu_R_thrown h')
  rw [if_pos hlk] at hwl0
  have hwl := hwl0
  have hvr : q_v (nI r) := by unfold q_v; rw [nI_toInt (by omega)]; omega
  rw [if_pos hm] at hfull
  have hvs := q_dv_vs (A := Z 6) (s := s) (t := T) (x := nI C) (y := nI r) dr hvr
  have hwe := q_ent_we (f := L + 1) wr.we ht ht4 hm hm9 hvs
  have hwr := fun q => q_ent_wr (U := Z 7) (f := L + 1) wd wr ht ht4 hm hm9 hvs q
  obtain ⟨pB, T1, hB, o1, cb1, fd1, l1⟩ := qc_enter (xd := 124) (x3 := nI C) (x4 := s 0 9) (v := q_dv (Z 6) s T (nI C) (nI r)) cd oc wd wr.we cb uc uw ht hm hm9 ⟨by omega, sh_124⟩ (by omega) hL hL1 hvs (fun c _ => by rw [f09]; rfl)
  have hmod := fun (u : am_M) (mu : q_md u (Z 6)) (bu : q_mb u (Z 8)) (uu : q_um u (Z 7)) (du : ∀ c, c < 6 → u 231 c = s 124 c) (d29 : u 207 29 = nI r) => qm_draft (x4 := nI C) (v := q_dv (Z 6) s T (nI C) (nI r)) (f := L + 1) mu wd wr.we bu uu uw ht hm hm9 (by omega) (by omega) hvs (fun c hc => by
    unfold q_dv
    rw [d29, du c hc])
  have hgd9 : q_brk (Z 6) (Z 7) (q_reck (Z 6) (q_ent (Z 8) T m (nI (L + 1)) (q_dv (Z 6) s T (nI C) (nI r)))) = [] → q_gd (Z 6) (Z 7) (q_reck (Z 6) (q_ent (Z 8) T m (nI (L + 1)) (q_dv (Z 6) s T (nI C) (nI r)))) := fun q => gd_reck wd (q_x7_g (hZ 7)).2.2 q
  generalize hB9 : q_brk (Z 6) (Z 7) (q_reck (Z 6) (q_ent (Z 8) T m (nI (L + 1)) (q_dv (Z 6) s T (nI C) (nI r)))) = B at *
  obtain ⟨pt, t2, ht2, o2, fd2, u2, d2⟩ := qc_tellE hm fd1
  have o12 : q_out s t2 (fun a b => (9 ≤ a ∧ a ≤ 11) ∨ (13 ≤ a ∧ a ≤ 16) ∨ a = 19 ∨ (a = 1 ∧ b = 12) ∨ a = 123 ∨ (a = 0 ∧ b = 7) ∨ a = 124) := fun a b hab => by rw [o2 a b (by omega), o1 a b (by omega)]
  generalize hw9 : (if q_good B = 0 then (-1 : Int32) else nI m) = w9 at *
  have oU : q_out s (am_set t2 262 0 w9) (fun a b => a < 207 ∨ a = 262) := fun a b hab => by rw [am_set_p (by omega), o12 a b (by omega)]
  have oU2 : q_out s (am_set (am_set t2 262 0 w9) 207 0 0) (fun a b => a < 207 ∨ a = 262 ∨ (a = 207 ∧ b = 0)) := fun a b hab => by rw [am_set_p (by omega), am_set_p (by omega), o12 a b (by omega)]
  obtain ⟨pD, t3, ht3, o3, mb3, fd3, u3, d3, md3⟩ := hmod (am_set (am_set t2 262 0 w9) 207 0 0) (q_md_out oU2 (fun a b q => by omega) md) (q_mb_out oU2 (fun a b q => by omega) mb) (q_um_out oU2 (fun a b q => by omega) um) (fun c hc => by rw [oU2 _ _ (by omega)]; exact (dr c hc).1.symm) (by rw [oU2 _ _ (by omega)]; exact m29)
  have muU := q_md_out oU (fun a b q => by omega) md
  have buU := q_mb_out oU (fun a b q => by omega) mb
  have hIU := qd_isC muU wd (nI T) (nI C)
  rw [g] at hIU
  have hRU := qr_isRow muU wd wr.we buU (nI TF) (nI r)
  have hRU2 : q_isR (Z 6) (Z 8) (nI TF) (nI r) = 1 := by
    unfold q_isR
    rw [show q_isT (Z 6) (nI TF) = 1 from q_in_1 hTF (by omega), if_neg i10, show q_c (nI TF) = TF from nI_clamp (by omega), if_pos ((q_hs_I hr30).mpr hh)]
  rw [hRU2] at hRU
  have U28 : am_set t2 262 0 w9 207 28 = nI TF := by rw [oU _ _ (by omega)]; exact m28
  have U29 : am_set t2 262 0 w9 207 29 = nI r := by rw [oU _ _ (by omega)]; exact m29
  have hKU := qd_kind muU wd ht4 hc6
  have hnTF : ¬ nI TF = -1 := fun q => by
    have := congrArg Int32.toInt q
    rw [nI_toInt (by omega)] at this
    have e1 : (-1 : Int32).toInt = -1 := by decide
    omega
  have fU := f28 _ buU
  have n30 : ¬ nI m = (30 : Int32) := fun q => by have := (qe_30 (by omega)).mp q; omega
  have hk : 6 * T + C < 24 := by omega
  have ix : (6 : Int32) * nI T + nI C = nI (6 * T + C) := by rw [qw_6, nI_add]
  have tU : am_set t2 262 0 w9 212 (6 * T + C) = nI TF := by rw [muU.2 212 (by omega) (by omega)]; exact hlk.2
  have hfin := pu_ent (t2 := t2) (t3 := t3) (w9 := w9) (v := q_dv (Z 6) s T (nI C) (nI r)) hP hZ hL hLd (by omega) ht hm hm9 o12 (q_cb_out o2 (fun a b q => by omega) cb1) fd2 (by rw [u2, o1 _ _ (by omega)]) (by rw [o2 _ _ (by omega)]; exact l1) (fun k hk => by rw [d2 k hk, o1 _ _ (by omega)]) o3 md3 mb3 fd3 u3 d3 hwr hwe hgd9
  refine og_enterInside (hn := by
        rw [← hw9]
        split
        · decide
        · exact n9_nI (by omega)) (v := w9) (w := w9) (s1 := t2) (t := t3) ?_ ?_ ?_ ?_ hfin.2.1 hfin.2.2 hfin.1
  · unfold f_CB_enterInside; rw [hT, hG, hfull.2, if_neg i10, if_pos rfl, hwl.2, f09]
    rw [f09] at hB
    rw [hB]
    dsimp only
    rw [ht2]; rfl
  · rw [f09] at hB pB
    unfold p_CB_enterInside; rw [hT, hG, hfull.2, f09, hB]
    exact ⟨qd_pwantC _ _ _, fun _ => ⟨qf_p s, fun q => absurd q i10, fun _ => ⟨hfull.1, fun _ => ⟨hwl.1, fun _ => ⟨pB, pt, trivial⟩⟩, fun q => absurd rfl q⟩⟩⟩
  · unfold p_MO_enterInside p_MO_enterInside_49 p_MO_enterInside_50 p_MO_enterInside_89
    rw [U28, U29, hIU, hRU.2, nI_clamp (n := T) (by omega), fU, hKU.2, ix, nI_clamp (n := 6 * T + C) (by omega), tU, pr_holds0]
    exact ⟨qd_pisC muU wd _ _, fun q => absurd q hnTF, fun _ => ⟨hRU.1, fun q => absurd q i10, fun _ => ⟨fun q => absurd q i10, fun _ => ⟨vp_in_nI ht4 (by omega), fun q => absurd q n30, fun _ => ⟨fun q => absurd q i10, fun _ => ⟨hKU.1, fun _ => ⟨vp_in_nI hk (by omega), fun _ => ⟨fun q => absurd q i10, fun _ => ⟨fun _ => ⟨fun q => absurd q i10, fun _ => ⟨fun q => absurd q i10, fun _ => ⟨pD, trivial⟩⟩⟩, fun q => absurd rfl q⟩⟩, fun q => absurd rfl q⟩, fun q => absurd hlk.1 q⟩⟩⟩⟩⟩⟩
  · unfold f_MO_enterInside f_MO_enterInside_49 f_MO_enterInside_50 f_MO_enterInside_89
    rw [U28, U29, if_neg hnTF, hRU.2, if_neg i10, hIU, if_neg i10, nI_clamp (n := T) (by omega), fU, if_neg n30, hKU.2, if_neg i10, if_pos hlk.1, ix, nI_clamp (n := 6 * T + C) (by omega), tU, if_pos rfl, if_neg i10, if_pos rfl, if_neg i10, pr_holds0, if_neg i10]
    dsimp only
    rw [ht3]
end

noncomputable section
theorem op_enter_ok {c d : Nat} (hcd : c + 7 ≤ d) (hd9 : d ≤ 4000) : op_enter (pu_R c) (pu_R d) := by
  intro s a1 h
  have hL9 : ∃ L, s 1 12 = nI L ∧ L + 1 ≤ d ∧ L < 100000 := by
    obtain ⟨-, Z, hZ⟩ := h
    obtain ⟨k, L, k5, Lc, L1, h1, h2, h3, -⟩ : q_x4 c s Z := hZ 4
    exact ⟨L, h3, by omega, L1⟩
  replace h := h.mono (show c ≤ d by omega)
  have h' := h
  obtain ⟨L, hL, hLd, hL1⟩ := hL9
  obtain ⟨hP, Z, hZ⟩ := h
  obtain ⟨cd, oc, md, wd⟩ : q_x1 s (Z 6) := hZ 1
  obtain ⟨uc, um, uw⟩ := q_x2_p (hZ 2 : q_x2 s (Z 7))
  obtain ⟨cb, mb, wr⟩ : q_x3 s (Z 6) (Z 8) := hZ 3
  have dr : pr_draft s := hP 3
  have h4 := wd.1.2
  have hT := qd_wantT cd wd a1
  have hI := qd_isT md wd a1
  rcases q_isT_c wd a1 with g | ⟨g, T, ht, rfl⟩
  · rw [g, if_pos rfl] at hT
    rw [g] at hI
    refine on_enter_1 (v := 0) (s1 := s) (w := 0) (t := am_set s 207 0 1) (by unfold f_CB_enter; rw [hT]; rfl) (by unfold p_CB_enter; rw [hT]; exact fun q => absurd q (by decide)) ?_ ?_ am_set_q (pu_R_thrown h')
    · unfold p_MO_enter; rw [hI, pr_holds1 s (by decide)]; exact ⟨qd_pisT _ _, fun _ => ⟨fun _ => trivial, fun q => absurd rfl q⟩, fun q => absurd rfl q⟩
    · unfold f_MO_enter; rw [hI, pr_holds1 s (by decide)]; rfl
  rw [g, if_neg i10] at hT
  rw [g] at hI
  have ht4 : T < 4 := by omega
  have e0 := wr.1 T ht4
  have hfull := q_full s cb ht4 ⟨e0.1, e0.2.1⟩
  have f28 : ∀ u, q_mb u (Z 8) → u 228 T = nI (q_c (Z 8 0 T)) := fun u bu => (bu.1 T ht4).trans e0.1
  generalize hm9 : q_c (Z 8 0 T) = m at *
  by_cases hm : m < 30
  rotate_left
  · rw [if_neg hm] at hfull
    refine on_enter_2 (v := 0) (s1 := s) (w := 0) (t := am_set s 207 0 2) (by unfold f_CB_enter; rw [hT, hfull.2]; rfl) (by unfold p_CB_enter; rw [hT, hfull.2]; exact fun _ => ⟨hfull.1, fun q => absurd q i10, fun _ => trivial⟩) ?_ ?_ am_set_q (pu_R_thrown h')
    · unfold p_MO_enter; rw [hI, nI_clamp (by omega), f28 s mb, pr_holds1 s (show (2 : Int32) ≠ 0 by decide)]
      exact ⟨qd_pisT _ _, fun q => absurd q i10, fun _ => ⟨vp_in_nI ht4 (by omega), fun _ => ⟨fun _ => trivial, fun q => absurd rfl q⟩, fun q => absurd ((qe_30 (by omega)).mpr (by omega)) q⟩⟩
    · unfold f_MO_enter; rw [hI, if_neg i10, nI_clamp (by omega), f28 s mb, if_pos ((qe_30 (by omega)).mpr (by omega)), pr_holds1 s (by decide)]; rfl
  rw [if_pos hm] at hfull
  have hvs := q_dv_vs (A := Z 6) (s := s) (t := T) (x := -1) (y := -1000000) dr q_v_B
  have hwe := q_ent_we (f := L + 1) wr.we ht ht4 hm hm9 hvs
  have hwr := fun q => q_ent_wr (U := Z 7) (f := L + 1) wd wr ht ht4 hm hm9 hvs q
  obtain ⟨pB, T1, hB, o1, cb1, fd1, l1⟩ := qc_enter (xd := 124) (x3 := -1) (x4 := -1000000) (v := q_dv (Z 6) s T (-1) (-1000000)) cd oc wd wr.we cb uc uw ht hm hm9 ⟨by omega, sh_124⟩ (by omega) hL hL1 hvs (fun c _ => rfl)
  have hmod := fun (u : am_M) (mu : q_md u (Z 6)) (bu : q_mb u (Z 8)) (uu : q_um u (Z 7)) (du : ∀ c, c < 6 → u 231 c = s 124 c) => qm_draft (x4 := -1) (v := q_dv (Z 6) s T (-1) (-1000000)) (f := L + 1) mu wd wr.we bu uu uw ht hm hm9 (by omega) (by omega) hvs (fun c hc => by
    unfold q_dv
    have hn : ¬ nI c = -1 := fun q => by
      have := congrArg Int32.toInt q
      rw [nI_toInt (by omega)] at this
      have e1 : (-1 : Int32).toInt = -1 := by decide
      omega
    rw [if_neg hn, if_neg hn, du c hc])
  have hgd9 : q_brk (Z 6) (Z 7) (q_reck (Z 6) (q_ent (Z 8) T m (nI (L + 1)) (q_dv (Z 6) s T (-1) (-1000000)))) = [] → q_gd (Z 6) (Z 7) (q_reck (Z 6) (q_ent (Z 8) T m (nI (L + 1)) (q_dv (Z 6) s T (-1) (-1000000)))) := fun q => gd_reck wd (q_x7_g (hZ 7)).2.2 q
  generalize hB9 : q_brk (Z 6) (Z 7) (q_reck (Z 6) (q_ent (Z 8) T m (nI (L + 1)) (q_dv (Z 6) s T (-1) (-1000000)))) = B at *
  obtain ⟨pt, t2, ht2, o2, fd2, u2, d2⟩ := qc_tellE hm fd1
  have o12 : q_out s t2 (fun a b => (9 ≤ a ∧ a ≤ 11) ∨ (13 ≤ a ∧ a ≤ 16) ∨ a = 19 ∨ (a = 1 ∧ b = 12) ∨ a = 123 ∨ (a = 0 ∧ b = 7) ∨ a = 124) := fun a b hab => by rw [o2 a b (by omega), o1 a b (by omega)]
  generalize hw9 : (if q_good B = 0 then (-1 : Int32) else nI m) = w9 at *
  have oU : q_out s (am_set t2 262 0 w9) (fun a b => a < 207 ∨ a = 262) := fun a b hab => by rw [am_set_p (by omega), o12 a b (by omega)]
  have oU2 : q_out s (am_set (am_set t2 262 0 w9) 207 0 0) (fun a b => a < 207 ∨ a = 262 ∨ (a = 207 ∧ b = 0)) := fun a b hab => by rw [am_set_p (by omega), am_set_p (by omega), o12 a b (by omega)]
  obtain ⟨pD, t3, ht3, o3, mb3, fd3, u3, d3, md3⟩ := hmod (am_set (am_set t2 262 0 w9) 207 0 0) (q_md_out oU2 (fun a b q => by omega) md) (q_mb_out oU2 (fun a b q => by omega) mb) (q_um_out oU2 (fun a b q => by omega) um) (fun c hc => by rw [oU2 _ _ (by omega)]; exact (dr c hc).1.symm)
  have hIU := qd_isT (q_md_out oU (fun a b q => by omega) md) wd (nI T)
  rw [g] at hIU
  have fU := f28 _ (q_mb_out oU (fun a b q => by omega) mb)
  have n30 : ¬ nI m = (30 : Int32) := fun q => by have := (qe_30 (by omega)).mp q; omega
  have hfin := pu_ent (t2 := t2) (t3 := t3) (w9 := w9) (v := q_dv (Z 6) s T (-1) (-1000000)) hP hZ hL hLd (by omega) ht hm hm9 o12 (q_cb_out o2 (fun a b q => by omega) cb1) fd2 (by rw [u2, o1 _ _ (by omega)]) (by rw [o2 _ _ (by omega)]; exact l1) (fun k hk => by rw [d2 k hk, o1 _ _ (by omega)]) o3 md3 mb3 fd3 u3 d3 hwr hwe hgd9
  refine og_enter (hn := by
        rw [← hw9]
        split
        · decide
        · exact n9_nI (by omega)) (v := w9) (w := w9) (s1 := t2) (t := t3) ?_ ?_ ?_ ?_ hfin.2.1 hfin.2.2 hfin.1
  · unfold f_CB_enter; rw [hT, hfull.2, hB]
    dsimp only
    rw [ht2]; rfl
  · unfold p_CB_enter; rw [hT, hfull.2, hB]
    exact fun _ => ⟨hfull.1, fun _ => ⟨pB, pt, trivial⟩, fun q => absurd rfl q⟩
  · unfold p_MO_enter; rw [hIU, nI_clamp (by omega), fU, pr_holds0]
    exact ⟨qd_pisT _ _, fun q => absurd q i10, fun _ => ⟨vp_in_nI ht4 (by omega), fun q => absurd q n30, fun _ => ⟨fun q => absurd q i10, fun _ => ⟨pD, trivial⟩⟩⟩⟩
  · unfold f_MO_enter; rw [hIU, if_neg i10, nI_clamp (by omega), fU, if_neg n30, pr_holds0, if_neg i10]
    dsimp only
    rw [ht3]
end

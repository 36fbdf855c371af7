noncomputable section
theorem op_addReckoned_ok {c d : Nat} (hcd : c ≤ d) : op_addReckoned (pu_R c) (pu_R d) := by
  intro s a1 a2 a3 a4 a5 h
  replace h := h.mono hcd
  have h' := h
  obtain ⟨hP, Z, hZ⟩ := h
  obtain ⟨cd, oc, md, wd⟩ : q_x1 s (Z 6) := hZ 1
  obtain ⟨cb, mb, wr⟩ : q_x3 s (Z 6) (Z 8) := hZ 3
  have h4 := wd.1.2
  have hT := qd_wantT cd wd a1
  have hI := qd_isT md wd a1
  have p48 : ∀ (x6 y : Int32), y ≠ 0 → p_MO_addReckoned_48 s a1 a2 a3 a4 a5 x6 y ∧ f_MO_addReckoned_48 s a1 a2 a3 a4 a5 x6 y = (0, am_set s 207 0 y) := fun x6 y hy => by
    unfold p_MO_addReckoned_48 f_MO_addReckoned_48
    rw [pr_holds1 s hy]
    exact ⟨⟨fun _ => trivial, fun q => absurd rfl q⟩, rfl⟩
  have p23 : ∀ y : Int32, y ≠ 0 → p_MO_addReckoned_23 s a1 a2 a3 a4 a5 y ∧ f_MO_addReckoned_23 s a1 a2 a3 a4 a5 y = (0, am_set s 207 0 y) := fun y hy => by
    unfold p_MO_addReckoned_23 f_MO_addReckoned_23 p_MO_addReckoned_46 f_MO_addReckoned_46
    rw [if_neg hy]
    exact ⟨⟨fun q => absurd q hy, fun _ => (p48 y y hy).1⟩, (p48 y y hy).2⟩
  rcases q_isT_c wd a1 with g | ⟨g, T, ht, rfl⟩
  · rw [g, if_pos rfl] at hT
    rw [g] at hI
    refine on_addReckoned_1 (v := 0) (s1 := s) (w := 0) (t := am_set s 207 0 1) (by unfold f_CB_addReckoned; rw [hT]; rfl) (by unfold p_CB_addReckoned; rw [hT]; exact fun q => absurd q (by decide)) ?_ ?_ am_set_q (pu_R_thrown h')
    · unfold p_MO_addReckoned; rw [hI]; exact ⟨qd_pisT _ _, fun _ => (p23 1 (by decide)).1, fun q => absurd rfl q⟩
    · unfold f_MO_addReckoned; rw [hI, if_pos rfl]; exact (p23 1 (by decide)).2
  have e : q_c (nI T) = T := nI_clamp (by omega)
  have hT4 : T < 4 := by omega
  rw [g, if_neg i10] at hT
  rw [g] at hI
  obtain ⟨fp, fq, ee, fe, fm, f3, f0⟩ := q_formE cd md wd hT4 a2 a3 a4 a5
  have hrest : ∀ y : Int32, y ≠ 0 → f_MO_errorOfFormula s (nI T) a2 a3 a4 a5 = y → p_MO_addReckoned s (nI T) a2 a3 a4 a5 ∧ f_MO_addReckoned s (nI T) a2 a3 a4 a5 = (0, am_set s 207 0 y) := fun y hy ey => by
    unfold p_MO_addReckoned f_MO_addReckoned
    rw [hI, if_neg i10, ey]
    exact ⟨⟨qd_pisT _ _, fun q => absurd q i10, fun _ => ⟨fq, (p23 y hy).1⟩⟩, (p23 y hy).2⟩
  have hee : ee = 0 ∨ ee = 1 ∨ ee = 2 := by omega
  rcases hee with rfl | rfl | rfl
  rotate_left
  · have hm := hrest 1 (by decide) fm
    exact on_addReckoned_1 (v := 0) (s1 := s) (w := 0) (t := am_set s 207 0 1) (by unfold f_CB_addReckoned; rw [hT, fe]; rfl) (by unfold p_CB_addReckoned; rw [hT, fe]; exact fun _ => ⟨fp, fun q => absurd q (by decide)⟩) hm.1 hm.2 am_set_q (pu_R_thrown h')
  · have hm := hrest 2 (by decide) fm
    exact on_addReckoned_2 (v := 0) (s1 := s) (w := 0) (t := am_set s 207 0 2) (by unfold f_CB_addReckoned; rw [hT, fe]; rfl) (by unfold p_CB_addReckoned; rw [hT, fe]; exact fun _ => ⟨fp, fun q => absurd q (by decide)⟩) hm.1 hm.2 am_set_q (pu_R_thrown h')
  have hqf := f0 rfl
  have fm0 : f_MO_errorOfFormula s (nI T) a2 a3 a4 a5 = 0 := fm
  have hw := (wd.2.1 T hT4).2.1
  have hPl := qd_place cd wd ht
  have w208 : ∀ u : am_M, q_md u (Z 6) → u 208 T = nI (q_w (Z 6) T) := fun u mu => by rw [mu.2 208 (by omega) (by omega)]; exact (wd.2.1 T hT4).1
  by_cases c6 : q_w (Z 6) T < 6
  rotate_left
  · rw [if_neg c6] at hPl
    have e6 : s 208 (nI T).toNatClampNeg = (6 : Int32) := by
      rw [show (nI T).toNatClampNeg = T from e, w208 s md, show q_w (Z 6) T = 6 from by omega]; rfl
    have hm : p_MO_addReckoned s (nI T) a2 a3 a4 a5 ∧ f_MO_addReckoned s (nI T) a2 a3 a4 a5 = (0, am_set s 207 0 3) := by
      unfold p_MO_addReckoned f_MO_addReckoned p_MO_addReckoned_23 f_MO_addReckoned_23
      rw [hI, if_neg i10, fm0, if_pos rfl, if_pos e6]
      exact ⟨⟨qd_pisT _ _, fun q => absurd q i10, fun _ => ⟨fq, fun _ => ⟨vp_in_nI hT4 (by omega), fun _ => (p48 0 3 (by decide)).1, fun q => absurd e6 q⟩, fun q => absurd rfl q⟩⟩, (p48 0 3 (by decide)).2⟩
    exact on_addReckoned_3 (v := 0) (s1 := s) (w := 0) (t := am_set s 207 0 3) (by unfold f_CB_addReckoned; rw [hT, fe, hPl]; rfl) (by unfold p_CB_addReckoned; rw [hT, fe, hPl]; exact fun _ => ⟨fp, fun _ => ⟨qd_pplace _ _, fun q => absurd q (by decide)⟩⟩) hm.1 hm.2 am_set_q (pu_R_thrown h')
  rw [if_pos c6] at hPl
  obtain ⟨wB, hwr, hnt⟩ := q_mf_wd wd ht c6 hqf
  have wrB := hwr _ wr
  -- the class
  have mk := qd_mkC (q_cd_set (i := 0) (k := 7) (x := 0) (by omega) cd) wd ht c6 (3 : Int32)
  have cdK := q_cd_mk (q_cd_set (i := 0) (k := 7) (x := 0) (by omega) cd) wd ht c6 (2 : Int32)
  rw [show q_kc (2 : Int32) = 3 from by decide] at cdK
  have hk24 : 6 * T + q_w (Z 6) T < 24 := by omega
  have cdF : q_cd (f_CO_setFormula (am_set (am_set (am_set s 0 7 0) 4 T (nI (q_w (Z 6) T + 1))) (20 + (6 * T + q_w (Z 6) T)) 0 3) (20 + (6 * T + q_w (Z 6) T)) a2 a3 a4 a5) (q_mf (Z 6) T a2 a3 a4 a5) := q_cd_fld (j := 10) hk24 (by omega) (by omega) (q_cd_fld (j := 9) hk24 (by omega) (by omega) (q_cd_fld (j := 8) hk24 (by omega) (by omega) (q_cd_fld (j := 7) hk24 (by omega) (by omega) cdK)))
  have oF : q_out s (f_CO_setFormula (am_set (am_set (am_set s 0 7 0) 4 T (nI (q_w (Z 6) T + 1))) (20 + (6 * T + q_w (Z 6) T)) 0 3) (20 + (6 * T + q_w (Z 6) T)) a2 a3 a4 a5) (fun a b => (a = 0 ∧ b = 7) ∨ a = 4 ∨ (20 ≤ a ∧ a ≤ 43)) := fun a b hab => by
    unfold f_CO_setFormula
    repeat rw [am_set_p (by omega)]
  have e07 : f_CO_setFormula (am_set (am_set (am_set s 0 7 0) 4 T (nI (q_w (Z 6) T + 1))) (20 + (6 * T + q_w (Z 6) T)) 0 3) (20 + (6 * T + q_w (Z 6) T)) a2 a3 a4 a5 0 7 = 0 := by
    unfold f_CO_setFormula
    rw [am_set_p (by omega), am_set_p (by omega), am_set_p (by omega), am_set_p (by omega), am_set_p (by omega), am_set_p (by omega)]; exact am_set_q
  have pF : p_CO_setFormula (am_set (am_set (am_set s 0 7 0) 4 T (nI (q_w (Z 6) T + 1))) (20 + (6 * T + q_w (Z 6) T)) 0 3) (20 + (6 * T + q_w (Z 6) T)) a2 a3 a4 a5 := ⟨⟨by omega, qd_sh hk24⟩, trivial⟩
  generalize hF : f_CO_setFormula (am_set (am_set (am_set s 0 7 0) 4 T (nI (q_w (Z 6) T + 1))) (20 + (6 * T + q_w (Z 6) T)) 0 3) (20 + (6 * T + q_w (Z 6) T)) a2 a3 a4 a5 = F at *
  obtain ⟨po, O, ho1, ho2, ho3⟩ := qo_C cdF wB
  have oO : q_out s O (fun a b => (a = 0 ∧ b = 7) ∨ a = 4 ∨ (20 ≤ a ∧ a ≤ 43) ∨ (a = 1 ∧ b = 8) ∨ a = 7 ∨ a = 17) := fun a b hab => by rw [ho2 a b (by omega), oF a b (by omega)]
  obtain ⟨pr, S, hr1, hr2, hr3⟩ := qk_reckon (q_cd_out ho2 (fun a b q => by omega) cdF) ho3 wB wrB.we (q_cb_out oO (fun a b q => by omega) cb)
  have oS : q_out s S (fun a b => (a = 0 ∧ b = 7) ∨ a = 4 ∨ (20 ≤ a ∧ a ≤ 43) ∨ (a = 1 ∧ b = 8) ∨ a = 7 ∨ a = 17 ∨ a = 11 ∨ a = 19) := fun a b hab => by rw [hr2 a b (by omega), oO a b (by omega)]
  have hB : p_BA_makeReckoned (am_set s 0 7 0) (nI T) a2 a3 a4 a5 ∧ f_BA_makeReckoned (am_set s 0 7 0) (nI T) a2 a3 a4 a5 = (nI (q_w (Z 6) T), S) := by
    unfold p_BA_makeReckoned f_BA_makeReckoned
    rw [mk.2]
    dsimp only
    rw [qd_col hT4 c6, hF, ho1]
    dsimp only
    rw [hr1]
    exact ⟨⟨mk.1, qd_pcol _ _ _, pF, ⟨by omega, qd_sh hk24⟩, po, pr, trivial⟩, rfl⟩
  have hC : f_CB_addReckoned s (nI T) a2 a3 a4 a5 = (0, nI (q_w (Z 6) T), S) := by
    unfold f_CB_addReckoned f_CB_forgetActs
    rw [hT, fe, hPl, hB.2]; rfl
  have pC : p_CB_addReckoned s (nI T) a2 a3 a4 a5 := by
    unfold p_CB_addReckoned f_CB_forgetActs
    rw [hT, fe, hPl]
    exact fun _ => ⟨fp, fun _ => ⟨qd_pplace _ _, fun _ => ⟨hB.1, trivial⟩⟩⟩
  -- the model
  have oU : q_out s (am_set S 262 0 (nI (q_w (Z 6) T))) (fun a b => (a = 0 ∧ b = 7) ∨ a = 4 ∨ (20 ≤ a ∧ a ≤ 43) ∨ (a = 1 ∧ b = 8) ∨ a = 7 ∨ a = 17 ∨ a = 11 ∨ a = 19 ∨ a = 262) := fun a b hab => by rw [am_set_p (by omega), oS a b (by omega)]
  have mU := q_md_out oU (fun a b q => by omega) md
  have bU := q_mb_out oU (fun a b q => by omega) mb
  have e262 : am_set S 262 0 (nI (q_w (Z 6) T)) 262 0 = nI (q_w (Z 6) T) := am_set_q
  have cdU : q_cd (am_set S 262 0 (nI (q_w (Z 6) T))) (q_mf (Z 6) T a2 a3 a4 a5) := q_cd_set (by omega) (q_cd_out hr2 (fun a b q => by omega) (q_cd_out ho2 (fun a b q => by omega) cdF))
  have ocU : q_oc (am_set S 262 0 (nI (q_w (Z 6) T))) (q_mf (Z 6) T a2 a3 a4 a5) := q_oc_set (by omega) (q_oc_out hr2 (fun a b q => by omega) ho3)
  have cbU : q_cb (am_set S 262 0 (nI (q_w (Z 6) T))) 9 10 11 (q_reck (q_mf (Z 6) T a2 a3 a4 a5) (Z 8)) := q_cb_set (by omega) hr3
  have u07 : am_set S 262 0 (nI (q_w (Z 6) T)) 0 7 = 0 := by rw [am_set_p (by omega), hr2 _ _ (by omega), ho2 _ _ (by omega)]; exact e07
  generalize hUU : am_set S 262 0 (nI (q_w (Z 6) T)) = u at *
  have hIU := qd_isT mU wd (nI T)
  rw [g] at hIU
  obtain ⟨-, fqU, eU, feU, fmU, -, -⟩ := q_formE cd mU wd hT4 a2 a3 a4 a5
  have eU0 : eU = 0 := feU.symm.trans fe
  have fmU0 : f_MO_errorOfFormula u (nI T) a2 a3 a4 a5 = 0 := by rw [fmU, eU0]; rfl
  have mkM := qd_mkM (q_md_set (i := 207) (k := 0) (x := 0) (by omega) mU) wd ht c6 (2 : Int32)
  have n6 : ¬ u 208 (nI T).toNatClampNeg = (6 : Int32) := by
    rw [show (nI T).toNatClampNeg = T from e, w208 u mU]
    exact fun q => by have := (nI_eq (b := 6) (by omega) (by omega)).mp q; omega
  have mdW : q_md (f_MO_formula (am_set (am_set (am_set (am_set (am_set (am_set u 207 0 0) 209 (6 * T + q_w (Z 6) T) 2) 218 (6 * T + q_w (Z 6) T) 0) 219 (6 * T + q_w (Z 6) T) 0) 208 T (nI (q_w (Z 6) T + 1))) 207 38 0) (nI (6 * T + q_w (Z 6) T)) a2 a3 a4 a5) (q_mf (Z 6) T a2 a3 a4 a5) := by
    unfold f_MO_formula
    rw [nI_clamp (n := 6 * T + q_w (Z 6) T) (by omega)]
    exact q_md_fld (by omega) (q_md_fld (by omega) (q_md_fld (by omega) (q_md_fld (by omega) (q_md_set (by omega) (q_md_fld (by omega) (q_md_fld (by omega) (q_md_fld (by omega) (q_md_fld (by omega) (q_md_set (by omega) mU)))))))))
  have oW : q_out u (f_MO_formula (am_set (am_set (am_set (am_set (am_set (am_set u 207 0 0) 209 (6 * T + q_w (Z 6) T) 2) 218 (6 * T + q_w (Z 6) T) 0) 219 (6 * T + q_w (Z 6) T) 0) 208 T (nI (q_w (Z 6) T + 1))) 207 38 0) (nI (6 * T + q_w (Z 6) T)) a2 a3 a4 a5) (fun a b => (a = 207 ∧ (b = 0 ∨ b = 38)) ∨ (208 ≤ a ∧ a ≤ 219)) := fun a b hab => by
    unfold f_MO_formula
    repeat rw [am_set_p (by omega)]
  have w0 : f_MO_formula (am_set (am_set (am_set (am_set (am_set (am_set u 207 0 0) 209 (6 * T + q_w (Z 6) T) 2) 218 (6 * T + q_w (Z 6) T) 0) 219 (6 * T + q_w (Z 6) T) 0) 208 T (nI (q_w (Z 6) T + 1))) 207 38 0) (nI (6 * T + q_w (Z 6) T)) a2 a3 a4 a5 207 0 = 0 ∧ f_MO_formula (am_set (am_set (am_set (am_set (am_set (am_set u 207 0 0) 209 (6 * T + q_w (Z 6) T) 2) 218 (6 * T + q_w (Z 6) T) 0) 219 (6 * T + q_w (Z 6) T) 0) 208 T (nI (q_w (Z 6) T + 1))) 207 38 0) (nI (6 * T + q_w (Z 6) T)) a2 a3 a4 a5 207 38 = 0 := by
    unfold f_MO_formula
    constructor
    · rw [am_set_p (by omega), am_set_p (by omega), am_set_p (by omega), am_set_p (by omega), am_set_p (by omega), am_set_p (by omega), am_set_p (by omega), am_set_p (by omega), am_set_p (by omega)]; exact am_set_q
    · rw [am_set_p (by omega), am_set_p (by omega), am_set_p (by omega), am_set_p (by omega)]; exact am_set_q
  generalize hWW : f_MO_formula (am_set (am_set (am_set (am_set (am_set (am_set u 207 0 0) 209 (6 * T + q_w (Z 6) T) 2) 218 (6 * T + q_w (Z 6) T) 0) 219 (6 * T + q_w (Z 6) T) 0) 208 T (nI (q_w (Z 6) T + 1))) 207 38 0) (nI (6 * T + q_w (Z 6) T)) a2 a3 a4 a5 = W at *
  obtain ⟨prk, V, hv1, hv2, hv3⟩ := qm_reckons mdW wB wrB.we (q_mb_out oW (fun a b q => by omega) bU)
  have hv : vp_in (nI (6 * T + q_w (Z 6) T)) 24 := vp_in_nI hk24 (by omega)
  have hM : p_MO_addReckoned u (nI T) a2 a3 a4 a5 ∧ f_MO_addReckoned u (nI T) a2 a3 a4 a5 = (nI (q_w (Z 6) T), V) := by
    unfold p_MO_addReckoned f_MO_addReckoned p_MO_addReckoned_23 f_MO_addReckoned_23 p_MO_addReckoned_46 f_MO_addReckoned_46 p_MO_addReckoned_48 f_MO_addReckoned_48
    rw [hIU, if_neg i10, fmU0, if_pos rfl, if_neg n6, pr_holds0]
    dsimp only
    rw [mkM.2]
    dsimp only
    rw [hWW, hv1, if_neg i10, qr_6 (by omega), show (6 * T + q_w (Z 6) T) % 6 = q_w (Z 6) T from by omega]
    exact ⟨⟨qd_pisT _ _, fun q => absurd q i10, fun _ => ⟨fqU, fun _ => ⟨vp_in_nI hT4 (by omega), fun q => absurd q n6, fun _ => ⟨fun q => absurd q i10, fun _ => ⟨mkM.1, ⟨hv, hv, hv, hv, trivial⟩, prk, trivial⟩⟩⟩, fun q => absurd rfl q⟩⟩, rfl⟩
  refine og_addReckoned (hn := n9_nI (by first | omega | (have := wd.1.2; omega))) (t := V) (w := nI (q_w (Z 6) T)) hC pC (by rw [hUU]; exact hM.1) (by rw [hUU]; exact hM.2) (by rw [hv2 _ _ (by omega)]; exact w0.1) (by rw [hv2 _ _ (by omega), oW _ _ (by omega)]; exact e262) ?_
  have oV : q_out u V (fun a b => (a = 207 ∧ (b = 0 ∨ b = 15 ∨ b = 38)) ∨ (208 ≤ a ∧ a ≤ 221) ∨ a = 230) := fun a b hab => by rw [hv2 a b (by omega), oW a b (by omega)]
  have oA : q_out s V (fun a b => q_P0 a b ∨ a = 4) := fun a b hab => by
    unfold q_P0 at hab
    rw [oV a b (by omega), oU a b (by omega)]
  have hfr : pu_fr (· ∈ [0, 1, 2, 6, 8]) s V := fun a b hab => oA a b (fun q => hab (by
    rcases q with q | q
    · exact q_P0_own q
    · rw [pu_own_6 (by omega)]; decide))
  have oA2 : q_out s V (fun a b => (a = 0 ∧ b = 7) ∨ a = 4 ∨ (20 ≤ a ∧ a ≤ 43) ∨ (a = 1 ∧ b = 8) ∨ a = 7 ∨ a = 17 ∨ a = 11 ∨ a = 19 ∨ a = 262 ∨ (a = 207 ∧ (b = 0 ∨ b = 15 ∨ b = 38)) ∨ (208 ≤ a ∧ a ≤ 221) ∨ a = 230) := fun a b hab => by rw [oV a b (by omega), oU a b (by omega)]
  have u38 : V 207 38 = 0 := by rw [hv2 _ _ (by omega)]; exact w0.2
  have v07 : V 0 7 = 0 := by rw [oV _ _ (by omega)]; exact u07
  have eR := q_we_reck wB wrB.we
  obtain ⟨k9, L9, k5, Lc, L1, g1, g2, g3, -⟩ : q_x4 d s Z := hZ 4
  have y6 : pu_up (pu_up Z 6 (q_mf (Z 6) T a2 a3 a4 a5)) 8 (q_reck (q_mf (Z 6) T a2 a3 a4 a5) (Z 8)) 6 = q_mf (Z 6) T a2 a3 a4 a5 := by rw [pu_up_o (by decide), pu_up_s]
  have y8 : pu_up (pu_up Z 6 (q_mf (Z 6) T a2 a3 a4 a5)) 8 (q_reck (q_mf (Z 6) T a2 a3 a4 a5) (Z 8)) 8 = q_reck (q_mf (Z 6) T a2 a3 a4 a5) (Z 8) := pu_up_s
  have mo : ∀ a b, (a < 208 ∨ 219 < a ∨ (209 ≤ a ∧ b ≠ 6 * T + q_w (Z 6) T) ∨ (a = 208 ∧ b ≠ T)) → q_mf (Z 6) T a2 a3 a4 a5 a b = Z 6 a b := fun a b q => by
    unfold q_mf q_mk
    rw [am_set_p (by omega), am_set_p (by omega), am_set_p (by omega), am_set_p (by omega), am_set_p (by omega), am_set_p (by omega), am_set_p (by omega), am_set_p (by omega)]
  have hgd9 : q_gd (q_mf (Z 6) T a2 a3 a4 a5) (Z 7) (q_reck (q_mf (Z 6) T a2 a3 a4 a5) (Z 8)) := gd_mf wd wB (q_x2_p (hZ 2 : q_x2 s (Z 7))).2.2 ht c6 (mo 207 1 (by omega)) (by unfold q_mf q_mk; simp [am_set, upd]) (fun u hu => mo 208 u (by omega)) (fun a k h1 h2 h3 => mo a k (by omega)) (by unfold q_mf q_mk; simp [am_set, upd]) (by unfold q_mf q_mk; simp [am_set, upd]) (by unfold q_mf q_mk; simp [am_set, upd]) (by
      unfold q_mf q_mk
      rw [am_set_p (by omega), am_set_p (by omega), am_set_p (by omega), am_set_p (by omega), am_set_p (by omega), am_set_p (by omega), am_set_p (by omega), am_set_p (by omega)]
      exact (q_x7_g (hZ 7)).2.2.2 _ hk24) (q_x7_g (hZ 7))
  refine pu_keepX (J := [0, 1, 2, 6, 8]) (Y := pu_up (pu_up Z 6 (q_mf (Z 6) T a2 a3 a4 a5)) 8 (q_reck (q_mf (Z 6) T a2 a3 a4 a5) (Z 8))) hP hZ hfr (fun i hi => ?_) (fun i hi => ?_) (fun j hj => ?_)
  · rw [pu_up_o (fun q => hi (by rw [q]; decide)), pu_up_o (fun q => hi (by rw [q]; decide))]
  · have e : i = 0 ∨ i = 1 ∨ i = 2 ∨ i = 6 ∨ i = 8 := by simpa using hi
    rcases e with rfl | rfl | rfl | rfl | rfl
    · exact trivial
    · have tl : pr_told s := hP 1
      obtain ⟨l1, l2, l3, l5⟩ := tl
      exact ⟨by rw [oA2 _ _ (by omega), oA2 _ _ (by omega)]; exact l1, by rw [oA2 _ _ (by omega), oA2 _ _ (by omega)]; exact l2, by rw [oA2 _ _ (by omega), oA2 _ _ (by omega)]; exact l3, by rw [oA2 _ _ (by omega), oA2 _ _ (by omega)]; exact l5⟩
    · exact ⟨0, by omega, v07, u38⟩
    · exact trivial
    · exact trivial
  · have e : j ∈ [1, 3, 4, 5, 6, 7] := hj
    have e : j = 1 ∨ j = 3 ∨ j = 4 ∨ j = 5 ∨ j = 6 ∨ j = 7 := by simpa using e
    have x56 := q_56 (V := Z 12) (fun a b q => hfr a b (by rw [q]; decide)) (fun a b q => hfr a b (by rw [q]; decide)) (q_dq_k wd.1.2 (q_mf_dk (f := a2) (o := a3) (p := a4) (h := a5) wd ht c6)) (hZ 5) (hZ 6)
    rcases e with rfl | rfl | rfl | rfl | rfl | rfl
    rotate_right
    · exact q_x7_z v07 (by rw [y6, y8, pu_up_o (by decide), pu_up_o (by decide)]; exact hgd9)
    · show q_x1 V (pu_up (pu_up Z 6 (q_mf (Z 6) T a2 a3 a4 a5)) 8 (q_reck (q_mf (Z 6) T a2 a3 a4 a5) (Z 8)) 6)
      rw [y6]
      exact ⟨q_cd_out oV (fun a b q => by omega) cdU, q_oc_out oV (fun a b q => by omega) ocU, q_md_out hv2 (fun a b q => by omega) mdW, wB⟩
    · show q_x3 V (pu_up (pu_up Z 6 (q_mf (Z 6) T a2 a3 a4 a5)) 8 (q_reck (q_mf (Z 6) T a2 a3 a4 a5) (Z 8)) 6) (pu_up (pu_up Z 6 (q_mf (Z 6) T a2 a3 a4 a5)) 8 (q_reck (q_mf (Z 6) T a2 a3 a4 a5) (Z 8)) 8)
      rw [y6, y8]
      exact ⟨q_cb_out oV (fun a b q => by omega) cbU, hv3, q_wr_reck wB wrB⟩
    · refine q_x4_up (hZ 4) g3 L1 ((oA2 _ _ (by omega)).trans g3) (Nat.le_refl _) Lc L1 wd.1.2 (fun a b _ q => hfr a b (by rcases q with q | q <;> rw [q] <;> decide)) (Or.inr ⟨v07, u38, ?_, ?_⟩)
      · rw [y6, hnt]; exact Nat.le_refl _
      · rw [y8]; exact q_sr_0 eR.2.2 eR.2.1
    · show q_x5 V (pu_up (pu_up Z 6 (q_mf (Z 6) T a2 a3 a4 a5)) 8 (q_reck (q_mf (Z 6) T a2 a3 a4 a5) (Z 8)) 6) (pu_up (pu_up Z 6 (q_mf (Z 6) T a2 a3 a4 a5)) 8 (q_reck (q_mf (Z 6) T a2 a3 a4 a5) (Z 8)) 11)
      rw [y6, pu_up_o (by decide), pu_up_o (by decide)]; exact x56.1
    · show q_x6 V (pu_up (pu_up Z 6 (q_mf (Z 6) T a2 a3 a4 a5)) 8 (q_reck (q_mf (Z 6) T a2 a3 a4 a5) (Z 8)) 6) (pu_up (pu_up Z 6 (q_mf (Z 6) T a2 a3 a4 a5)) 8 (q_reck (q_mf (Z 6) T a2 a3 a4 a5) (Z 8)) 11) (pu_up (pu_up Z 6 (q_mf (Z 6) T a2 a3 a4 a5)) 8 (q_reck (q_mf (Z 6) T a2 a3 a4 a5) (Z 8)) 12)
      rw [y6, pu_up_o (by decide), pu_up_o (by decide), pu_up_o (by decide), pu_up_o (by decide)]; exact x56.2
end

noncomputable section
theorem op_write_ok {c d : Nat} (hcd : c ≤ d) : op_write (pu_R c) (pu_R d) := by
  intro s a1 a2 a3 a4 h
  replace h := h.mono hcd
  have h' := h
  obtain ⟨hP, Z, hZ⟩ := h
  obtain ⟨cd, oc, md, wd⟩ : q_x1 s (Z 6) := hZ 1
  obtain ⟨uc, um, uw⟩ := q_x2_p (hZ 2 : q_x2 s (Z 7))
  obtain ⟨cb, mb, wr⟩ : q_x3 s (Z 6) (Z 8) := hZ 3
  obtain ⟨qc, qm, qw⟩ : q_x5 s (Z 6) (Z 11) := hZ 5
  have h8 := qw.1.2
  obtain ⟨pa, e, t1, A1, A2, A3⟩ := qa_wantA cd wd wr cb qc qw a1 a2 a3
  have o1 := q_FD_LU (Q := Z 11) A2
  obtain ⟨cd1, md1, cb1, mb1, qc1, qm1⟩ := q_LU_all o1 qw cd md cb mb qc qm
  have p28 : ∀ (u : am_M) (y : Int32), y ≠ 0 → p_MO_write_28 u a1 a2 a3 a4 y ∧ f_MO_write_28 u a1 a2 a3 a4 y = (0, am_set u 207 0 y) := fun u y hy => by
    unfold p_MO_write_28 f_MO_write_28
    rw [pr_holds1 u hy]
    exact ⟨⟨fun _ => trivial, fun q => absurd rfl q⟩, rfl⟩
  rcases A3 with ⟨rfl, hno⟩ | ⟨rfl, j, i, k, rfl, rfl, rfl, hj, hi, hk, F4⟩
  · obtain ⟨pm, v, t2, B1, B2, B3⟩ := qm_isA md1 wd wr mb1 qm1 qw a1 a2 a3
    rcases B3 with ⟨rfl, -⟩ | ⟨rfl, j, i, k, e1, e2, e3, hj, hi, hk, -⟩
    rotate_left
    · exact absurd ⟨j, i, k, e1, e2, e3, hj, hi, hk⟩ hno
    obtain ⟨x1, x2⟩ := p28 t2 1 (by decide)
    refine on_write_1 (v := 0) (s1 := t1) (w := 0) (t := am_set t2 207 0 1) (by unfold f_CB_write; rw [A1]; rfl) (by unfold p_CB_write; rw [A1]; exact ⟨pa, fun q => absurd (show (1 : Nat) = 0 from q) (by decide)⟩) ?_ ?_ am_set_q (pu_look hP hZ (q_out_t o1 (q_out_t (q_LD_LU B2) q_207_LU)))
    · unfold p_MO_write; rw [B1]; exact ⟨pm, fun _ => x1, fun q => absurd rfl q⟩
    · unfold f_MO_write; rw [B1, if_pos rfl]; exact x2
  rcases pr_value t1 a4 with ⟨v1, v2⟩ | ⟨v1, v2⟩
  rotate_left
  · obtain ⟨pm, v, t2, B1, B2, B3⟩ := qm_isA md1 wd wr mb1 qm1 qw (nI j) (nI i) (nI k)
    rcases B3 with ⟨rfl, hno⟩ | ⟨rfl, -⟩
    · exact absurd ⟨j, i, k, rfl, rfl, rfl, hj, hi, hk⟩ hno
    have v3 : f_MO_isNumber t2 a4 = 0 := v2
    obtain ⟨x1, x2⟩ := p28 t2 2 (by decide)
    refine on_write_2 (v := 0) (s1 := t1) (w := 0) (t := am_set t2 207 0 2) ?_ ?_ ?_ ?_ am_set_q (pu_look hP hZ (q_out_t o1 (q_out_t (q_LD_LU B2) q_207_LU)))
    · unfold f_CB_write
      rw [A1, if_pos rfl]
      dsimp only
      rw [v1]; rfl
    · unfold p_CB_write
      rw [A1]
      dsimp only
      rw [v1]
      exact ⟨pa, fun _ q => absurd q (by decide)⟩
    · unfold p_MO_write
      rw [B1]
      dsimp only
      rw [v3]
      exact ⟨pm, fun q => absurd q i10, fun _ => ⟨fun _ => x1, fun q => absurd rfl q⟩⟩
    · unfold f_MO_write
      rw [B1, if_neg i10]
      dsimp only
      rw [v3, if_pos rfl]; exact x2
  have hv := q_num_v v2
  have hlen := q_sh_len (R := Z 8) wd qw (10 + j) (by omega)
  have hwx := q_wx_le (R := Z 8) wd qw (src := 10 + j) (Or.inr ⟨by omega, by omega⟩)
  obtain ⟨Q1, Q2⟩ := qa_q t1 (show j < 8 by omega)
  have psh : 67 + 7 * j < 207 ∧ am_sh (67 + 7 * j) = (0, 4, 17) := ⟨by omega, (qa_sh (by omega)).1⟩
  obtain ⟨O1, O2⟩ := qa_origin qc1 (show j < 8 by omega) (show k < 54 by omega)
  obtain ⟨R1, R2⟩ := qa_row qc1 qw hj (show i < 30 by omega) (show k < 54 by omega)
  have ht := q_tgt wd wr qw hj hi hk
  have esl : q_sl (10 + j) = j := by unfold q_sl; rw [if_neg (by omega)]; omega
  have ix : (1620 : Int32) * nI j + (54 : Int32) * nI i + nI k = nI (1620 * j + 54 * i + k) := by rw [qw_1620, qw_54, nI_add, nI_add]
  have oc1 := q_oc_out o1 (fun a b q => by have := q_LU_w q; omega) oc
  have uc1 := q_uc_out o1 (fun a b q => by have := q_LU_w q; omega) uc
  have um1 := q_um_out o1 (fun a b q => by have := q_LU_w q; omega) um
  have e07 : t1 0 7 = s 0 7 := o1 0 7 (fun q => by have := q_LU_w q; omega)
  have e38 : t1 207 38 = s 207 38 := o1 207 38 (fun q => by have := q_LU_w q; omega)
  -- the model finds the answer again, behind the class's work
  have model : ∀ (T2 : am_M) (V : Int32), q_out t1 T2 q_PC → ∃ t3, q_out (am_set T2 262 0 V) t3 (q_LD (Z 11)) ∧ p_MO_isAnswer (am_set T2 262 0 V) (nI j) (nI i) (nI k) ∧ f_MO_isAnswer (am_set T2 262 0 V) (nI j) (nI i) (nI k) = (1, t3) ∧ q_msh (Z 6) (Z 8) (Z 11) t3 (10 + j) ∧ q_md (am_set t3 207 0 0) (Z 6) ∧ q_mb (am_set t3 207 0 0) (Z 8) ∧ q_um (am_set t3 207 0 0) (Z 7) ∧ q_qm (am_set t3 207 0 0) (Z 11) := fun T2 V oT => by
    obtain ⟨mU, bU, uU, -⟩ := q_PC_m oT md1 mb1 um1 V
    have oU : q_out t1 (am_set T2 262 0 V) (fun a b => q_PC a b ∨ a = 262) := fun a b q => by rw [am_set_p (Or.inl (fun q2 => q (Or.inr q2))), oT a b (fun q2 => q (Or.inl q2))]
    have qmU := q_qm_out h8 oU (fun a b q => by unfold q_PC at q; omega) qm1
    obtain ⟨pm, v, t3, B1, B2, B3⟩ := qm_isA mU wd wr bU qmU qw (nI j) (nI i) (nI k)
    rcases B3 with ⟨rfl, hno⟩ | ⟨rfl, j', i', k', e1, e2, e3, hj', hi', hk', M4⟩
    · exact absurd ⟨j, i, k, rfl, rfl, rfl, hj, hi, hk⟩ hno
    obtain rfl : j = j' := (nI_eq (by omega) (by omega)).mp e1
    have oW : q_out (am_set T2 262 0 V) (am_set t3 207 0 0) (fun a b => q_LD (Z 11) a b ∨ (a = 207 ∧ b = 0)) := fun a b q => by rw [am_set_p (by omega), B2 a b (fun q2 => q (Or.inl q2))]
    have wof : ∀ a b, (q_LD (Z 11) a b ∨ (a = 207 ∧ b = 0)) → (a = 207 ∧ (b = 59 ∨ b = 0)) ∨ (248 ≤ a ∧ a ≤ 254 ∧ a ≠ 252) := fun a b q => by
      rcases q with q | q
      · have := q_LD_w q; omega
      · omega
    refine ⟨t3, B2, pm, B1, M4, q_md_out oW (fun a b q => by have := wof a b q; omega) mU, q_mb_out oW (fun a b q => by have := wof a b q; omega) bU, q_um_out oW (fun a b q => by have := wof a b q; omega) uU, ?_⟩
    exact q_qm_out (P := fun a b => a = 207 ∧ b = 0) h8 (fun a b q => am_set_p (by omega)) (fun a b q => by omega) (q_LD_qm h8 B2 qmU)
  -- frames behind the class's work
  have frame : ∀ (T2 t3 t5 : am_M) (V : Int32), q_out t1 T2 q_PC → q_out (am_set T2 262 0 V) t3 (q_LD (Z 11)) → q_out (am_set t3 207 0 0) t5 q_PM → q_out s t5 (fun a b => q_P0 a b ∨ q_LU (Z 11) a b) ∧ ∀ a b, a < 207 → t5 a b = T2 a b := fun T2 t3 t5 V oT o3 o5 => by
    refine ⟨fun a b q => ?_, fun a b ha => ?_⟩
    · have n1 : ¬ q_PM a b := fun q2 => q (Or.inl (q_PM_P0 q2))
      have n2 : ¬ q_LU (Z 11) a b := fun q2 => q (Or.inr q2)
      have n3 : ¬ q_PC a b := fun q2 => q (Or.inl (by unfold q_PC at q2; unfold q_P0; omega))
      have n4 : ¬ q_LD (Z 11) a b := fun q2 => n2 (Or.inr (Or.inr (Or.inl q2)))
      have n5 : ¬ (a = 262) := fun q2 => n2 (Or.inr (Or.inr (Or.inr (Or.inl q2))))
      have n6 : ¬ (a = 207 ∧ b = 0) := fun q2 => n2 (Or.inr (Or.inr (Or.inr (Or.inr q2))))
      rw [o5 a b n1, am_set_p (by omega), o3 a b n4, am_set_p (Or.inl n5), oT a b n3, o1 a b n2]
    · rw [o5 a b (by unfold q_PM; omega), am_set_p (by omega), o3 a b (fun q => by have := q_LD_w q; omega), am_set_p (by omega)]
  have h0262 : ∀ (T2 t3 t5 : am_M) (V : Int32), q_out (am_set T2 262 0 V) t3 (q_LD (Z 11)) → q_out (am_set t3 207 0 0) t5 q_PM → t5 207 0 = 0 ∧ t5 262 0 = V := fun T2 t3 t5 V o3 o5 => by
    refine ⟨by rw [o5 _ _ (by unfold q_PM; omega), am_set_q], ?_⟩
    rw [o5 _ _ (by unfold q_PM; omega), am_set_p (by omega), (q_LD_0 o3).2, am_set_q]
  have low : ∀ {T2 t5 : am_M}, (∀ a b, a < 207 → t5 a b = T2 a b) → q_out T2 t5 (fun a _ => 207 ≤ a) := fun h a b q => h a b (by omega)
  -- refused: nothing is written through this column
  have refuse : f_BA_isStored t1 (Z 11 (68 + 7 * j) k) = 0 → (∀ (T2 t3 : am_M) (V : Int32), q_md (am_set t3 207 0 0) (Z 6) → q_qm (am_set t3 207 0 0) (Z 11) → p_MO_writable (am_set t3 207 0 0) (nI j) (nI k) ∧ f_MO_writable (am_set t3 207 0 0) (nI j) (nI k) = -1) → p_LA_write s (nI j) (nI i) (nI k) a4 ∧ p_MO_write (f_LA_write s (nI j) (nI i) (nI k) a4).2 (nI j) (nI i) (nI k) a4 ∧ pu_B (pu_R d) (f_LA_write s (nI j) (nI i) (nI k) a4).1 (f_MO_write (f_LA_write s (nI j) (nI i) (nI k) a4).2 (nI j) (nI i) (nI k) a4) := fun hst hwr => by
    obtain ⟨r1, r2, r3, r4, r5, r6⟩ := q_re16 t1 7 (-1) (-1) (-1)
    have hput : ∀ x2, f_BA_putThrough t1 (Z 11 (68 + 7 * j) k) x2 a4 = (0, f_RE_set t1 16 7 (-1) (-1) (-1)) := fun x2 => by
      unfold f_BA_putThrough f_BA_refuse
      rw [if_pos hst]
    have pput : ∀ x2, p_BA_putThrough t1 (Z 11 (68 + 7 * j) k) x2 a4 := fun x2 => by
      unfold p_BA_putThrough p_BA_refuse
      exact ⟨qd_pstO _ _, fun _ => ⟨⟨r1, trivial⟩, Or.inl rfl, trivial⟩, fun q => absurd hst q⟩
    have hfd : q_fd (f_RE_set t1 16 7 (-1) (-1) (-1)) 16 0 q_L7 := ⟨r3, r4, r5, r6⟩
    have hg7 : q_good q_L7 = 0 := rfl
    obtain ⟨pt, T2, hT2, cd2⟩ := qc_done (s := t1) (q_out_w r2 (fun a b q => by omega)) (q_cd_out r2 (fun a b q => by omega) cd1) (q_oc_out r2 (fun a b q => by omega) oc1) (q_cb_out r2 (fun a b q => by omega) cb1) hfd
    rw [hg7] at pt hT2
    obtain ⟨oT2, cdT, ocT, cbT, fdT, u07T⟩ := cd2
    obtain ⟨t3, M1, M2, M3, M4, mdW, mbW, umW, qmW⟩ := model T2 0 oT2
    obtain ⟨w1, w2⟩ := hwr T2 t3 0 mdW qmW
    have e0 := pr_holds0 t3
    have v3 : f_MO_isNumber t3 a4 = 1 := v2
    have o5 : q_out (am_set t3 207 0 0) (q_td (am_set t3 207 0 0) 7 (-1) (-1) (-1)) q_PM := q_out_w (q_td_o _ _ _ _ _) (fun a b q => by unfold q_PM; omega)
    obtain ⟨f1, f2⟩ := frame T2 t3 _ 0 oT2 M1 o5
    obtain ⟨z1, z2⟩ := h0262 T2 t3 _ 0 M1 o5
    have fl := low f2
    have e38' : q_td (am_set t3 207 0 0) 7 (-1) (-1) (-1) 207 38 = s 207 38 := by
      rw [q_td_o _ _ _ _ _ _ _ (by omega), am_set_p (by omega), M1 _ _ (fun q => by have := q_LD_w q; omega), am_set_p (by omega), oT2 _ _ (by unfold q_PC; omega)]; exact e38
    have fin := pu_done2 (L := q_L7) (A1 := Z 6) (R1 := Z 8) hP hZ f1 (q_cd_out fl (fun a b q => by omega) cdT) (q_oc_out fl (fun a b q => by omega) ocT) (q_md_out (q_td_o _ _ _ _ _) (fun a b q => by omega) mdW) (q_cb_out fl (fun a b q => by omega) cbT) (q_mb_out (q_td_o _ _ _ _ _) (fun a b q => by omega) mbW) (q_fd_out fl (fun a b q => by omega) fdT) (q_td_v _ _ _ _ _) (by rw [f2 _ _ (by omega), u07T, hg7, if_pos rfl, if_pos rfl]; exact e07) (by rw [hg7, if_pos rfl]; exact e38') (fun q => absurd q (by unfold q_L7; simp)) q_dq_0 (fun q => absurd q (by unfold q_L7; simp))
    refine og_write (v := 0) (s1 := T2) (w := 0) (t := q_td (am_set t3 207 0 0) 7 (-1) (-1) (-1)) ?_ ?_ ?_ ?_ z1 (by rw [if_pos rfl]; exact z2) fin
    · unfold f_CB_write
      rw [A1, if_pos rfl]
      dsimp only
      rw [v1, if_pos rfl, Q2, O2, hput]
      dsimp only
      rw [hT2]
    · unfold p_CB_write
      rw [A1]
      dsimp only
      rw [Q2, O2, hput]
      dsimp only
      rw [hT2]
      exact ⟨pa, fun _ _ => ⟨Q1, O1, psh, R1, pput _, pt, Or.inl rfl, trivial⟩⟩
    · rw [if_pos rfl]
      unfold p_MO_write p_MO_write_28
      rw [M3]
      dsimp only
      rw [v3, e0]
      dsimp only
      rw [w2]
      exact ⟨M2, fun q => absurd q i10, fun _ => ⟨fun q => absurd q i10, fun _ => ⟨fun q => absurd q i10, fun _ => ⟨w1, fun _ => trivial, fun q => absurd rfl q⟩⟩⟩⟩
    · rw [if_pos rfl]
      unfold f_MO_write f_MO_write_28
      rw [M3, if_neg i10]
      dsimp only
      rw [v3, if_neg i10, e0, if_neg i10]
      dsimp only
      rw [w2, if_pos rfl]; rfl
  rcases ht with g | ⟨g1, T, C, r, g2, g3, g4, g5, g6, g7, g9⟩
  · exact refuse (by rw [g]; exact qd_stM1 _) (fun T2 t3 V mdW qmW => by
      obtain ⟨w1, w2, -⟩ := qm_writable mdW qmW h8 hj (show k < 54 by omega) (Or.inl g)
      exact ⟨w1, w2 g⟩)
  have hst := qd_stO cd1 g3 g4
  rw [← g2] at hst
  by_cases hs : Z 6 209 (6 * T + C) = 0 ∨ Z 6 209 (6 * T + C) = 1
  rotate_left
  · rw [if_neg hs] at hst
    exact refuse hst (fun T2 t3 V mdW qmW => by
      obtain ⟨w1, -, w3⟩ := qm_writable mdW qmW h8 hj (show k < 54 by omega) (Or.inr ⟨g1, T, C, g2, g3, g4⟩)
      have := w3 T C g2 g3 g4
      rw [if_neg hs] at this
      exact ⟨w1, this⟩)
  -- written
  have hrow := R2 (by
    have := (q_sw_le wd qw (src := 10 + j) (Or.inr ⟨by omega, by omega⟩)).2
    omega)
  have hcr := (F4.2.2.1 i hi).2 _ g7
  rw [Nat.zero_add, g9] at hcr
  rw [hcr] at hrow
  have hgood := fun q => q_put_wr (U := Z 7) (v := a4) wd wr hv hs g3 g5 g4 q
  have hre := q_we_reck wd (q_put_we (x := 180 * T + 6 * r + C) wr.we hv)
  obtain ⟨pB, t1', hB, oB, cbB, fdB, -⟩ := qc_put (v := a4) cd1 oc1 wd wr.we cb1 uc1 uw g3 g5 g4 hs hv
  have hmod := fun (u : am_M) (mu : q_md u (Z 6)) (bu : q_mb u (Z 8)) (uu : q_um u (Z 7)) => qm_put (v := a4) mu wd wr.we bu uu uw g3 g5 g4 hv
  have hle : (∀ u, u < 4 → q_c (Z 8 0 u) ≤ q_c (q_reck (Z 6) (q_put (Z 8) (180 * T + 6 * r + C) a4) 0 u)) ∧ ∀ p, p < 120 → q_reck (Z 6) (q_put (Z 8) (180 * T + 6 * r + C) a4) 1 p = Z 8 1 p ∨ q_reck (Z 6) (q_put (Z 8) (180 * T + 6 * r + C) a4) 1 p = 0 := ⟨fun u _ => by rw [hre.2.2, q_put_0]; exact Nat.le_refl _, fun p _ => by rw [hre.2.1, q_put_1]; exact Or.inl rfl⟩
  have hgd9 : q_brk (Z 6) (Z 7) (q_reck (Z 6) (q_put (Z 8) (180 * T + 6 * r + C) a4)) = [] → q_gd (Z 6) (Z 7) (q_reck (Z 6) (q_put (Z 8) (180 * T + 6 * r + C) a4)) := fun q => gd_reck wd (q_x7_g (hZ 7)).2.2 q
  generalize q_brk (Z 6) (Z 7) (q_reck (Z 6) (q_put (Z 8) (180 * T + 6 * r + C) a4)) = L at *
  generalize q_reck (Z 6) (q_put (Z 8) (180 * T + 6 * r + C) a4) = RR at *
  have hpA : q_pick L (Z 6) (Z 6) = Z 6 := by rcases q_good_c L with ⟨-, -, g3⟩ | ⟨-, -, g3⟩ <;> rw [g3]
  have cdP : q_cd t1' (q_pick L (Z 6) (Z 6)) := by rw [hpA]; exact q_cd_out oB (fun a b q => by omega) cd1
  have ocP : q_oc t1' (q_pick L (Z 6) (Z 6)) := by rw [hpA]; exact q_oc_out oB (fun a b q => by omega) oc1
  obtain ⟨pt, T2, hT2, oT2, cdT, ocT, cbT, fdT, u07T⟩ := qc_done (s := t1) (q_out_w oB (fun a b q => by omega)) cdP ocP cbB fdB
  obtain ⟨t3, M1, M2, M3, M4, mdW, mbW, umW, qmW⟩ := model T2 (if q_good L = 0 then 0 else 1) oT2
  obtain ⟨w1, -, w3⟩ := qm_writable mdW qmW h8 hj (show k < 54 by omega) (Or.inr ⟨g1, T, C, g2, g3, g4⟩)
  have w2 := w3 T C g2 g3 g4
  rw [if_pos hs] at w2
  have e0 := pr_holds0 t3
  have v3 : f_MO_isNumber t3 a4 = 1 := v2
  have hm := (M4.2.2.1 i hi k hk).2 (by unfold q_so; rw [if_neg (by omega), show 10 + j - 10 = j from by omega, g2]; exact q_m1_ne (by omega))
  have esp : q_sp (Z 11) (10 + j) k = q_c (Z 11 (69 + 7 * j) k) := by unfold q_sp; rw [if_neg (by omega), show 10 + j - 10 = j from by omega]
  rw [esl, Nat.zero_add, esp, g9] at hm
  have hm' : am_set t3 207 0 0 251 (1620 * j + 54 * i + k) = nI r := (am_set_p (by omega)).trans hm
  obtain ⟨pw, t4, ht4, o4, mb4, fd4⟩ := hmod _ mdW mbW umW
  obtain ⟨pch, t5, ht5, o5', u5⟩ := @qm_chg t4 L
  have o5 : q_out (am_set t3 207 0 0) t5 q_PM := fun a b hab => by
    unfold q_PM at hab
    rw [o5' a b (by omega), o4 a b (by omega)]
  obtain ⟨f1, f2⟩ := frame T2 t3 t5 _ oT2 M1 o5
  obtain ⟨z1, z2⟩ := h0262 T2 t3 t5 _ M1 o5
  have fl := low f2
  have e38' : t5 207 38 = if q_good L = 0 then s 207 38 else 0 := by
    rw [u5, o4 _ _ (by omega), am_set_p (by omega), M1 _ _ (fun q => by have := q_LD_w q; omega), am_set_p (by omega), oT2 _ _ (by unfold q_PC; omega), e38]
  have hnw := q_m1_ne (n := 6 * T + C) (by omega)
  have fin := pu_done2 (L := L) (A1 := Z 6) (R1 := RR) hP hZ f1 (q_cd_out fl (fun a b q => by omega) cdT) (q_oc_out fl (fun a b q => by omega) ocT) (by rw [hpA]; exact q_md_out o5' (fun a b q => by omega) (q_md_out o4 (fun a b q => by omega) mdW)) (q_cb_out fl (fun a b q => by omega) cbT) (q_mb_out o5' (fun a b q => by omega) mb4) (q_fd_out fl (fun a b q => by omega) fdT) (q_fd_out o5' (fun a b q => by omega) fd4) (by rw [f2 _ _ (by omega), u07T, e07]) e38' (fun q => ⟨wd, hgood q, Nat.le_refl _, hle⟩) q_dq_0 hgd9
  refine og_write (v := q_good L) (s1 := T2) (w := q_good L) (t := t5) ?_ ?_ ?_ ?_ z1 z2 fin
  · unfold f_CB_write
    rw [A1, if_pos rfl]
    dsimp only
    rw [v1, if_pos rfl, Q2, O2, hrow, g2, hB]
    dsimp only
    rw [hT2]
  · unfold p_CB_write
    rw [A1]
    dsimp only
    rw [Q2, O2, hrow, g2, hB]
    dsimp only
    rw [hT2]
    exact ⟨pa, fun _ _ => ⟨Q1, by rw [← Q2] at O1 ⊢; exact O1, psh, R1, pB, pt, q_good_01 L, trivial⟩⟩
  · unfold p_MO_write p_MO_write_28
    rw [M3]
    dsimp only
    rw [v3, e0]
    dsimp only
    rw [w2, ix, nI_clamp (n := 1620 * j + 54 * i + k) (by omega), hm', qr_6 (by omega), qd_6 (by omega), show (6 * T + C) / 6 = T from by omega, show (6 * T + C) % 6 = C from by omega, ht4]
    dsimp only
    rw [ht5]
    exact ⟨M2, fun q => absurd q i10, fun _ => ⟨fun q => absurd q i10, fun _ => ⟨fun q => absurd q i10, fun _ => ⟨w1, fun q => absurd q hnw, fun _ => ⟨vp_in_nI (by omega) (by omega), pw, pch, q_good_01 L, trivial⟩⟩⟩⟩⟩
  · unfold f_MO_write f_MO_write_28
    rw [M3, if_neg i10]
    dsimp only
    rw [v3, if_neg i10, e0, if_neg i10]
    dsimp only
    rw [w2, if_neg hnw, ix, nI_clamp (n := 1620 * j + 54 * i + k) (by omega), hm', qr_6 (by omega), qd_6 (by omega), show (6 * T + C) / 6 = T from by omega, show (6 * T + C) % 6 = C from by omega, ht4]
    dsimp only
    rw [ht5]
end

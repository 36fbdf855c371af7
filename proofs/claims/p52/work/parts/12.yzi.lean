noncomputable section
-- reckonAnew: the class
theorem qc_frm0 {s S O A : am_M} {T C k : Nat} {f o p h x : Int32} (hcol : f_BA_column s (nI T) (nI C) = 20 + k) (hk : k < 24) (p1 : p_BA_keep s) (s1 : f_BA_keep s = S) (p2 : p_CO_setFormula S (20 + k) f o p h) (p3 : p_BA_putInOrder (f_CO_setFormula S (20 + k) f o p h)) (t1 : f_BA_putInOrder (f_CO_setFormula S (20 + k) f o p h) = (x, O)) (e7 : s (20 + k) 7 = A 214 k) (e8 : s (20 + k) 8 = A 215 k) (e9 : s (20 + k) 9 = A 216 k) (e10 : s (20 + k) 10 = A 217 k) : f_BA_changeFormula s (nI T) (nI C) f o p h = (if x = 0 then f_BA_changeFormula_74 (f_BA_refuse O (9 : Int32) (nI T) (nI C)).2 (nI T) (nI C) f o p h (20 + k) (A 214 k) (A 215 k) (A 216 k) (A 217 k) (f_BA_refuse O (9 : Int32) (nI T) (nI C)).1 else f_BA_changeFormula_74 (f_BA_settle O).2 (nI T) (nI C) f o p h (20 + k) (A 214 k) (A 215 k) (A 216 k) (A 217 k) (f_BA_settle O).1) ∧ ((x = 0 → p_BA_refuse O (9 : Int32) (nI T) (nI C) ∧ p_BA_changeFormula_74 (f_BA_refuse O (9 : Int32) (nI T) (nI C)).2 (nI T) (nI C) f o p h (20 + k) (A 214 k) (A 215 k) (A 216 k) (A 217 k) (f_BA_refuse O (9 : Int32) (nI T) (nI C)).1) → (¬ x = 0 → p_BA_settle O ∧ p_BA_changeFormula_74 (f_BA_settle O).2 (nI T) (nI C) f o p h (20 + k) (A 214 k) (A 215 k) (A 216 k) (A 217 k) (f_BA_settle O).1) → p_BA_changeFormula s (nI T) (nI C) f o p h) := by
  constructor
  · unfold f_BA_changeFormula
    rw [hcol, e7, e8, e9, e10, s1, t1]
  · intro h1 h2
    unfold p_BA_changeFormula
    rw [hcol, e7, e8, e9, e10, s1, t1]
    exact ⟨qd_pcol _ _ _, ⟨by omega, qd_sh hk⟩, p1, p2, p3, h1, h2⟩
theorem qc_frm {s A R U : am_M} {T C k : Nat} {f o p h : Int32} (cd : q_cd s A) (w : q_wd A) (wr : q_wr A R) (cb : q_cb s 9 10 11 R) (uc : q_uc s U) (uw : q_uw U) (hT : T < 4) (hC : C < 6) (hkk : 6 * T + C = k) (hf : q_f A T f o p h) : p_BA_changeFormula s (nI T) (nI C) f o p h ∧ ∃ t, f_BA_changeFormula s (nI T) (nI C) f o p h = (q_good (q_fL (q_fm A k f o p h) U R T C), t) ∧ q_out s t (fun a b => (9 ≤ a ∧ a ≤ 11) ∨ (13 ≤ a ∧ a ≤ 43) ∨ (a = 1 ∧ b = 8) ∨ a = 7) ∧ q_cd t (q_pick (q_fL (q_fm A k f o p h) U R T C) (q_fm A k f o p h) A) ∧ q_oc t (q_pick (q_fL (q_fm A k f o p h) U R T C) (q_fm A k f o p h) A) ∧ q_cb t 9 10 11 (q_pick (q_fL (q_fm A k f o p h) U R T C) (q_reck (q_fm A k f o p h) R) R) ∧ q_fd t 16 0 (q_fL (q_fm A k f o p h) U R T C) := by
  have hk : k < 24 := by omega
  have hcol : f_BA_column s (nI T) (nI C) = 20 + k := by rw [qd_col hT hC, hkk]
  obtain ⟨wB, hwr, -⟩ := q_fm_wd (k := k) w (by rw [show k / 6 = T from by omega]; exact hf)
  have weB := (hwr _ wr).we
  obtain ⟨p1, S, s1, s2, s3⟩ := qk_keep cb
  obtain ⟨p2, c2, o2⟩ := q_sf (f := f) (o := o) (p := p) (h := h) (q_cd_out s2 (fun a b q => by omega) cd) hk
  obtain ⟨p3, O, t1, t2, t3⟩ := qo_C c2 wB
  have h0 := qc_frm0 (A := A) hcol hk p1 s1 p2 p3 t1 (cd.2.2.2 k 7 hk (by omega) (by omega)) (cd.2.2.2 k 8 hk (by omega) (by omega)) (cd.2.2.2 k 9 hk (by omega) (by omega)) (cd.2.2.2 k 10 hk (by omega) (by omega))
  have oO : q_out s O (fun a b => (13 ≤ a ∧ a ≤ 15) ∨ a = 17 ∨ (20 ≤ a ∧ a ≤ 43) ∨ (a = 1 ∧ b = 8) ∨ a = 7) := fun a b hab => by rw [t2 a b (by omega), o2 a b (by omega), s2 a b (by omega)]
  have cdO := q_cd_out t2 (fun a b q => by omega) c2
  have cbO := q_cb_out oO (fun a b q => by omega) cb
  have bfO : q_cb O 13 14 15 R := q_cb_out2 t2 (fun a b q => by omega) (q_cb_out2 o2 (fun a b q => by omega) s3)
  have ucO := q_uc_out oO (fun a b q => by omega) uc
  clear t1 t2 s1 s2 s3 o2 c2 p1 p2 p3 cd cb uc hf hcol
  by_cases st : q_str (q_fm A k f o p h) = 0
  · have hL : q_fL (q_fm A k f o p h) U R T C = [(9, T, q_m1, C)] := if_pos st
    obtain ⟨r0, r1, X, x1, x2, x3, x4, x5, x6⟩ := qc_frmA (T := T) (C := C) w cdO hk cbO
    rw [if_pos st, x1] at h0
    rw [hL]
    exact ⟨h0.2 (fun _ => ⟨r0, r1⟩) (fun q => absurd st q), X, h0.1, fun a b hab => by rw [x2 a b (by omega), oO a b (by omega)], x3, x4, x5, x6⟩
  · have hL : q_fL (q_fm A k f o p h) U R T C = q_brk (q_fm A k f o p h) U (q_reck (q_fm A k f o p h) R) := if_neg st
    obtain ⟨r0, r1, X, x1, x2, x3, x4, x5, x6⟩ := qc_frmB (T := T) (C := C) w wB weB cdO t3 hk cbO bfO ucO uw
    rw [if_neg st, x1] at h0
    rw [hL]
    exact ⟨h0.2 (fun q => absurd q st) (fun _ => ⟨r0, r1⟩), X, h0.1, fun a b hab => by rw [x2 a b (by omega), oO a b (by omega)], x3, x4, x5, x6⟩
/-- the model's formula -/
theorem q_mfm {s A : am_M} {k : Nat} {f o p h : Int32} (md : q_md s A) (hk : k < 24) : p_MO_formula s (nI k) f o p h ∧ q_md (f_MO_formula s (nI k) f o p h) (q_fm A k f o p h) ∧ q_out s (f_MO_formula s (nI k) f o p h) (fun a _ => 214 ≤ a ∧ a ≤ 217) := by
  have hv : vp_in (nI k) 24 := vp_in_nI hk (by omega)
  refine ⟨⟨hv, hv, hv, hv, trivial⟩, ?_, fun a b hab => ?_⟩
  · unfold f_MO_formula
    rw [nI_clamp (n := k) (by omega)]
    exact q_md_fld (by omega) (q_md_fld (by omega) (q_md_fld (by omega) (q_md_fld (by omega) md)))
  · unfold f_MO_formula
    rw [am_set_p (by omega), am_set_p (by omega), am_set_p (by omega), am_set_p (by omega)]
/-- the model's end, a circle or none; s after the order was laid, u before all -/
theorem qm_155 {s u A R U : am_M} {k T C : Nat} {f o p h : Int32} (mdS : q_md s (q_fm A k f o p h)) (wB : q_wd (q_fm A k f o p h)) (weB : q_we (q_fm A k f o p h) R) (mb : q_mb s R) (um : q_um s U) (uw : q_uw U) (mh : q_mh s 6 R) (hk : k < 24) (x1 x2 x3 x4 x5 x6 x7 x8 : Int32) (ou : q_out u s q_PM) (e38 : s 207 38 = u 207 38) (hst : q_str (q_fm A k f o p h) = 0 → q_fd s 207 31 [(9, T, q_m1, C)]) : p_MO_reckonAnew_155 s x1 x2 x3 x4 x5 x6 x7 x8 (nI k) (A 214 k) (A 215 k) (A 216 k) (A 217 k) (q_str (q_fm A k f o p h)) ∧ ∃ t, f_MO_reckonAnew_155 s x1 x2 x3 x4 x5 x6 x7 x8 (nI k) (A 214 k) (A 215 k) (A 216 k) (A 217 k) (q_str (q_fm A k f o p h)) = (q_good (q_fL (q_fm A k f o p h) U R T C), t) ∧ q_mdone u t (q_fL (q_fm A k f o p h) U R T C) (q_pick (q_fL (q_fm A k f o p h) U R T C) (q_fm A k f o p h) A) (q_pick (q_fL (q_fm A k f o p h) U R T C) (q_reck (q_fm A k f o p h) R) R) := by
  unfold p_MO_reckonAnew_155 f_MO_reckonAnew_155 q_fL
  by_cases st : q_str (q_fm A k f o p h) = 0
  · obtain ⟨p1, c1, o1⟩ := q_mfm (f := A 214 k) (o := A 215 k) (p := A 216 k) (h := A 217 k) mdS hk
    rw [q_fm_back] at c1
    have fd := hst st
    rw [if_pos st, if_pos st]
    refine ⟨⟨fun _ => ⟨p1, trivial⟩, fun q => absurd st q⟩, _, rfl, fun a b hab => ?_, c1, q_mb_out o1 (fun a b q => by omega) mb, q_fd_out o1 (fun i j q => by omega) fd, ?_⟩
    · rw [o1 a b (fun q => hab (by unfold q_PM; omega)), ou a b hab]
    · show f_MO_formula s (nI k) (A 214 k) (A 215 k) (A 216 k) (A 217 k) 207 38 = u 207 38
      rw [o1 _ _ (by omega), e38]
  · obtain ⟨p2, V, y1, y2, y3, y4⟩ := qm_isKept mdS wB weB mb um uw mh
    have mdV := q_md_out y2 (fun a b q => by omega) mdS
    have oV : q_out u V q_PM := fun a b hab => by rw [y2 a b (fun q => hab (by unfold q_PM; omega)), ou a b hab]
    have v38 : V 207 38 = u 207 38 := by rw [y2 _ _ (by omega), e38]
    rw [if_neg st, if_neg st, y1]
    dsimp only
    rcases q_good_c (q_brk (q_fm A k f o p h) U (q_reck (q_fm A k f o p h) R)) with ⟨g1, g2, g3⟩ | ⟨g1, g2, g3⟩
    · obtain ⟨pch, t, c1, c2, c3⟩ := @qm_chg V (q_brk (q_fm A k f o p h) U (q_reck (q_fm A k f o p h) R))
      rw [g3] at y3
      rw [g2] at pch c1 c3
      rw [g2, g3, g3, if_neg i10, c1]
      refine ⟨⟨fun q => absurd q st, fun _ => ⟨p2, fun q => absurd q i10, fun _ => ⟨pch, Or.inr rfl, trivial⟩⟩⟩, t, rfl, fun a b hab => ?_, q_md_out c2 (fun a b q => by omega) mdV, q_mb_out c2 (fun a b q => by omega) y3, q_fd_out c2 (fun i j q => by omega) y4, ?_⟩
      · rw [c2 a b (fun q => hab (by unfold q_PM; omega)), oV a b hab]
      · rw [g2, if_neg i10]; rw [if_neg i10] at c3; exact c3
    · obtain ⟨p1, c1, o1⟩ := q_mfm (f := A 214 k) (o := A 215 k) (p := A 216 k) (h := A 217 k) mdV hk
      rw [q_fm_back] at c1
      rw [g3] at y3
      rw [g2, g3, g3, if_pos rfl]
      refine ⟨⟨fun q => absurd q st, fun _ => ⟨p2, fun _ => ⟨p1, trivial⟩, fun q => absurd rfl q⟩⟩, _, rfl, fun a b hab => ?_, c1, q_mb_out o1 (fun a b q => by omega) y3, q_fd_out o1 (fun i j q => by omega) y4, ?_⟩
      · rw [o1 a b (fun q => hab (by unfold q_PM; omega)), oV a b hab]
      · rw [g2, if_pos rfl, o1 _ _ (by omega), v38]
end

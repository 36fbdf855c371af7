noncomputable section
-- how the law begins: the class, call by call
def BF (s : am_M) (n w0 w1 w2 q a : Nat) : Prop := s 1 3 = nI n ∧ s 4 0 = nI w0 ∧ s 4 1 = nI w1 ∧ s 4 2 = nI w2 ∧ s 52 3 = nI q ∧ s 0 5 = nI a ∧ s 126 1 = 0
def BL9 (s : am_M) : Prop := s 20 0 = 1 ∧ s 21 0 = 2 ∧ s 21 3 = nI 1
def BQ9 (s : am_M) : Prop := s 67 0 = 0 ∧ s 67 7 = nI 2
theorem BF_out {s t : am_M} {n w0 w1 w2 q a : Nat} {P : Nat → Nat → Prop} (o : q_out s t P) (hP : ∀ x y, P x y → ¬ ((x = 1 ∧ y = 3) ∨ (x = 4 ∧ y < 3) ∨ (x = 52 ∧ y = 3) ∨ (x = 0 ∧ y = 5) ∨ (x = 126 ∧ y = 1))) (f : BF s n w0 w1 w2 q a) : BF t n w0 w1 w2 q a := by
  obtain ⟨f1, f2, f3, f4, f5, f6, f7⟩ := f
  have k : ∀ x y, ((x = 1 ∧ y = 3) ∨ (x = 4 ∧ y < 3) ∨ (x = 52 ∧ y = 3) ∨ (x = 0 ∧ y = 5) ∨ (x = 126 ∧ y = 1)) → t x y = s x y := fun x y h => o x y (fun z => hP x y z h)
  exact ⟨(k _ _ (by omega)).trans f1, (k _ _ (by omega)).trans f2, (k _ _ (by omega)).trans f3, (k _ _ (by omega)).trans f4, (k _ _ (by omega)).trans f5, (k _ _ (by omega)).trans f6, (k _ _ (by omega)).trans f7⟩
theorem B_of {c n w0 w1 w2 q a : Nat} {s : am_M} (h : pu_R c s) (f : BF s n w0 w1 w2 q a) (hn : n ≤ 4) (h0 : w0 ≤ 6) (h1 : w1 ≤ 6) (h2 : w2 ≤ 6) (hq : q ≤ 8) : ∃ A R Q, (q_cd s A ∧ q_md s A ∧ q_oc s A ∧ q_wd A) ∧ (q_cb s 9 10 11 R ∧ q_wr A R) ∧ (q_qc s Q ∧ q_qw A Q) ∧ q_nt A = n ∧ q_w A 0 = w0 ∧ q_w A 1 = w1 ∧ q_w A 2 = w2 ∧ q_nq Q = q := by
  obtain ⟨hP, Z, hZ⟩ := h
  obtain ⟨cd, oc, md, wd⟩ : q_x1 s (Z 6) := hZ 1
  obtain ⟨cb, mb, wr⟩ : q_x3 s (Z 6) (Z 8) := hZ 3
  obtain ⟨qc, qm, qw⟩ : q_x5 s (Z 6) (Z 11) := hZ 5
  obtain ⟨f1, f2, f3, f4, f5, f6, f7⟩ := f
  refine ⟨Z 6, Z 8, Z 11, ⟨cd, md, oc, wd⟩, ⟨cb, wr⟩, ⟨qc, qw⟩, ?_, ?_, ?_, ?_, ?_⟩
  · show q_c (Z 6 207 1) = n; rw [← cd.1, f1]; exact nI_clamp (by omega)
  · show q_c (Z 6 208 0) = w0; rw [← cd.2.1 0 (by omega), f2]; exact nI_clamp (by omega)
  · show q_c (Z 6 208 1) = w1; rw [← cd.2.1 1 (by omega), f3]; exact nI_clamp (by omega)
  · show q_c (Z 6 208 2) = w2; rw [← cd.2.1 2 (by omega), f4]; exact nI_clamp (by omega)
  · show q_c (Z 11 52 3) = q; rw [← qc.1, f5]; exact nI_clamp (by omega)
theorem B_table {s : am_M} {n : Nat} (e1 : s 1 3 = nI n) (hn : n < 4) : f_CB_addTable s = (0, nI n, am_set (am_set s 0 7 0) 1 3 (nI (n + 1))) := by
  unfold f_CB_addTable f_CB_forgetActs
  rw [if_pos (by rw [e1]; exact qt_4 hn), am_set_p (Or.inl (by decide)), e1, nI_1]
theorem B_number {s A : am_M} {T w : Nat} {lo hi : Int32} (cd : q_cd s A) (wd : q_wd A) (ht : T < q_nt A) (hw : q_w A T = w) (h6 : w < 6) (v1 : f_CB_wantRange s lo hi = 0) : f_CB_addNumber s (nI T) lo hi = (0, nI w, am_set (am_set (am_set (am_set (am_set s 0 7 0) 4 T (nI (w + 1))) (20 + (6 * T + w)) 0 1) (20 + (6 * T + w)) 1 lo) (20 + (6 * T + w)) 2 hi) := by
  subst hw
  have h4 := wd.1.2
  have hT := qd_wantT cd wd (nI T)
  have g : q_isT A (nI T) = 1 := by unfold q_isT; exact q_in_1 ht (by omega)
  rw [g, if_neg i10] at hT
  have hPl := qd_place cd wd ht
  rw [if_pos h6] at hPl
  have hmC := qd_makeNumber (q_cd_set (i := 0) (k := 7) (x := 0) (by omega) cd) wd ht h6 lo hi
  unfold f_CB_addNumber f_CB_forgetActs
  rw [hT, v1, hPl, hmC.2]; rfl
theorem B_link {s A : am_M} {T T2 w : Nat} {a3 : Int32} (cd : q_cd s A) (wd : q_wd A) (ht : T < q_nt A) (ht2 : T2 < q_nt A) (hw : q_w A T = w) (h6 : w < 6) (v1 : f_CB_wantRemoval s a3 = 0) : f_CB_addLink s (nI T) (nI T2) a3 = (0, nI w, am_set (am_set (am_set (am_set (am_set s 0 7 0) 4 T (nI (w + 1))) (20 + (6 * T + w)) 0 2) (20 + (6 * T + w)) 3 (nI T2)) (20 + (6 * T + w)) 4 a3) := by
  subst hw
  have h4 := wd.1.2
  have hT := qd_wantT cd wd (nI T)
  have hT2 := qd_wantT cd wd (nI T2)
  have g : q_isT A (nI T) = 1 := by unfold q_isT; exact q_in_1 ht (by omega)
  have g2 : q_isT A (nI T2) = 1 := by unfold q_isT; exact q_in_1 ht2 (by omega)
  rw [g, if_neg i10] at hT
  rw [g2, if_neg i10] at hT2
  have hPl := qd_place cd wd ht
  rw [if_pos h6] at hPl
  have hmC := qd_makeLink (q_cd_set (i := 0) (k := 7) (x := 0) (by omega) cd) wd ht h6 (nI T2) a3
  unfold f_CB_addLink f_CB_forgetActs
  rw [hT, hT2, v1, hPl, hmC.2]; rfl
theorem B_reck {s A R : am_M} {T : Nat} {a2 a3 a4 a5 : Int32} (cd : q_cd s A) (md : q_md s A) (wd : q_wd A) (cb : q_cb s 9 10 11 R) (wr : q_wr A R) (ht : T < q_nt A) (c6 : q_w A T < 6) (fe : f_CB_wantFormula s (nI T) a2 a3 a4 a5 = 0) : ∃ S, f_CB_addReckoned s (nI T) a2 a3 a4 a5 = (0, nI (q_w A T), S) ∧ q_out s S (fun a b => (a = 0 ∧ b = 7) ∨ a = 4 ∨ (20 ≤ a ∧ a ≤ 43) ∨ (a = 1 ∧ b = 8) ∨ a = 7 ∨ a = 17 ∨ a = 11 ∨ a = 19) ∧ q_cd S (q_mf A T a2 a3 a4 a5) := by
  have h4 := wd.1.2
  have hT4 : T < 4 := by omega
  have hT := qd_wantT cd wd (nI T)
  have g : q_isT A (nI T) = 1 := by unfold q_isT; exact q_in_1 ht (by omega)
  rw [g, if_neg i10] at hT
  obtain ⟨-, -, ee, fe2, -, -, f0⟩ := q_formE cd md wd hT4 a2 a3 a4 a5
  have hqf := f0 (fe2.symm.trans fe)
  have hPl := qd_place cd wd ht
  rw [if_pos c6] at hPl
  obtain ⟨wB, hwr, hnt⟩ := q_mf_wd wd ht c6 hqf
  have wrB := hwr _ wr
  have mk := qd_mkC (q_cd_set (i := 0) (k := 7) (x := 0) (by omega) cd) wd ht c6 (3 : Int32)
  have cdK := q_cd_mk (q_cd_set (i := 0) (k := 7) (x := 0) (by omega) cd) wd ht c6 (2 : Int32)
  rw [show q_kc (2 : Int32) = 3 from by decide] at cdK
  have hk24 : 6 * T + q_w A T < 24 := by omega
  have cdF : q_cd (f_CO_setFormula (am_set (am_set (am_set s 0 7 0) 4 T (nI (q_w A T + 1))) (20 + (6 * T + q_w A T)) 0 3) (20 + (6 * T + q_w A T)) a2 a3 a4 a5) (q_mf A T a2 a3 a4 a5) := q_cd_fld (j := 10) hk24 (by omega) (by omega) (q_cd_fld (j := 9) hk24 (by omega) (by omega) (q_cd_fld (j := 8) hk24 (by omega) (by omega) (q_cd_fld (j := 7) hk24 (by omega) (by omega) cdK)))
  have oF : q_out s (f_CO_setFormula (am_set (am_set (am_set s 0 7 0) 4 T (nI (q_w A T + 1))) (20 + (6 * T + q_w A T)) 0 3) (20 + (6 * T + q_w A T)) a2 a3 a4 a5) (fun a b => (a = 0 ∧ b = 7) ∨ a = 4 ∨ (20 ≤ a ∧ a ≤ 43)) := fun a b hab => by
    unfold f_CO_setFormula
    repeat rw [am_set_p (by omega)]
  generalize hF : f_CO_setFormula (am_set (am_set (am_set s 0 7 0) 4 T (nI (q_w A T + 1))) (20 + (6 * T + q_w A T)) 0 3) (20 + (6 * T + q_w A T)) a2 a3 a4 a5 = F at *
  obtain ⟨po, O, ho1, ho2, ho3⟩ := qo_C cdF wB
  have oO : q_out s O (fun a b => (a = 0 ∧ b = 7) ∨ a = 4 ∨ (20 ≤ a ∧ a ≤ 43) ∨ (a = 1 ∧ b = 8) ∨ a = 7 ∨ a = 17) := fun a b hab => by rw [ho2 a b (by omega), oF a b (by omega)]
  obtain ⟨pr, S, hr1, hr2, hr3⟩ := qk_reckon (q_cd_out ho2 (fun a b q => by omega) cdF) ho3 wB wrB.we (q_cb_out oO (fun a b q => by omega) cb)
  have oS : q_out s S (fun a b => (a = 0 ∧ b = 7) ∨ a = 4 ∨ (20 ≤ a ∧ a ≤ 43) ∨ (a = 1 ∧ b = 8) ∨ a = 7 ∨ a = 17 ∨ a = 11 ∨ a = 19) := fun a b hab => by rw [hr2 a b (by omega), oO a b (by omega)]
  have hB : f_BA_makeReckoned (am_set s 0 7 0) (nI T) a2 a3 a4 a5 = (nI (q_w A T), S) := by
    unfold f_BA_makeReckoned
    rw [mk.2]
    dsimp only
    rw [qd_col hT4 c6, hF, ho1]
    dsimp only
    rw [hr1]
  refine ⟨S, ?_, oS, q_cd_out hr2 (fun a b q => by omega) (q_cd_out ho2 (fun a b q => by omega) cdF)⟩
  unfold f_CB_addReckoned f_CB_forgetActs
  rw [hT, fe, hPl, hB]; rfl
theorem B_form {s A : am_M} (cd : q_cd s A) (wd : q_wd A) (hn : q_nt A = 3) (hw : q_w A 0 = 2) (hl : BL9 s) : f_CB_wantFormula s (nI 1) (3 : Int32) (1 : Int32) (0 : Int32) (0 : Int32) = 0 := by
  have hc : ∀ j, j < 2 → f_CB_wantColumn s (nI 0) (nI j) = 0 := fun j hj => by
    rw [qd_wantC cd wd]
    have e : q_isC A (nI 0) (nI j) = 1 := by
      unfold q_isC q_isT
      rw [q_in_1 (show 0 < q_nt A by omega) (by omega), if_neg i10, show q_c (nI 0) = 0 from nI_clamp (by omega)]
      exact q_in_1 (by omega) (by omega)
    rw [e, if_neg i10]
  have c1 : f_CB_wantColumn s (0 : Int32) (1 : Int32) = 0 := hc 1 (by omega)
  have c0 : f_CB_wantColumn s (0 : Int32) (0 : Int32) = 0 := hc 0 (by omega)
  have k0 : f_BA_column s (0 : Int32) (0 : Int32) = 20 := qd_col (s := s) (t := 0) (c := 0) (by omega) (by omega)
  have k1 : f_BA_column s (0 : Int32) (1 : Int32) = 21 := qd_col (s := s) (t := 0) (c := 1) (by omega) (by omega)
  have l1 : f_CB_wantLinkTo s (0 : Int32) (1 : Int32) (nI 1) = 0 := by
    unfold f_CB_wantLinkTo f_CB_wantLink
    rw [k1, hl.2.1, hl.2.2, if_pos rfl, if_pos rfl, if_pos rfl]
  have l2 : f_CB_wantNotDropped s (0 : Int32) (0 : Int32) = 0 := by
    unfold f_CB_wantNotDropped
    rw [k0, hl.1, if_neg i10]
  have l3 : f_CB_wantGathering s (nI 1) (3 : Int32) (1 : Int32) (0 : Int32) (0 : Int32) = 0 := by
    unfold f_CB_wantGathering f_CB_wantGathering_20
    rw [c1, c0, l1, l2]; simp
  unfold f_CB_wantFormula
  rw [if_neg (show ¬ (3 : Int32) = 0 by decide), if_neg (show ¬ (3 : Int32) = 1 by decide), if_neg (show ¬ (3 : Int32) = 2 by decide), if_pos rfl, l3, if_pos rfl]
theorem B_ask0 {s A R Q : am_M} {src : Nat} (cd : q_cd s A) (wd : q_wd A) (qc : q_qc s Q) (qw : q_qw A Q) (hs : q_isS A Q src) (hx : ¬ q_xS Q src) (hn : q_nq Q < 8) : ∃ S, f_CB_ask s (nI src) (-1 : Int32) = (0, nI (q_nq Q), S) ∧ q_out s S (fun a b => (67 + 7 * q_nq Q ≤ a ∧ a ≤ 69 + 7 * q_nq Q) ∨ (a = 52 ∧ b = 3)) ∧ S 52 3 = nI (q_nq Q + 1) ∧ S (67 + 7 * q_nq Q) 0 = 0 ∧ S (67 + 7 * q_nq Q) 7 = nI (q_sw A Q src) := by
  have h4 := wd.1.2
  obtain ⟨-, hS⟩ := qa_wantS cd wd qc qw (nI src)
  have hS0 : f_CB_wantSource s (nI src) = 0 := by
    rcases hS with ⟨-, z⟩ | ⟨z, -⟩
    · exact absurd ⟨src, rfl, hs⟩ z
    · exact z
  have hs' : src < 4 ∨ (10 ≤ src ∧ src < 10 + q_nq Q) := by unfold q_isS at hs; omega
  obtain ⟨y, y1, y2, y3⟩ := qa_a16 (R := R) cd wd qc qw hs (x2 := -1) (Or.inl rfl)
  have y0 : y = 0 := by
    rcases y1 with ⟨-, z | ⟨c, z, z2, -⟩⟩ | ⟨-, -, z, -⟩ | ⟨z, -⟩
    · exact absurd z hx
    · exact absurd z.symm (q_m1_ne (by omega))
    · exact absurd hn z
    · exact z
  obtain ⟨-, f16⟩ := y3 y0
  obtain ⟨m1, T2, w9, n, m2, m3, m4, m5, m6, m7, m8, m9, m10, m11⟩ := qa_plainN cd wd qc qw (j := q_nq Q) rfl hn hs' (x2 := -1) (Or.inl rfl)
  rw [m2] at f16
  have ew : w9 = q_sw A Q src := by
    rcases m11 with ⟨-, -, z, -⟩ | ⟨c, T, C, J, z, -, z2, -⟩
    · exact z
    · have := (q_sw_b wd qw hs').1
      exact absurd z.symm (q_m1_ne (by omega))
  refine ⟨T2, ?_, fun a b q => m3 a b (by omega), m4, m5, by rw [m7, ew]⟩
  unfold f_CB_ask
  rw [hS0, if_pos rfl, if_pos rfl]
  exact f16
theorem B_ask1 {s A R Q : am_M} {src c : Nat} (cd : q_cd s A) (wd : q_wd A) (cb : q_cb s 9 10 11 R) (wr : q_wr A R) (qc : q_qc s Q) (qw : q_qw A Q) (hs : q_isS A Q src) (hx : ¬ q_xS Q src) (hn : q_nq Q < 8) (hcw : c < q_wx A R Q src) (hc54 : c < 54) (hk : q_lk A Q src c) : ∃ S, f_CB_ask s (nI src) (nI c) = (0, nI (q_nq Q), S) ∧ q_out s S (fun a b => (67 + 7 * q_nq Q ≤ a ∧ a ≤ 69 + 7 * q_nq Q) ∨ (a = 52 ∧ b = 3) ∨ q_FD a b ∨ a = 66) ∧ S 52 3 = nI (q_nq Q + 1) := by
  have h4 := wd.1.2
  obtain ⟨-, hS⟩ := qa_wantS cd wd qc qw (nI src)
  have hS0 : f_CB_wantSource s (nI src) = 0 := by
    rcases hS with ⟨-, z⟩ | ⟨z, -⟩
    · exact absurd ⟨src, rfl, hs⟩ z
    · exact z
  have hs' : src < 4 ∨ (10 ≤ src ∧ src < 10 + q_nq Q) := by unfold q_isS at hs; omega
  obtain ⟨-, e, t1, S1, T1, U1⟩ := qa_wantSC cd wd wr cb qc qw hs (nI c)
  have e0 : e = 0 := by
    rcases U1 with ⟨-, z⟩ | ⟨z, -⟩
    · exact absurd ⟨c, rfl, hcw⟩ z
    · exact z
  subst e0
  have cd1 := q_cd_out T1 (fun a b q => by unfold q_FD at q; omega) cd
  have qc1 : q_qc t1 Q := q_qc_out T1 (fun a b q => by unfold q_FD at q; omega) qc
  obtain ⟨y, y1, y2, y3⟩ := qa_a16 (R := R) cd1 wd qc1 qw hs (x2 := nI c) (Or.inr ⟨c, rfl, hcw⟩)
  have y0 : y = 0 := by
    rcases y1 with ⟨-, z | ⟨c', z, z2, z3⟩⟩ | ⟨-, -, z, -⟩ | ⟨z, -⟩
    · exact absurd z hx
    · have ec : c = c' := (nI_eq (by omega) (by omega)).mp z
      rw [← ec] at z3
      exact absurd hk z3
    · exact absurd hn z
    · exact z
  have y4 : c < q_sw A Q src := by
    rcases y1 with ⟨z, -⟩ | ⟨z, -⟩ | ⟨-, -, -, z | ⟨c', z, z2, -⟩⟩
    · rw [y0] at z; exact absurd z (by decide)
    · rw [y0] at z; exact absurd z (by decide)
    · exact absurd z (q_m1_ne (by omega))
    · have := (q_sw_b wd qw hs').1
      have ec : c = c' := (nI_eq (by omega) (by omega)).mp z
      rw [ec]; exact z2
  obtain ⟨-, f16⟩ := y3 y0
  obtain ⟨m1, T2, w9, n, m2, m3, m4, -⟩ := qa_plainN cd1 wd qc1 qw (j := q_nq Q) rfl hn hs' (x2 := nI c) (Or.inr ⟨c, rfl, y4, hc54, hk⟩)
  rw [m2] at f16
  refine ⟨T2, ?_, fun a b q => ?_, m4⟩
  · unfold f_CB_ask
    rw [hS0, if_pos rfl, if_neg (q_m1_ne (by omega)), S1]
    dsimp only
    rw [if_pos rfl]
    exact f16
  · rw [m3 a b (by omega), T1 a b (by omega)]
theorem B_groups {s A R Q : am_M} {src c1 c2 : Nat} (cd : q_cd s A) (wd : q_wd A) (cb : q_cb s 9 10 11 R) (wr : q_wr A R) (qc : q_qc s Q) (qw : q_qw A Q) (hs : q_isS A Q src) (hx : ¬ q_xS Q src) (hn : q_nq Q < 8) (h1 : c1 < q_wx A R Q src) (h2 : c2 < q_wx A R Q src) : ∃ S, f_CB_askGroups s (nI src) (nI c1) (nI c2) = (0, nI (q_nq Q), S) ∧ q_out s S (fun a b => (67 + 7 * q_nq Q ≤ a ∧ a ≤ 69 + 7 * q_nq Q) ∨ (a = 52 ∧ b = 3) ∨ q_FD a b ∨ a = 66) ∧ S 52 3 = nI (q_nq Q + 1) := by
  obtain ⟨-, hS⟩ := qa_wantS cd wd qc qw (nI src)
  have hS0 : f_CB_wantSource s (nI src) = 0 := by
    rcases hS with ⟨-, z⟩ | ⟨z, -⟩
    · exact absurd ⟨src, rfl, hs⟩ z
    · exact z
  obtain ⟨-, e, t1, S1, T1, U1⟩ := qa_wantSC cd wd wr cb qc qw hs (nI c1)
  have e0 : e = 0 := by
    rcases U1 with ⟨-, z⟩ | ⟨z, -⟩
    · exact absurd ⟨c1, rfl, h1⟩ z
    · exact z
  subst e0
  have cd1 := q_cd_out T1 (fun a b q => by unfold q_FD at q; omega) cd
  have cb1 := q_cb_out T1 (fun a b q => by unfold q_FD at q; omega) cb
  have qc1 : q_qc t1 Q := q_qc_out T1 (fun a b q => by unfold q_FD at q; omega) qc
  obtain ⟨-, e, t2, S2, T2, U2⟩ := qa_wantSC cd1 wd wr cb1 qc1 qw hs (nI c2)
  have e0 : e = 0 := by
    rcases U2 with ⟨-, z⟩ | ⟨z, -⟩
    · exact absurd ⟨c2, rfl, h2⟩ z
    · exact z
  subst e0
  have qc2 : q_qc t2 Q := q_qc_out T2 (fun a b q => by unfold q_FD at q; omega) qc1
  obtain ⟨-, X2⟩ := qa_noX wd qc2 qw hs
  have X0 : f_CB_wantNoCross t2 (nI src) = 0 := by
    rcases X2 with ⟨-, z⟩ | ⟨z, -⟩
    · exact absurd z hx
    · exact z
  have hpl := qa_qplace qc2 qw
  rw [if_pos hn] at hpl
  have e52 : t2 52 3 = nI (q_nq Q) := qc2.1.trans qw.1.1
  obtain ⟨D1, D2⟩ := qa_makeG hn e52 1 (nI src) (nI c1) (-1) (nI c2)
  refine ⟨q_mg9 t2 (q_nq Q) 1 (nI src) (nI c1) (-1) (nI c2), ?_, fun a b q => ?_, am_set_q⟩
  · unfold f_CB_askGroups
    rw [hS0, if_pos rfl, S1]
    dsimp only
    rw [if_pos rfl, S2]
    dsimp only
    rw [if_pos rfl, X0, if_pos rfl, hpl, if_pos rfl, D2]
  · unfold q_mg9
    repeat rw [am_set_p (by omega)]
    rw [T2 a b (by omega), T1 a b (by omega)]
theorem B_act {s : am_M} {n : Nat} (e1 : s 0 5 = nI n) (hn : n < 4) : f_CB_addAct s = (0, nI n, am_set s 0 5 (nI (n + 1))) := by
  unfold f_CB_addAct
  rw [if_pos (by rw [e1]; exact qt_4 hn), e1, nI_1]
theorem B_step {s A R Q : am_M} {a4 : Int32} {q0 c0 : Nat} (cd : q_cd s A) (wd : q_wd A) (cb : q_cb s 9 10 11 R) (wr : q_wr A R) (qc : q_qc s Q) (qw : q_qw A Q) (ha : f_CB_wantAct s (nI 0) = 0) (hq : q_nq Q ≤ 8) (h0 : q0 < q_nq Q) (hc : c0 < q_wx A R Q (10 + q0)) (hk : Q (67 + 7 * q0) 0 = 0) (hv : ∀ t, f_CB_wantValue t a4 = 0) (hst : s 126 1 = 0) : ∃ S, f_CB_stepPut s (nI 0) (nI q0) (nI c0) a4 = (0, nI 1, S) := by
  obtain ⟨pa, e, t1, W1, W2, W3⟩ := qa_wantC cd wd wr cb qc qw (nI q0) (nI c0)
  have e0 : e = 0 := by
    rcases W3 with ⟨-, z⟩ | ⟨z, -⟩
    · exact absurd ⟨q0, c0, rfl, rfl, h0, hc⟩ z
    · exact z
  subst e0
  have qc1 : q_qc t1 Q := q_qc_out W2 (fun a b q => by unfold q_FD at q; omega) qc
  obtain ⟨Q1, Q2⟩ := qa_plainQ qc1 (show q0 < 8 by omega)
  rw [if_pos hk] at Q2
  have hs : t1 (126 + 14 * 0) 1 = nI 0 := by rw [W2 _ _ (by unfold q_FD; omega), nI_0]; exact hst
  obtain ⟨P1, P2⟩ := qv_place (show 0 < 4 by omega) (show 0 ≤ 6 by omega) hs
  rw [if_pos (show 0 < 6 by omega)] at P2
  obtain ⟨l1, l2, -⟩ := qv_lk 0 (by omega)
  obtain ⟨D1, D2⟩ := qc_adds (show 0 < 4 by omega) (show 0 < 6 by omega) hs 0 (nI q0) (nI c0) a4
  refine ⟨q_cs9 t1 0 0 0 (nI q0) (nI c0) a4, ?_⟩
  show f_CB_stepPut s (nI 0) (nI q0) (nI c0) a4 = (0, nI (0 + 1), q_cs9 t1 0 0 0 (nI q0) (nI c0) a4)
  unfold f_CB_stepPut; rw [ha, if_pos rfl, W1, if_pos rfl]
  dsimp only
  rw [Q2, if_pos rfl, hv t1, if_pos rfl, P2, if_pos rfl, nI_clamp (n := 0) (by omega), l1, D2]
theorem B_wantAct {s : am_M} (e1 : s 0 5 = nI 1) : f_CB_wantAct s (nI 0) = 0 := by
  unfold f_CB_wantAct
  rw [e1, if_neg (qz (n := 0) (by omega)), if_neg (nI_ge (by omega) (by omega)), if_pos (qt_4 (by omega))]
end

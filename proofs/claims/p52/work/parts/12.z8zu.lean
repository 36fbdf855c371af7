noncomputable section
-- run: its end
theorem qc_end {s : am_M} {k : Nat} {B : List q_It} {R0 : am_M} (h07 : s 0 7 = nI k) (k5 : k ≤ 5) (ah : q_ah s) (hb : ∀ m, m < 6 → s 182 k = nI (183 + 4 * m) → q_cb s (184 + 4 * m) (185 + 4 * m) (186 + 4 * m) R0) (hB : B ≠ [] → q_fd s 16 0 B) : p_CB_endRun s (q_good B) ∧ ∃ t, f_CB_endRun s (q_good B) = (q_good B, t) ∧ q_out s t (fun a b => (9 ≤ a ∧ a ≤ 11) ∨ a = 123 ∨ (a = 0 ∧ b = 7) ∨ (a = 182 ∧ b < 6)) ∧ q_fd t 123 0 B ∧ (B ≠ [] → q_cb t 9 10 11 R0 ∧ t 0 7 = nI k ∧ ∀ b, t 182 b = s 182 b) ∧ (B = [] → (∀ a b, 9 ≤ a → a ≤ 11 → t a b = s a b) ∧ ((k < 5 ∧ t 0 7 = nI (k + 1) ∧ ∀ b, t 182 b = s 182 b) ∨ (k = 5 ∧ t 0 7 = nI 5 ∧ (∀ j, j < 5 → t 182 j = s 182 (j + 1)) ∧ t 182 5 = s 182 0))) := by
  have c0 : ¬ nI k < 0 := qz (by omega)
  have c6 : nI k < (6 : Int32) := qt_6 (by omega)
  have ck : (nI k).toNatClampNeg = k := nI_clamp (by omega)
  have vk : vp_in (nI k) 6 := vp_in_nI (by omega) (by omega)
  obtain ⟨m, m6, hm⟩ := ah.1 k (by omega)
  have cm : (nI (183 + 4 * m)).toNatClampNeg = 183 + 4 * m := nI_clamp (by omega)
  obtain ⟨a1, t1, a2, a3, a4⟩ := qcp q_bl_8 (q_bl_a m m6) (by omega) (by omega) (hb m m6 hm)
  have sh123 : 123 < 207 ∧ am_sh 123 = (0, 5, 4) := ⟨by omega, by decide +kernel⟩
  have sh16 : 16 < 207 ∧ am_sh 16 = (0, 5, 4) := ⟨by omega, by decide +kernel⟩
  have pcp : ∀ s, p_RE_copyFrom s 123 16 := fun s => ⟨sh16, q_pre123 _ _ _ _ _, sh123, trivial⟩
  have pcl : p_RE_clear s 123 := ⟨q_pre123 _ _ _ _ _, sh123, trivial⟩
  obtain ⟨r0, r1, r2, r3, r4⟩ := q_re123 s 0 (-1) (-1) (-1)
  have ecl : f_RE_clear s 123 = f_RE_set s 123 0 (-1) (-1) (-1) := rfl
  generalize hC : f_RE_set s 123 0 (-1) (-1) (-1) = C at *
  have C07 : C 0 7 = nI k := by rw [r0 _ _ (by omega)]; exact h07
  have ahC : q_ah C := ⟨fun j hj => by rw [r0 _ _ (by omega)]; exact ah.1 j hj, fun i j hi hj q => by rw [r0 _ _ (by omega), r0 _ _ (by omega)] at q; exact ah.2 i j hi hj q⟩
  obtain ⟨f1, t2, f2, f3, f4, f5⟩ := qc_forget ahC
  have pe : p_CB_endRun s (q_good B) := by
    unfold p_CB_endRun
    rw [h07, ck, hm, cm, ecl, C07]
    exact ⟨fun q => absurd q c0, fun _ => ⟨fun _ => ⟨fun _ => ⟨vk, qz (by omega), (q_bl_a m m6).1, a1, pcp _, trivial⟩, fun _ => ⟨pcl, fun _ => ⟨f1, trivial⟩, fun _ => trivial⟩⟩, fun _ => trivial⟩⟩
  refine ⟨pe, ?_⟩
  unfold f_CB_endRun
  rw [h07, if_neg c0, if_pos c6, ck, hm, cm, ecl, C07]
  rcases q_good_c B with ⟨g1, g2, -⟩ | ⟨g1, g2, -⟩
  · rw [g2, if_neg i10]
    by_cases k4 : k < 5
    · have n5 : ¬ (5 : Int32) ≤ nI k := ql_5 k4
      rw [if_neg n5, nI_1 k]
      refine ⟨_, rfl, fun a b q => ?_, ?_, fun q => absurd g1 q, fun _ => ⟨fun a b q1 q2 => ?_, Or.inl ⟨k4, am_set_q, fun b => ?_⟩⟩⟩
      · rw [am_set_p (by omega), r0 a b (by omega)]
      · rw [g1]; exact ⟨by rw [am_set_p (by omega)]; exact r1, by rw [am_set_p (by omega)]; exact r2, by rw [am_set_p (by omega)]; exact r3, by rw [am_set_p (by omega)]; exact r4⟩
      · rw [am_set_p (by omega), r0 a b (by omega)]
      · rw [am_set_p (by omega), r0 _ _ (by omega)]
    · have y5 : (5 : Int32) ≤ nI k := qg_5 (by omega) (by omega)
      have e5 : k = 5 := by omega
      rw [if_pos y5, f2]
      refine ⟨t2, rfl, fun a b q => ?_, ?_, fun q => absurd g1 q, fun _ => ⟨fun a b q1 q2 => ?_, Or.inr ⟨e5, ?_, fun j hj => ?_, ?_⟩⟩⟩
      · rw [f3 a b (by omega), r0 a b (by omega)]
      · rw [g1]; exact ⟨by rw [f3 _ _ (by omega)]; exact r1, by rw [f3 _ _ (by omega)]; exact r2, by rw [f3 _ _ (by omega)]; exact r3, by rw [f3 _ _ (by omega)]; exact r4⟩
      · rw [f3 a b (by omega), r0 a b (by omega)]
      · rw [f3 _ _ (by omega), C07, e5]
      · rw [f4 j hj, r0 _ _ (by omega)]
      · rw [f5, r0 _ _ (by omega)]
  · rw [g2, if_pos rfl, a2]
    unfold f_RE_copyFrom
    obtain ⟨s0, s1, s2, s3, s4⟩ := q_re123 t1 (t1 16 0) (t1 16 1) (t1 16 2) (t1 16 3)
    have h16 : ∀ b, t1 16 b = s 16 b := fun b => a3 _ _ (by omega)
    obtain ⟨b1, b2, b3, b4⟩ := hB g1
    refine ⟨_, rfl, fun a b q => ?_, ⟨s1.trans ((h16 0).trans b1), s2.trans ((h16 1).trans b2), s3.trans ((h16 2).trans b3), s4.trans ((h16 3).trans b4)⟩, fun _ => ⟨q_cb_out s0 (fun a b q => by omega) a4, ?_, fun b => ?_⟩, fun q => absurd q g1⟩
    · rw [s0 a b (by omega), a3 a b (by omega)]
    · rw [s0 _ _ (by omega), a3 _ _ (by omega)]; exact h07
    · rw [s0 _ _ (by omega), a3 _ _ (by omega)]
theorem qm_run14 {u sm0 sm' : am_M} {x1 : Int32} {k : Nat} {B : List q_It} {R0 : am_M} (k5 : k ≤ 5) (h38W : am_set u 207 0 0 207 38 = nI k) (ps : p_MO_saves (am_set u 207 0 0) (nI k)) (fs : f_MO_saves (am_set u 207 0 0) (nI k) = sm0) (pa : p_MO_doesAll sm0 x1) (fa : f_MO_doesAll sm0 x1 = (q_good B, sm')) (h38 : sm' 207 38 = nI k) (mh : q_mh sm' k R0) (h01 : k = 5 → ∀ u, u < 600 → sm' 234 (u + 120) = 0 ∨ sm' 234 (u + 120) = 1) (hB : B ≠ [] → q_fd sm' 207 31 B) : p_MO_run_14 u x1 0 ∧ ∃ t, f_MO_run_14 u x1 0 = (q_good B, t) ∧ q_out sm' t (fun a b => (228 ≤ a ∧ a ≤ 230) ∨ (a = 207 ∧ ((31 ≤ b ∧ b ≤ 34) ∨ b = 38)) ∨ (a = 233 ∧ b < 3600) ∨ (a = 234 ∧ b < 600) ∨ (a = 235 ∧ b < 20)) ∧ q_fd t 207 31 B ∧ (B ≠ [] → q_mb t R0 ∧ t 207 38 = nI k ∧ ∀ a b, 233 ≤ a → a ≤ 235 → t a b = sm' a b) ∧ (B = [] → (∀ a b, 228 ≤ a → a ≤ 230 → t a b = sm' a b) ∧ ((k < 5 ∧ t 207 38 = nI (k + 1) ∧ ∀ a b, 233 ≤ a → a ≤ 235 → t a b = sm' a b) ∨ (k = 5 ∧ t 207 38 = nI 5 ∧ ∀ j R, j < 5 → q_mh sm' (j + 1) R → q_mh t j R))) := by
  obtain ⟨a1, t1, a2, a3, a4⟩ := qm_restores (show k < 7 by omega) mh
  have ot := q_td_o sm' 0 (-1) (-1) (-1)
  have vt := q_td_v sm' 0 (-1) (-1) (-1)
  have et : (f_MO_told sm' 0 (-1) (-1) (-1)).2 = q_td sm' 0 (-1) (-1) (-1) := rfl
  generalize q_td sm' 0 (-1) (-1) (-1) = D at *
  have D38 : D 207 38 = nI k := by rw [ot _ _ (by omega)]; exact h38
  have e38 : am_set D 207 38 (nI (k + 1)) 207 38 = nI (k + 1) := am_set_q
  have oD : q_out sm' (am_set D 207 38 (nI (k + 1))) (fun a b => a = 207 ∧ ((31 ≤ b ∧ b ≤ 34) ∨ b = 38)) := fun a b q => by
    rw [am_set_p (by omega), ot a b (by omega)]
  have fdD : q_fd (am_set D 207 38 (nI (k + 1))) 207 31 [] := ⟨by rw [am_set_p (by omega)]; exact vt.1, by rw [am_set_p (by omega)]; exact vt.2.1, by rw [am_set_p (by omega)]; exact vt.2.2.1, by rw [am_set_p (by omega)]; exact vt.2.2.2⟩
  have h38W' : ((1 : Int32), am_set u 207 0 0).2 207 38 = nI k := h38W
  have fs' : f_MO_saves ((1 : Int32), am_set u 207 0 0).2 (nI k) = sm0 := fs
  have n10 : ¬ ((1 : Int32), am_set u 207 0 0).1 = 0 := i10
  rcases q_good_c B with ⟨g1, g2, -⟩ | ⟨g1, g2, -⟩
  · rw [g2] at fa ⊢
    have n11 : ¬ ((1 : Int32), sm').1 = 0 := i10
    have et' : (f_MO_told ((1 : Int32), sm').2 0 (-1) (-1) (-1)).2 = D := et
    unfold p_MO_run_14 f_MO_run_14
    rw [pr_holds0]
    rw [if_neg n10, h38W', fs', fa, if_neg n11, et', D38, nI_1 k, e38]
    by_cases k4 : k < 5
    · have y5 : nI (k + 1) ≤ (5 : Int32) := nI_le (b := 5) (by omega) (by decide)
      rw [if_pos y5]
      refine ⟨⟨fun q => absurd q i10, fun _ => ⟨ps, pa, fun q => absurd q i10, fun _ => ⟨fun _ => trivial, fun q => absurd y5 q⟩⟩⟩, _, rfl, q_out_w oD (fun a b q => by omega), by rw [g1]; exact fdD, fun q => absurd g1 q, fun _ => ⟨fun a b q1 q2 => oD a b (by omega), Or.inl ⟨k4, e38, fun a b q1 q2 => oD a b (by omega)⟩⟩⟩
    · have e5 : k = 5 := by omega
      have n5 : ¬ nI (k + 1) ≤ (5 : Int32) := nI_ge (a := 5) (b := k + 1) (by omega) (by omega)
      obtain ⟨b1, t2, b2, b3, b4, b5⟩ := qm_forget (s := am_set D 207 38 (nI (k + 1))) (fun v hv => by rw [oD _ _ (by omega)]; exact h01 e5 v hv)
      rw [if_neg n5, b2]
      refine ⟨⟨fun q => absurd q i10, fun _ => ⟨ps, pa, fun q => absurd q i10, fun _ => ⟨fun q => absurd q n5, fun _ => ⟨b1, trivial⟩⟩⟩⟩, t2, rfl, fun a b q => ?_, ?_, fun q => absurd g1 q, fun _ => ⟨fun a b q1 q2 => ?_, Or.inr ⟨e5, ?_, fun j R hj hm => b5 j R hj ⟨fun v hv => ?_, fun p hp => ?_, fun x hx hh => ?_⟩⟩⟩⟩
      · rw [b3 a b (by omega), oD a b (by omega)]
      · rw [g1]; exact q_fd_out b3 (fun a b q => by omega) fdD
      · rw [b3 a b (by omega), oD a b (by omega)]
      · rw [b4, e38, e5]; exact q_subI 5 1
      · rw [oD _ _ (by omega)]; exact hm.1 v hv
      · rw [oD _ _ (by omega)]; exact hm.2.1 p hp
      · rw [oD _ _ (by omega)]; exact hm.2.2 x hx hh
  · rw [g2] at fa ⊢
    unfold p_MO_run_14 f_MO_run_14
    rw [pr_holds0]
    have h38' : ((0 : Int32), sm').2 207 38 = nI k := h38
    have a2' : f_MO_restores ((0 : Int32), sm').2 (nI k) = t1 := a2
    rw [if_neg n10, h38W', fs', fa, if_pos (show ((0 : Int32), sm').1 = 0 from rfl), h38', a2']
    refine ⟨⟨fun q => absurd q i10, fun _ => ⟨ps, pa, fun _ => ⟨a1, trivial⟩, fun q => absurd rfl q⟩⟩, t1, rfl, q_out_w a3 (fun a b q => by omega), q_fd_out a3 (fun a b q => by omega) (hB g1), fun _ => ⟨a4, ?_, fun a b q1 q2 => a3 a b (by omega)⟩, fun q => absurd q g1⟩
    rw [a3 _ _ (by omega)]; exact h38
-- serial numbers, the order of states and the form behind a run
theorem q_ser_m {R : am_M} {L M : Nat} (h : q_ser R L) (hLM : L ≤ M) : q_ser R M := fun p hp => by
  rcases h p hp with g | ⟨f, g1, g2, g3⟩
  · exact Or.inl g
  · exact Or.inr ⟨f, g1, by omega, g3⟩
theorem q_ser_s {R S : am_M} {L M : Nat} (h : q_ser R L) (sr : q_sr R S L M) (hLM : L ≤ M) : q_ser S M := fun p hp => by
  rcases sr.2 p hp with g | g | ⟨-, f, g1, g2, g3⟩
  · rw [g]; exact q_ser_m h hLM p hp
  · exact Or.inl g
  · exact Or.inr ⟨f, by omega, g2, g3⟩
theorem q_le_s {X R S : am_M} {L M : Nat} (h : q_le X R) (sr : q_sr R S L M) : q_le X S := by
  refine ⟨fun t ht => Nat.le_trans (h.1 t ht) (sr.1 t ht), fun p hp hr => ?_⟩
  have h1 := h.1 (p / 30) (by omega)
  rcases sr.2 p hp with g | g | ⟨g1, -⟩
  · rw [g]; exact h.2 p hp hr
  · exact Or.inr g
  · omega
theorem q_le_r {R S : am_M} {L M : Nat} (sr : q_sr R S L M) : q_le R S := q_le_s ⟨fun _ _ => Nat.le_refl _, fun _ _ _ => Or.inl rfl⟩ sr
theorem q_form_up {s t : am_M} {Z Y : Nat → am_M} {k k' L M : Nat} (f1 : t 207 28 = s 207 28) (f2 : t 207 29 = s 207 29) (f3 : t 0 8 = s 0 8) (f4 : t 0 9 = s 0 9) (f5 : t 0 10 = s 0 10) (e6 : Y 6 = Z 6) (n4 : q_nt (Z 6) ≤ 4) (hLM : L ≤ M) (hM : M < 2 ^ 31) (st : ∀ X, q_st Y k' X → q_st Z k X ∨ X = Y 8) (sr : q_sr (Z 8) (Y 8) L M) (fo : q_form s Z k L) : q_form t Y k' M := by
  unfold q_form
  rw [f1, f2, f3, f4, f5, e6]
  rcases fo with ⟨g1, g2⟩ | ⟨T, r, f, g1, g2, g3, g4, g5, g6, g7, g8, g9, g10, g11⟩
  · refine Or.inl ⟨g1, ?_⟩
    rcases g2 with g2 | ⟨T, r, f, g2, g3, g4, g5, g6, g7, g8, g9⟩
    · exact Or.inl g2
    · refine Or.inr ⟨T, r, f, g2, g3, g4, g5, g6, g7, by omega, fun X hX => ?_⟩
      rcases st X hX with q | rfl
      · exact g9 X q
      · rcases sr.2 (30 * T + r) (by omega) with q | q | ⟨-, f', q1, q2, q3⟩
        · rw [q]; exact g9 _ (Or.inl rfl)
        · rw [q]; intro q9
          exact nI_ne0 (n := f) (by omega) (by omega) q9.symm
        · rw [q3]; intro q9
          have := (nI_eq (by omega) (by omega)).mp q9
          omega
  · refine Or.inr ⟨T, r, f, g1, g2, g3, g4, g5, g6, g7, g8, by omega, ?_, fun X hX hr => ?_⟩
    · have := sr.1 T (by omega); omega
    · rcases st X hX with q | rfl
      · exact g11 X q hr
      · rcases sr.2 (30 * T + r) (by omega) with q | q | ⟨q0, -⟩
        · rw [q]; exact g11 _ (Or.inl rfl) g10
        · exact Or.inl q
        · rw [show (30 * T + r) / 30 = T from by omega, show (30 * T + r) % 30 = r from by omega] at q0
          omega
end

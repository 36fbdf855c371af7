noncomputable section
-- class facts over one state: design A, rules U, rows R
def CB9 (s A U R : am_M) : Prop := q_cd s A ∧ q_oc s A ∧ q_uc s U ∧ q_cb s 9 10 11 R
def PW9 (A U R : am_M) : Prop := q_wd A ∧ q_wr A R ∧ q_uw U ∧ q_gd A U R
theorem CB9_of {c : Nat} {s : am_M} (h : pu_R c s) : ∃ A U R, CB9 s A U R ∧ PW9 A U R := by
  obtain ⟨hP, Z, hZ⟩ := h
  obtain ⟨cd, oc, md, wd⟩ : q_x1 s (Z 6) := hZ 1
  obtain ⟨uc, um, uw⟩ := q_x2_p (hZ 2 : q_x2 s (Z 7))
  obtain ⟨cb, mb, wr⟩ : q_x3 s (Z 6) (Z 8) := hZ 3
  exact ⟨Z 6, Z 7, Z 8, ⟨cd, oc, uc, cb⟩, wd, wr, uw, q_x7_g (hZ 7)⟩
theorem CB9_out {s t A U R : am_M} {P : Nat → Nat → Prop} (o : q_out s t P) (hP : ∀ a b, P a b → a = 12 ∨ a = 16 ∨ a = 19 ∨ a = 0 ∨ a = 123 ∨ 52 ≤ a ∨ (13 ≤ a ∧ a ≤ 15)) (h : CB9 s A U R) : CB9 t A U R :=
  ⟨q_cd_out o (fun a b q => by have := hP a b q; omega) h.1, q_oc_out o (fun a b q => by have := hP a b q; omega) h.2.1, q_uc_out o (fun a b q => by have := hP a b q; omega) h.2.2.1, q_cb_out o (fun a b q => by have := hP a b q; omega) h.2.2.2⟩
theorem lo_out {q g : am_M} : q_out q (lo q g) (fun a _ => 207 ≤ a) := fun a b h => by rw [show lo q g a = q a from lo_at (by omega)]
theorem CB9_lo {q g A U R : am_M} (h : CB9 q A U R) : CB9 (lo q g) A U R := CB9_out lo_out (fun a b q => by omega) h
/-- what is put into a row that is there -/
theorem CB_put {s A U R : am_M} {T r C : Nat} {v : Int32} (b : CB9 s A U R) (w : q_wd A) (wr : q_wr A R) (uw : q_uw U) (hT : T < q_nt A) (hr : r < 30) (hC : C < q_w A T) (hs : A 209 (6 * T + C) = 0 ∨ A 209 (6 * T + C) = 1) (hh : R 1 (30 * T + r) ≠ 0) (hv : f_CB_wantValue s v = 0) (hv2 : q_v v) : ∃ S, f_CB_put s (nI T) (nI r) (nI C) v = (0, q_good (q_brk A U (q_reck A (q_put R (180 * T + 6 * r + C) v))), S) ∧ CB9 S A U (q_pick (q_brk A U (q_reck A (q_put R (180 * T + 6 * r + C) v))) (q_reck A (q_put R (180 * T + 6 * r + C) v)) R) ∧ q_fd S 123 0 (q_brk A U (q_reck A (q_put R (180 * T + 6 * r + C) v))) := by
  obtain ⟨cd, oc, uc, cb⟩ := b
  have h4 := w.1.2
  have ht4 : T < 4 := by omega
  have hw6 := (w.2.1 T ht4).2.1
  have hC6 : C < 6 := by omega
  have hT1 := qr_row cd w cb (nI T) (nI r)
  have hT2 := qd_wantC cd w (nI T) (nI C)
  have g : q_isR A R (nI T) (nI r) = 1 := by
    unfold q_isR q_isT
    rw [q_in_1 hT (by omega), if_neg i10, show q_c (nI T) = T from nI_clamp (by omega), if_pos ⟨q_in_1 hr (by omega), by rw [show q_c (nI r) = r from nI_clamp (by omega)]; exact hh⟩]
  have k : q_isC A (nI T) (nI C) = 1 := by
    unfold q_isC q_isT
    rw [q_in_1 hT (by omega), if_neg i10, show q_c (nI T) = T from nI_clamp (by omega)]
    exact q_in_1 hC (by omega)
  rw [g, if_neg i10] at hT1
  rw [k, if_neg i10] at hT2
  have hS := qd_store cd ht4 hC6
  rw [if_pos hs] at hS
  obtain ⟨pB, t1, hB, o1, cb1, fd1, -⟩ := qc_put (v := v) cd oc w wr.we cb uc uw ht4 hr hC6 hs hv2
  generalize hL : q_brk A U (q_reck A (q_put R (180 * T + 6 * r + C) v)) = L at *
  obtain ⟨pt, t2, ht2, o2, cd2, oc2, cb2, fd2, -⟩ : p_CB_tell t1 (q_good L) ∧ ∃ t, f_CB_tell t1 (q_good L) = (q_good L, t) ∧ q_cdone s t L A (q_pick L (q_reck A (q_put R (180 * T + 6 * r + C) v)) R) := qc_done (q_out_w o1 (fun a b q => by omega)) (q_cd_out o1 (fun a b q => by omega) cd) (q_oc_out o1 (fun a b q => by omega) oc) cb1 fd1
  have iO : (10 : Int32) * nI T + nI C = nI (10 * T + C) := by rw [qw_10, nI_add]
  refine ⟨t2, ?_, ⟨cd2, oc2, q_uc_out o2 (fun a b q => by unfold q_PC at q; omega) uc, cb2⟩, fd2⟩
  unfold f_CB_put
  rw [hT1, hT2, hS, hv, iO, hB]
  dsimp only
  rw [ht2]; rfl
theorem q_cx_v {P : Nat → Prop} [DecidablePred P] : ∀ (d j : Nat), q_cx P d j = -1 ∨ ∃ i, j ≤ i ∧ i < j + d ∧ q_cx P d j = nI i ∧ P i ∧ ∀ k, j ≤ k → k < i → ¬ P k := by
  intro d
  induction d with
  | zero => intro j; exact Or.inl rfl
  | succ d ih =>
    intro j
    unfold q_cx
    by_cases h : P j
    · rw [if_pos h]; exact Or.inr ⟨j, Nat.le_refl j, by omega, rfl, h, fun k h1 h2 => by omega⟩
    · rw [if_neg h]
      rcases ih (j + 1) with q | ⟨i, h1, h2, h3, h4, h5⟩
      · exact Or.inl q
      · refine Or.inr ⟨i, by omega, by omega, h3, h4, fun k k1 k2 => ?_⟩
        by_cases e : k = j
        · rw [e]; exact h
        · exact h5 k (by omega) k2
/-- a choice for a link: the first row that could be put -/
theorem CB_choice {s A U R : am_M} {x y z : Int32} (b : CB9 s A U R) (w : q_wd A) (wr : q_wr A R) (uw : q_uw U) (h0 : (f_CB_choice s x y z (0 : Int32)).1 = 0) : ∃ T r C v S, x = nI T ∧ y = nI r ∧ z = nI C ∧ T < q_nt A ∧ r < 30 ∧ C < q_w A T ∧ A 209 (6 * T + C) = 1 ∧ R 1 (30 * T + r) ≠ 0 ∧ f_CB_choice s x y z (0 : Int32) = (0, v, S) ∧ q_out s S (fun a _ => (9 ≤ a ∧ a ≤ 11) ∨ (13 ≤ a ∧ a ≤ 16) ∨ a = 19) ∧ CB9 S A U R ∧ (v = -1 ∨ ∃ i, i < 30 ∧ v = nI i ∧ q_cP A U R (q_tg A (6 * T + C)) (180 * T + 6 * r + C) i ∧ ∀ j, j < i → ¬ q_cP A U R (q_tg A (6 * T + C)) (180 * T + 6 * r + C) j) := by
  obtain ⟨cd, oc, uc, cb⟩ := b
  have h4 := w.1.2
  have hT1 := qr_row cd w cb x y
  unfold f_CB_choice at h0
  rcases q_isR_c w wr.we x y with g | ⟨g, T, r, ht, ht4, hr30, hrm, rfl, rfl, hh⟩
  · rw [g, if_pos rfl] at hT1
    rw [hT1, if_neg (by decide)] at h0
    exact absurd (show (1 : Nat) = 0 from h0) (by decide)
  rw [g, if_neg i10] at hT1
  have hT2 := qd_wantC cd w (nI T) z
  rcases q_isC_c w (nI T) z with k | ⟨k, T2, C, hT9, hT4, hC, hC6, e1, rfl⟩
  · rw [k, if_pos rfl] at hT2
    rw [hT1, if_pos rfl, hT2, if_neg (by decide)] at h0
    exact absurd (show (1 : Nat) = 0 from h0) (by decide)
  rw [k, if_neg i10] at hT2
  have eTT : T = T2 := (nI_eq (by omega) (by omega)).mp e1
  subst eTT
  have hL := qd_link cd ht4 hC6
  by_cases c1 : A 209 (6 * T + C) = 1
  rotate_left
  · rw [if_neg c1] at hL
    rw [hT1, if_pos rfl, hT2, if_pos rfl, hL, if_neg (by decide)] at h0
    exact absurd (show (2 : Nat) = 0 from h0) (by decide)
  rw [if_pos c1] at hL
  have hk : 6 * T + C < 24 := by omega
  obtain ⟨tg1, tg2⟩ := w.2.2.2.1 (6 * T + C) hk c1
  have f3 : s (20 + (6 * T + C)) 3 = nI (q_tg A (6 * T + C)) := (cd.2.2.2 (6 * T + C) 3 hk (by omega) (by omega)).trans tg1
  obtain ⟨i1, S, i2, i3, i4⟩ := qc_ch w wr.we uw ht4 hr30 hC6 (show q_tg A (6 * T + C) < 4 by omega) (Or.inr c1) (0 : Int32) 30 0 am_F s (by omega) (by rw [am_F_eq]; omega) cd oc cb uc
  rw [nI_0] at i2
  refine ⟨T, r, C, q_cx (q_cP A U R (q_tg A (6 * T + C)) (180 * T + 6 * r + C)) 30 0, S, rfl, rfl, rfl, ht, hr30, hC, c1, hh, ?_, i3, ⟨q_cd_out i3 (fun a b q => by omega) cd, q_oc_out i3 (fun a b q => by omega) oc, q_uc_out i3 (fun a b q => by omega) uc, i4⟩, ?_⟩
  · unfold f_CB_choice
    rw [hT1, hT2, hL, if_pos rfl, if_pos rfl, if_pos rfl, if_pos (show (0 : Int32) ≤ 0 by decide), qd_col ht4 hC6, f3]
    exact i2
  · rcases q_cx_v (P := q_cP A U R (q_tg A (6 * T + C)) (180 * T + 6 * r + C)) 30 0 with q | ⟨i, -, q2, q3, q4, q5⟩
    · exact Or.inl q
    · exact Or.inr ⟨i, by omega, q3, q4, fun j hj => q5 j (by omega) hj⟩
/-- a link to a row that is not there is broken -/
theorem brk_link {A U R : am_M} {T r C i : Nat} (w : q_wd A) (hT : T < q_nt A) (hr : r < 30) (hC : C < q_w A T) (hk : A 209 (6 * T + C) = 1) (hh : R 1 (30 * T + r) ≠ 0) (hi : i < 30) (hn : R 1 (30 * q_tg A (6 * T + C) + i) = 0) : q_brk A U (q_reck A (q_put R (180 * T + 6 * r + C) (nI i))) ≠ [] := by
  intro e
  have h4 := w.1.2
  have hw6 := (w.2.1 T (by omega)).2.1
  have r1 : q_reck A (q_put R (180 * T + 6 * r + C) (nI i)) 1 = R 1 := (fold_1 _ _).trans (q_put_1 _ _ _)
  refine (brk_iff.mp e (30 * T + r) (by omega) (by rw [r1]; exact hh)).1 C 3 (by rw [show (30 * T + r) / 30 = T from by omega]; exact hC) (by omega) ?_
  rw [show (30 * T + r) / 30 = T from by omega, show (30 * T + r) % 30 = r from by omega]
  have ec : q_reck A (q_put R (180 * T + 6 * r + C) (nI i)) 2 (180 * T + 6 * r + C) = nI i := by
    rw [q_reck_o (by rw [show 6 * ((180 * T + 6 * r + C) / 180) + (180 * T + 6 * r + C) % 6 = 6 * T + C from by omega, hk]; decide)]
    exact if_pos ⟨rfl, rfl⟩
  show decide _ = true
  refine decide_eq_true ⟨hk, ?_, ?_⟩
  · rw [ec]
    intro q
    have := congrArg Int32.toInt q
    rw [nI_toInt (by omega)] at this
    have e1 : (-1000000 : Int32).toInt = -1000000 := by decide
    omega
  · rw [ec]
    intro q
    have q2 := q.2
    rw [r1, show q_c (nI i) = i from nI_clamp (by omega)] at q2
    exact q2 hn
theorem hput {u : am_M} {x y z v : Int32} {L : Int32} {S : am_M} (e : f_CB_put u x y z v = (0, L, S)) : (h_CB_put u x y z v).1 = 0 ∧ (h_CB_put u x y z v).2.1 = L ∧ q_out S (h_CB_put u x y z v).2.2 (fun a _ => 207 ≤ a) := by
  have e0 : (f_CB_put u x y z v).1 = 0 := by rw [e]
  refine ⟨e0, by show (f_CB_put u x y z v).2.1 = L; rw [e], ?_⟩
  show q_out S (if (f_CB_put u x y z v).1 = 0 then lo (f_CB_put u x y z v).2.2 (f_MO_put (f_LA_put u x y z v).2 x y z v).2 else (f_CB_put u x y z v).2.2) _
  rw [if_pos e0, e]
  exact lo_out
/-- both objects: a put, good or not -/
theorem LS_put {c : Nat} {s t A U R : am_M} {T r C : Nat} {v x6 x7 : Int32} (h : RR c s t) (b : CB9 s A U R) (w : q_wd A) (wr : q_wr A R) (uw : q_uw U) (hT : T < q_nt A) (hr : r < 30) (hC : C < q_w A T) (hs : A 209 (6 * T + C) = 0 ∨ A 209 (6 * T + C) = 1) (hh : R 1 (30 * T + r) ≠ 0) (hv : f_CB_wantValue s v = 0) (hv2 : q_v v) : p_LH_sets s (8 : Int32) (nI T) (nI r) (nI C) v x6 x7 ∧ p_LH_sets t (8 : Int32) (nI T) (nI r) (nI C) v x6 x7 ∧ (f_LH_sets s (8 : Int32) (nI T) (nI r) (nI C) v x6 x7).1 = q_good (q_brk A U (q_reck A (q_put R (180 * T + 6 * r + C) v))) ∧ (f_LH_sets t (8 : Int32) (nI T) (nI r) (nI C) v x6 x7).1 = q_good (q_brk A U (q_reck A (q_put R (180 * T + 6 * r + C) v))) ∧ RR c (f_LH_sets s (8 : Int32) (nI T) (nI r) (nI C) v x6 x7).2 (f_LH_sets t (8 : Int32) (nI T) (nI r) (nI C) v x6 x7).2 ∧ CB9 (f_LH_sets s (8 : Int32) (nI T) (nI r) (nI C) v x6 x7).2 A U (q_pick (q_brk A U (q_reck A (q_put R (180 * T + 6 * r + C) v))) (q_reck A (q_put R (180 * T + 6 * r + C) v)) R) := by
  obtain ⟨S, e1, e2, e3⟩ := CB_put b w wr uw hT hr hC hs hh hv hv2
  generalize q_brk A U (q_reck A (q_put R (180 * T + 6 * r + C) v)) = L at *
  obtain ⟨g1, g2, g3⟩ := hput e1
  obtain ⟨ps, pt, z⟩ := LS_sets_8 (Nat.le_refl c) h (x2 := nI T) (x3 := nI r) (x4 := nI C) (x5 := v) (x6 := x6) (x7 := x7)
  have v1 : f_LH_sets s (8 : Int32) (nI T) (nI r) (nI C) v x6 x7 = (q_good L, (h_CB_put s (nI T) (nI r) (nI C) v).2.2) := by
    rw [LE_sets_8]
    unfold bz
    rw [if_pos g1, g2]
    rcases q_good_c L with ⟨-, q, -⟩ | ⟨-, q, -⟩
    · rw [q, if_neg i10]
    · rw [q, if_pos rfl]
  have n9 : (f_LH_sets s (8 : Int32) (nI T) (nI r) (nI C) v x6 x7).1 ≠ -9999999 := by
    rw [v1]
    rcases q_good_c L with ⟨-, q, -⟩ | ⟨-, q, -⟩
    · show q_good L ≠ _; rw [q]; decide
    · show q_good L ≠ _; rw [q]; decide
  rcases z with ⟨z, -⟩ | ⟨-, z2, z3⟩
  · exact absurd z n9
  refine ⟨ps, pt, by rw [v1], by rw [z2, v1], z3, ?_⟩
  rw [v1]
  exact CB9_out g3 (fun a b q => by omega) e2
theorem hcho {u : am_M} {x y z w v : Int32} {S : am_M} (e : f_CB_choice u x y z w = (0, v, S)) : (h_CB_choice u x y z w).1 = 0 ∧ (h_CB_choice u x y z w).2.1 = v ∧ q_out S (h_CB_choice u x y z w).2.2 (fun a _ => 207 ≤ a) := by
  have e0 : (f_CB_choice u x y z w).1 = 0 := by rw [e]
  refine ⟨e0, by show (f_CB_choice u x y z w).2.1 = v; rw [e], ?_⟩
  show q_out S (if (f_CB_choice u x y z w).1 = 0 then lo (f_CB_choice u x y z w).2.2 (f_MO_choice (f_LA_choice u x y z w).2 x y z w).2 else (f_CB_choice u x y z w).2.2) _
  rw [if_pos e0, e]
  exact lo_out
theorem th_m {s : am_M} {x y z : Int32} (h0 : ¬ (f_CB_choice s x y z (0 : Int32)).1 = 0) (h49 : ∀ n s x1 x2 x3 x4 x5 x6, (f_CB_choice_49 n s x1 x2 x3 x4 x5 x6).1 = 0) : (f_CB_choice s x y z (0 : Int32)).2.2 = s := by
  unfold f_CB_choice at h0 ⊢
  by_cases c1 : f_CB_wantRow s x y = 0
  · rw [if_pos c1] at h0 ⊢
    by_cases c2 : f_CB_wantColumn s x z = 0
    · rw [if_pos c2] at h0 ⊢
      by_cases c3 : f_CB_wantLink s x z = 0
      · rw [if_pos c3, if_pos (show (0 : Int32) ≤ 0 by decide)] at h0
        exact absurd (h49 _ _ _ _ _ _ _ _) h0
      · rw [if_neg c3]
    · rw [if_neg c2]
  · rw [if_neg c1]
theorem cho49 : ∀ (n : Nat) (s : am_M) (x1 x2 x3 x4 x5 x6 : Int32), (f_CB_choice_49 n s x1 x2 x3 x4 x5 x6).1 = 0 := by
  intro n
  induction n with
  | zero => intro s x1 x2 x3 x4 x5 x6; rfl
  | succ n ih =>
    intro s x1 x2 x3 x4 x5 x6
    unfold f_CB_choice_49 f_CB_choice_95
    by_cases c1 : (30 : Int32) ≤ x6
    · rw [if_pos c1]
    · rw [if_neg c1]
      by_cases c2 : f_RO_has s 8 x5 x6 = 0
      · rw [if_pos c2]; exact ih _ _ _ _ _ _ _
      · rw [if_neg c2]
        by_cases c3 : (f_BA_couldPut s (((10 : Int32) * x1) + x3) x2 x6).1 = 0
        · rw [if_pos c3]; exact ih _ _ _ _ _ _ _
        · rw [if_neg c3]
theorem wv_30 {s : am_M} {i : Nat} (h : i < 30) : f_CB_wantValue s (nI i) = 0 := by
  have e1 : (nI i).toInt = i := nI_toInt (by omega)
  have g1 : (-1000000 : Int32).toInt = -1000000 := by decide
  have g2 : (-9999 : Int32).toInt = -9999 := by decide
  have g3 : (9999 : Int32).toInt = 9999 := by decide
  unfold f_CB_wantValue
  rw [if_neg (fun q => by have := congrArg Int32.toInt q; omega), if_neg (fun q => by rw [Int32.lt_iff_toInt_lt] at q; omega), if_pos (by rw [Int32.le_iff_toInt_le]; omega)]
theorem CB_cell {s A U R : am_M} {T r C : Nat} (b : CB9 s A U R) (w : q_wd A) (wr : q_we A R) (hT : T < q_nt A) (hr : r < 30) (hC : C < q_w A T) (hh : R 1 (30 * T + r) ≠ 0) : f_CB_cell s (nI T) (nI r) (nI C) = (0, R 2 (180 * T + 6 * r + C), s) := by
  obtain ⟨cd, oc, uc, cb⟩ := b
  have h4 := w.1.2
  have ht4 : T < 4 := by omega
  have hw6 := (w.2.1 T ht4).2.1
  have hT1 := qr_row cd w cb (nI T) (nI r)
  have hT2 := qd_wantC cd w (nI T) (nI C)
  have g : q_isR A R (nI T) (nI r) = 1 := by
    unfold q_isR q_isT
    rw [q_in_1 hT (by omega), if_neg i10, show q_c (nI T) = T from nI_clamp (by omega), if_pos ⟨q_in_1 hr (by omega), by rw [show q_c (nI r) = r from nI_clamp (by omega)]; exact hh⟩]
  have k : q_isC A (nI T) (nI C) = 1 := by
    unfold q_isC q_isT
    rw [q_in_1 hT (by omega), if_neg i10, show q_c (nI T) = T from nI_clamp (by omega)]
    exact q_in_1 hC (by omega)
  rw [g, if_neg i10] at hT1
  rw [k, if_neg i10] at hT2
  unfold f_CB_cell
  rw [hT1, if_pos rfl, hT2, if_pos rfl, qr_cell cb ht4 hr (by omega) hh]
theorem P116 {c : Nat} {s t A U R : am_M} {T r C i : Nat} {x5 x7 : Int32} (h : RR c s t) (b : CB9 s A U R) (w : q_wd A) (wr : q_wr A R) (uw : q_uw U) (hT : T < q_nt A) (hr : r < 30) (hC : C < q_w A T) (hk : A 209 (6 * T + C) = 1) (hh : R 1 (30 * T + r) ≠ 0) (hi : i < 30) (hg : q_brk A U (q_reck A (q_put R (180 * T + 6 * r + C) (nI i))) = []) : p_LH_isChoiceSo_116 s t (nI T) (nI r) (nI C) x5 (nI i) x7 1 ∧ (f_LH_isChoiceSo_116 s t (nI T) (nI r) (nI C) x5 (nI i) x7 1).1 = 1 ∧ RR c (f_LH_isChoiceSo_116 s t (nI T) (nI r) (nI C) x5 (nI i) x7 1).2.1 (f_LH_isChoiceSo_116 s t (nI T) (nI r) (nI C) x5 (nI i) x7 1).2.2 := by
  have i1 : ¬ (1 : Int32) = 0 := by decide
  have h4 := w.1.2
  have hw6 := (w.2.1 T (by omega)).2.1
  obtain ⟨a1, a2, a3, a4, a5, a6⟩ := LS_put (x6 := (0 : Int32)) (x7 := (0 : Int32)) h b w wr uw hT hr hC (Or.inr hk) hh (wv_30 hi) (q_v_30 hi)
  rw [hg] at a3 a4 a6
  have g2 : q_good [] = 1 := rfl
  have g3 : ∀ x y : am_M, q_pick [] x y = x := fun _ _ => rfl
  rw [g2] at a3 a4
  rw [g3] at a6
  have r1 : q_reck A (q_put R (180 * T + 6 * r + C) (nI i)) 1 = R 1 := (fold_1 _ _).trans (q_put_1 _ _ _)
  have ec : q_reck A (q_put R (180 * T + 6 * r + C) (nI i)) 2 (180 * T + 6 * r + C) = nI i := by
    rw [q_reck_o (by rw [show 6 * ((180 * T + 6 * r + C) / 180) + (180 * T + 6 * r + C) % 6 = 6 * T + C from by omega, hk]; decide)]
    exact if_pos ⟨rfl, rfl⟩
  have hc := CB_cell a6 w (q_we_reck w (q_put_we (x := 180 * T + 6 * r + C) wr.we (q_v_30 hi))).1 hT hr hC (by rw [r1]; exact hh)
  rw [ec] at hc
  have pc : p_CB_cell (f_LH_sets s (8 : Int32) (nI T) (nI r) (nI C) (nI i) (0 : Int32) (0 : Int32)).2 (nI T) (nI r) (nI C) := (Q_cell a5 (x := nI T) (y := nI r) (z := nI C) (a := (0 : Int32)) (b := (0 : Int32)) (e := (0 : Int32))).1.1
  unfold p_LH_isChoiceSo_116 f_LH_isChoiceSo_116
  rw [if_neg i1, if_pos a3, if_pos a4, hc, if_pos rfl]
  exact ⟨⟨fun q => absurd q i1, fun _ => ⟨a1, fun _ => ⟨a2, fun _ => ⟨pc, rfl, fun _ => trivial, fun _ => trivial⟩, fun q => absurd a4 q⟩, fun q => absurd a3 q⟩⟩, rfl, a5⟩
/-- THE CHOICE IS SO -/
theorem LS_choice {c : Nat} {s t : am_M} (h : RR c s t) (x2 x3 x4 : Int32) : p_LH_isChoiceSo s t x2 x3 x4 ∧ (f_LH_isChoiceSo s t x2 x3 x4).1 = 1 ∧ RR c (f_LH_isChoiceSo s t x2 x3 x4).2.1 (f_LH_isChoiceSo s t x2 x3 x4).2.2 := by
  have i1 : ¬ (1 : Int32) = 0 := by decide
  obtain ⟨A, U, R, b, w, wr, uw, gd⟩ := CB9_of h.1
  obtain ⟨p1, p2, e, r, le⟩ := LS_sets_9 (Nat.le_refl c) h (x2 := x2) (x3 := x3) (x4 := x4) (x5 := (0 : Int32)) (x6 := (0 : Int32)) (x7 := (0 : Int32))
  have key : f_CB_reason (f_LH_sets s (9 : Int32) x2 x3 x4 (0 : Int32) (0 : Int32) (0 : Int32)).2 = f_CB_reason s ∧ ∀ x5, p_LH_isChoiceSo_53 (f_LH_sets s (9 : Int32) x2 x3 x4 (0 : Int32) (0 : Int32) (0 : Int32)).2 (f_LH_sets t (9 : Int32) x2 x3 x4 (0 : Int32) (0 : Int32) (0 : Int32)).2 x2 x3 x4 x5 (f_LH_sets s (9 : Int32) x2 x3 x4 (0 : Int32) (0 : Int32) (0 : Int32)).1 1 ∧ (f_LH_isChoiceSo_53 (f_LH_sets s (9 : Int32) x2 x3 x4 (0 : Int32) (0 : Int32) (0 : Int32)).2 (f_LH_sets t (9 : Int32) x2 x3 x4 (0 : Int32) (0 : Int32) (0 : Int32)).2 x2 x3 x4 x5 (f_LH_sets s (9 : Int32) x2 x3 x4 (0 : Int32) (0 : Int32) (0 : Int32)).1 1).1 = 1 ∧ RR c (f_LH_isChoiceSo_53 (f_LH_sets s (9 : Int32) x2 x3 x4 (0 : Int32) (0 : Int32) (0 : Int32)).2 (f_LH_sets t (9 : Int32) x2 x3 x4 (0 : Int32) (0 : Int32) (0 : Int32)).2 x2 x3 x4 x5 (f_LH_sets s (9 : Int32) x2 x3 x4 (0 : Int32) (0 : Int32) (0 : Int32)).1 1).2.1 (f_LH_isChoiceSo_53 (f_LH_sets s (9 : Int32) x2 x3 x4 (0 : Int32) (0 : Int32) (0 : Int32)).2 (f_LH_sets t (9 : Int32) x2 x3 x4 (0 : Int32) (0 : Int32) (0 : Int32)).2 x2 x3 x4 x5 (f_LH_sets s (9 : Int32) x2 x3 x4 (0 : Int32) (0 : Int32) (0 : Int32)).1 1).2.2 := by
    have les := le s
    generalize f_LH_sets t (9 : Int32) x2 x3 x4 (0 : Int32) (0 : Int32) (0 : Int32) = Tq at *
    generalize f_LH_sets s (9 : Int32) x2 x3 x4 (0 : Int32) (0 : Int32) (0 : Int32) = Sq at *
    by_cases h0 : (f_CB_choice s x2 x3 x4 (0 : Int32)).1 = 0
    · obtain ⟨T, r9, C, v, S, rfl, rfl, rfl, hT, hr, hC, hk, hh, ech, oS, bS, hv⟩ := CB_choice b w wr uw h0
      obtain ⟨g1, g2, g3⟩ := hcho ech
      have e1 : Sq = (v, (h_CB_choice s (nI T) (nI r9) (nI C) (0 : Int32)).2.2) := by
        rw [les]; unfold az; rw [if_pos g1, g2]
      have o2 : q_out s Sq.2 (fun a _ => (9 ≤ a ∧ a ≤ 11) ∨ (13 ≤ a ∧ a ≤ 16) ∨ a = 19 ∨ 207 ≤ a) := fun a b hab => by
        rw [e1]
        show (h_CB_choice s (nI T) (nI r9) (nI C) (0 : Int32)).2.2 a b = _
        rw [g3 a b (by omega), oS a b (by omega)]
      have b2 : CB9 Sq.2 A U R := by rw [e1]; exact CB9_out g3 (fun a b q => by omega) bS
      have ev : Sq.1 = v := by rw [e1]
      refine ⟨o2 123 0 (by omega), fun x5 => ?_⟩
      rw [ev]
      rcases hv with hv | ⟨i, hi, hv, hP, hN⟩
      · rw [hv]
        have c0 : ¬ (0 : Int32) ≤ -1 := by decide
        unfold p_LH_isChoiceSo_53 f_LH_isChoiceSo_53
        rw [if_neg c0]
        exact ⟨⟨fun q => absurd q c0, fun _ => ⟨Or.inr rfl, trivial⟩⟩, rfl, r⟩
      · rw [hv]
        have c0 : (0 : Int32) ≤ nI i := Int32.not_lt.mp (qz (by omega))
        have hg : q_brk A U (q_reck A (q_put R (180 * T + 6 * r9 + C) (nI i))) = [] := by
          rcases q_good_c (q_brk A U (q_reck A (q_put R (180 * T + 6 * r9 + C) (nI i)))) with ⟨q, -⟩ | ⟨-, q, -⟩
          · exact q
          · exact absurd q hP.2
        unfold p_LH_isChoiceSo_53 f_LH_isChoiceSo_53 p_LH_isChoiceSo_111 f_LH_isChoiceSo_111
        rw [if_pos c0, if_neg i1]
        by_cases z : nI i = 0
        · obtain ⟨y1, y2⟩ := P116 (x5 := x5) (x7 := (1 : Int32)) r b2 w wr uw hT hr hC hk hh hi hg
          rw [if_pos z]
          exact ⟨⟨fun _ => ⟨fun q => absurd q i1, fun _ => ⟨fun _ => y1, fun q => absurd z q⟩⟩, fun q => absurd c0 q⟩, y2⟩
        · have hi0 : i ≠ 0 := fun q => z (by rw [q]; exact nI_0)
          obtain ⟨j, rfl⟩ : ∃ j, i = j + 1 := ⟨i - 1, by omega⟩
          have ej : nI (j + 1) - (1 : Int32) = nI j := q_subI j 1
          have hb : q_brk A U (q_reck A (q_put R (180 * T + 6 * r9 + C) (nI j))) ≠ [] := by
            by_cases n : R 1 (30 * q_tg A (6 * T + C) + j) = 0
            · exact brk_link w hT hr hC hk hh (by omega) n
            · intro q
              refine hN j (by omega) ⟨n, ?_⟩
              rw [q]; decide
          obtain ⟨a1, a2, a3, a4, a5, a6⟩ := LS_put (x6 := (0 : Int32)) (x7 := (0 : Int32)) r b2 w wr uw hT hr hC (Or.inr hk) hh (wv_30 (show j < 30 by omega)) (q_v_30 (show j < 30 by omega))
          rcases q_good_c (q_brk A U (q_reck A (q_put R (180 * T + 6 * r9 + C) (nI j)))) with ⟨q, -⟩ | ⟨-, q0, q1⟩
          · exact absurd q hb
          rw [q0] at a3 a4
          rw [q1] at a6
          obtain ⟨y1, y2⟩ := P116 (x5 := x5) (x7 := (1 : Int32)) a5 a6 w wr uw hT hr hC hk hh hi hg
          rw [if_neg z, ej, if_pos a3, if_pos a4]
          exact ⟨⟨fun _ => ⟨fun q => absurd q i1, fun _ => ⟨fun q => absurd q z, fun _ => ⟨a1, fun _ => ⟨a2, fun _ => y1, fun q => absurd a4 q⟩, fun q => absurd a3 q⟩⟩⟩, fun q => absurd c0 q⟩, y2⟩
    · have n1 : ¬ (h_CB_choice s x2 x3 x4 (0 : Int32)).1 = 0 := h0
      have e1 : Sq = (-9999999, s) := by
        rw [les]; unfold az; rw [if_neg n1, show (h_CB_choice s x2 x3 x4 (0 : Int32)).2.2 = (f_CB_choice s x2 x3 x4 (0 : Int32)).2.2 from if_neg h0, th_m h0 cho49]
      have ev : Sq.1 = -9999999 := by rw [e1]
      have c0 : ¬ (0 : Int32) ≤ -9999999 := by decide
      refine ⟨by rw [e1], fun x5 => ?_⟩
      rw [ev]
      unfold p_LH_isChoiceSo_53 f_LH_isChoiceSo_53
      rw [if_neg c0]
      exact ⟨⟨fun q => absurd q c0, fun _ => ⟨Or.inr rfl, trivial⟩⟩, rfl, r⟩
  obtain ⟨k1, k2⟩ := key
  obtain ⟨k2, k3⟩ := k2 (f_CB_reason s)
  unfold p_LH_isChoiceSo f_LH_isChoiceSo
  rw [if_pos e, if_pos k1]
  exact ⟨⟨p1, p2, fun _ => ⟨fun _ => k2, fun q => absurd k1 q⟩, fun q => absurd e q⟩, k3⟩
end

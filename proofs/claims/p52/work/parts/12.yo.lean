noncomputable section
-- need, single
/-- a design changed in its place: ranges, flags -/
theorem q_inpl {A B : am_M} (wd : q_wd A) (h1 : B 207 1 = A 207 1) (hB : ∀ a, a = 208 ∨ a = 209 ∨ a = 212 ∨ (214 ≤ a ∧ a ≤ 217) → B a = A a) (hfl : ∀ k, k < 24 → (B 218 k = 0 ∨ (B 218 k = 1 ∧ (B 209 k = 0 ∨ B 209 k = 1))) ∧ (B 219 k = 0 ∨ (B 219 k = 1 ∧ (B 209 k = 0 ∨ B 209 k = 1)))) : q_wd B ∧ q_ord B = q_ord A ∧ (∀ R, q_wr A R → q_wr B R) ∧ q_nt B = q_nt A ∧ (∀ R, q_we A R → q_we B R) := by
  have n1 : q_nt B = q_nt A := by unfold q_nt; rw [h1]
  have w1 : ∀ u, q_w B u = q_w A u := fun u => by unfold q_w; rw [hB 208 (by omega)]
  have g1 : ∀ u, q_tg B u = q_tg A u := fun u => by unfold q_tg; rw [hB 212 (by omega)]
  refine ⟨⟨by rw [n1, h1]; exact wd.1, fun u hu => ?_, fun k hk => ?_, fun k hk e => ?_, hfl, fun k hk e => ?_⟩, ?_, fun R hR => ?_, n1, fun R hR => ?_⟩
  · rw [w1, n1, hB 208 (by omega)]; exact wd.2.1 u hu
  · rw [w1, hB 209 (by omega)]; exact wd.2.2.1 k hk
  · rw [hB 209 (by omega)] at e
    rw [g1, n1, hB 212 (by omega)]; exact wd.2.2.2.1 k hk e
  · rw [hB 209 (by omega)] at e
    rw [hB 214 (by omega), hB 215 (by omega), hB 216 (by omega), hB 217 (by omega)]
    exact q_f_t (fun t c q => ⟨⟨by rw [n1]; exact q.1, by rw [w1]; exact q.2.1, by rw [hB 209 (by omega)]; exact q.2.2⟩, by rw [hB 209 (by omega)], by rw [hB 212 (by omega)]⟩) (wd.2.2.2.2.2 k hk e)
  · exact (q_ord_c wd (q_same_of wd (fun k _ => by rw [hB 209 (by omega)]) (fun k _ _ => by rw [hB 214 (by omega), hB 215 (by omega), hB 216 (by omega), hB 217 (by omega)]; exact ⟨rfl, rfl, rfl, rfl⟩) (fun k _ _ => by rw [hB 212 (by omega)]))).symm
  · obtain ⟨r1, r2, r3, r4, r5⟩ := hR
    refine ⟨by rw [n1]; exact r1, r2, r3, fun p c hp hc => ?_, fun p c hp hc => ?_⟩
    · rw [hB 209 (by omega)]; exact r4 p c hp hc
    · rw [hB 209 (by omega), g1]; exact r5 p c hp hc
  · exact ⟨by rw [n1]; exact hR.1, hR.2⟩
theorem q_fl_wd {A : am_M} (wd : q_wd A) {a k : Nat} {x : Int32} (ha : a = 218 ∨ a = 219) (hx : x = 0 ∨ x = 1) (hk : A 209 k = 0 ∨ A 209 k = 1) : q_wd (am_set A a k x) ∧ q_ord (am_set A a k x) = q_ord A ∧ (∀ R, q_wr A R → q_wr (am_set A a k x) R) ∧ q_nt (am_set A a k x) = q_nt A ∧ (∀ R, q_we A R → q_we (am_set A a k x) R) := by
  refine q_inpl wd (am_set_p (by omega)) (fun b hb => am_set_o (by omega)) (fun i hi => ?_)
  have h := wd.2.2.2.2.1 i hi
  have e9 : am_set A a k x 209 = A 209 := am_set_o (by omega)
  rw [e9]
  rcases ha with rfl | rfl
  · rw [show am_set A 218 k x 219 = A 219 from am_set_o (by omega)]
    refine ⟨?_, h.2⟩
    by_cases e : i = k
    · subst e; rw [am_set_q]
      rcases hx with hx | hx
      · exact Or.inl hx
      · exact Or.inr ⟨hx, hk⟩
    · rw [am_set_p (Or.inr e)]; exact h.1
  · rw [show am_set A 219 k x 218 = A 218 from am_set_o (by omega)]
    refine ⟨h.1, ?_⟩
    by_cases e : i = k
    · subst e; rw [am_set_q]
      rcases hx with hx | hx
      · exact Or.inl hx
      · exact Or.inr ⟨hx, hk⟩
    · rw [am_set_p (Or.inr e)]; exact h.2
theorem qd_store {s A : am_M} (cd : q_cd s A) {t c : Nat} (ht : t < 4) (hc : c < 6) : f_CB_wantStored s (nI t) (nI c) = if A 209 (6 * t + c) = 0 ∨ A 209 (6 * t + c) = 1 then 0 else 2 := by
  unfold f_CB_wantStored f_CO_isStored
  rw [qd_col ht hc, cd.2.2.1 _ (by omega)]
  by_cases c0 : A 209 (6 * t + c) = 0
  · rw [if_pos (q_kc_1.mpr c0), if_neg i10, if_pos (Or.inl c0)]
  · rw [if_neg (fun q => c0 (q_kc_1.mp q))]
    by_cases c1 : A 209 (6 * t + c) = 1
    · rw [if_pos (q_kc_2.mpr c1), if_neg i10, if_pos (Or.inr c1)]
    · rw [if_neg (fun q => c1 (q_kc_2.mp q)), if_pos rfl, if_neg (fun q => q.elim c0 c1)]
theorem qd_pstored (s : am_M) (x y : Int32) : p_CO_isStored s (f_BA_column s x y) := ⟨qd_ref s x y, fun _ => trivial, fun _ => ⟨fun _ => trivial, fun _ => trivial⟩⟩
theorem qd_pstore (s : am_M) (x y : Int32) : p_CB_wantStored s x y := ⟨qd_pcol s x y, qd_pstored s x y, qd_ref s x y, fun _ => trivial, fun _ => trivial⟩
theorem qd_estored {s A : am_M} (md : q_md s A) (w : q_wd A) {x y : Int32} : p_MO_errorOfStored s x y ∧ f_MO_errorOfStored s x y = if q_isC A x y = 0 then 1 else if A 209 (6 * q_c x + q_c y) = 0 ∨ A 209 (6 * q_c x + q_c y) = 1 then 0 else 2 := by
  unfold p_MO_errorOfStored f_MO_errorOfStored
  rw [qd_isC md w]
  rcases q_isC_c w x y with g | ⟨g, T, C, ht, ht4, hc, hc6, rfl, rfl⟩
  · rw [g, if_pos rfl, if_pos rfl]
    exact ⟨⟨qd_pisC md w _ _, fun _ => trivial, fun q => absurd rfl q⟩, rfl⟩
  · have st := qm_stored md (k := 6 * T + C) (by omega)
    rw [g, if_neg i10, if_neg i10, qw_6, nI_add, st.2, show q_c (nI T) = T from nI_clamp (by omega), show q_c (nI C) = C from nI_clamp (by omega)]
    refine ⟨⟨qd_pisC md w _ _, fun q => absurd q i10, fun _ => ⟨st.1, fun _ => trivial, fun _ => trivial⟩⟩, ?_⟩
    by_cases c : A 209 (6 * T + C) = 0 ∨ A 209 (6 * T + C) = 1
    · rw [if_pos c, if_neg i10, if_pos c]
    · rw [if_neg c, if_pos rfl, if_neg c]
/-- one field of a column, changed and settled: the class -/
theorem qc_flag {s A R U : am_M} {k j : Nat} {x : Int32} (cd : q_cd s A) (oc : q_oc s A) (w1 : q_wd (am_set A (q_fld j) k x)) (ho : q_ord (am_set A (q_fld j) k x) = q_ord A) (e1 : q_we (am_set A (q_fld j) k x) R) (cb : q_cb s 9 10 11 R) (uc : q_uc s U) (uw : q_uw U) (hk : k < 24) (hj1 : 1 ≤ j) (hj2 : j ≤ 10) : p_BA_keep s ∧ p_BA_settle (am_set (f_BA_keep s) (20 + k) j x) ∧ ∃ T, f_BA_settle (am_set (f_BA_keep s) (20 + k) j x) = (q_good (q_brk (am_set A (q_fld j) k x) U (q_reck (am_set A (q_fld j) k x) R)), T) ∧
    ∀ t, t = (if q_good (q_brk (am_set A (q_fld j) k x) U (q_reck (am_set A (q_fld j) k x) R)) = 0 then am_set T (20 + k) j (s (20 + k) j) else T) → q_out s t (fun a b => (9 ≤ a ∧ a ≤ 11) ∨ (13 ≤ a ∧ a ≤ 16) ∨ a = 19 ∨ (a = 20 + k ∧ b = j)) ∧ q_cd t (q_pick (q_brk (am_set A (q_fld j) k x) U (q_reck (am_set A (q_fld j) k x) R)) (am_set A (q_fld j) k x) A) ∧ q_cb t 9 10 11 (q_pick (q_brk (am_set A (q_fld j) k x) U (q_reck (am_set A (q_fld j) k x) R)) (q_reck (am_set A (q_fld j) k x) R) R) ∧ q_fd t 16 0 (q_brk (am_set A (q_fld j) k x) U (q_reck (am_set A (q_fld j) k x) R)) := by
  obtain ⟨p1, S, s1, s2, s3⟩ := qk_keep cb
  have hfl : 210 ≤ q_fld j ∧ q_fld j ≤ 219 := by unfold q_fld; split <;> omega
  rw [s1]
  have o1 : q_out s (am_set S (20 + k) j x) (fun a b => (13 ≤ a ∧ a ≤ 15) ∨ (a = 20 + k ∧ b = j)) := fun a b hab => by rw [am_set_p (by omega), s2 a b (by omega)]
  have cdS : q_cd S A := q_cd_out s2 (fun a b q => by omega) cd
  have cd1 : q_cd (am_set S (20 + k) j x) (am_set A (q_fld j) k x) := q_cd_fld hk hj1 hj2 cdS
  have oc1 : q_oc (am_set S (20 + k) j x) (am_set A (q_fld j) k x) := q_oc_B ho (q_oc_out o1 (fun a b q => by omega) oc)
  have o4 : q_out S (am_set S (20 + k) j x) (fun a b => a = 20 + k) := fun a b hab => am_set_p (by omega)
  obtain ⟨p2, T, t1, t2, t3, t4⟩ := qs_settle cd1 oc1 w1 e1 (q_cb_out o1 (fun a b q => by omega) cb) (q_uc_out o1 (fun a b q => by omega) uc) uw (q_cb_out2 o4 (fun a b q => by omega) s3)
  refine ⟨p1, p2, T, t1, fun t ht => ?_⟩
  rcases q_good_c (q_brk (am_set A (q_fld j) k x) U (q_reck (am_set A (q_fld j) k x) R)) with ⟨g1, g2, g3⟩ | ⟨g1, g2, g3⟩
  · rw [g2, if_neg i10] at ht
    rw [ht, g3]
    rw [g3] at t3
    exact ⟨fun a b hab => by rw [t2 a b (by omega), o1 a b (by omega)], q_cd_out t2 (fun a b q => by omega) cd1, by rw [g3]; exact t3, t4⟩
  · rw [g2, if_pos rfl] at ht
    rw [g3] at t3
    have cdT := q_cd_fld (x := A (q_fld j) k) hk hj1 hj2 (q_cd_out t2 (fun a b q => by omega) cd1)
    rw [am_set_back] at cdT
    have ex : s (20 + k) j = A (q_fld j) k := cd.2.2.2 k j hk hj1 hj2
    rw [ht, g3, g3, ex]
    exact ⟨fun a b hab => by rw [am_set_p (by omega), t2 a b (by omega), o1 a b (by omega)], cdT, q_cb_set (by omega) t3, q_fd_out (P := fun a _ => a = 20 + k) (fun a b hab => am_set_p (by omega)) (fun i j q => by omega) t4⟩
/-- the same: the model; from a memory u whose 'thrown' is 0 -/
theorem qm_flag {u A R U : am_M} {k m : Nat} {x : Int32} (md : q_md u A) (w1 : q_wd (am_set A m k x)) (e1 : q_we (am_set A m k x) R) (mb : q_mb u R) (um : q_um u U) (uw : q_uw U) (hm1 : 210 ≤ m) (hm2 : m ≤ 219) : p_MO_saves u 6 ∧ p_MO_isKept (am_set (f_MO_saves u 6) m k x) ∧ ∃ T, f_MO_isKept (am_set (f_MO_saves u 6) m k x) = (q_good (q_brk (am_set A m k x) U (q_reck (am_set A m k x) R)), T) ∧
    ∀ y, y = (if q_good (q_brk (am_set A m k x) U (q_reck (am_set A m k x) R)) = 0 then u m k else x) → p_MO_isChanged (am_set T m k y) (q_good (q_brk (am_set A m k x) U (q_reck (am_set A m k x) R))) ∧ ∃ t, f_MO_isChanged (am_set T m k y) (q_good (q_brk (am_set A m k x) U (q_reck (am_set A m k x) R))) = (q_good (q_brk (am_set A m k x) U (q_reck (am_set A m k x) R)), t) ∧ q_out u t (fun a b => (a = 207 ∧ (b = 15 ∨ (31 ≤ b ∧ b ≤ 34) ∨ b = 38)) ∨ a = m ∨ (220 ≤ a ∧ a ≤ 221) ∨ (228 ≤ a ∧ a ≤ 230) ∨ (a = 233 ∧ 4320 ≤ b) ∨ (a = 234 ∧ 720 ≤ b) ∨ (a = 235 ∧ 24 ≤ b)) ∧ q_md t (q_pick (q_brk (am_set A m k x) U (q_reck (am_set A m k x) R)) (am_set A m k x) A) ∧ q_mb t (q_pick (q_brk (am_set A m k x) U (q_reck (am_set A m k x) R)) (q_reck (am_set A m k x) R) R) ∧ q_fd t 207 31 (q_brk (am_set A m k x) U (q_reck (am_set A m k x) R)) ∧ t 207 38 = (if q_good (q_brk (am_set A m k x) U (q_reck (am_set A m k x) R)) = 0 then u 207 38 else 0) := by
  obtain ⟨p1, S, s1, s2, s3⟩ := qm_saves (l := 6) (by omega) mb
  have e6 : nI 6 = (6 : Int32) := rfl
  rw [e6] at p1 s1
  rw [s1]
  have o1 : q_out S (am_set S m k x) (fun a b => a = m) := fun a b hab => am_set_p (by omega)
  obtain ⟨p2, T, t1, t2, t3, t4⟩ := qm_isKept (q_md_fld (by omega) (q_md_out s2 (fun a b q => by omega) md)) w1 e1 (q_mb_set (by omega) (q_mb_out s2 (fun a b q => by omega) mb)) (q_um_out o1 (fun a b q => by omega) (q_um_out s2 (fun a b q => by omega) um)) uw (q_mh_out o1 (fun a b q => by omega) s3)
  refine ⟨p1, p2, T, t1, fun y hy => ?_⟩
  obtain ⟨p3, t, c1, c2, c3⟩ := @qm_chg (am_set T m k y) (q_brk (am_set A m k x) U (q_reck (am_set A m k x) R))
  have oT : q_out T t (fun a b => a = m ∨ (a = 207 ∧ b = 38)) := fun a b hab => by rw [c2 a b (by omega), am_set_p (by omega)]
  have mdT : q_md T (am_set A m k x) := q_md_out t2 (fun a b q => by omega) (q_md_fld (by omega) (q_md_out s2 (fun a b q => by omega) md))
  have mdY : q_md (am_set T m k y) (q_pick (q_brk (am_set A m k x) U (q_reck (am_set A m k x) R)) (am_set A m k x) A) := by
    have h := q_md_fld (a := m) (k := k) (x := y) (by omega) mdT
    rcases q_good_c (q_brk (am_set A m k x) U (q_reck (am_set A m k x) R)) with ⟨g1, g2, g3⟩ | ⟨g1, g2, g3⟩
    · rw [g2, if_neg i10] at hy
      rw [g3]
      have : am_set (am_set A m k x) m k y = am_set A m k x := by
        rw [hy]
        have := @am_set_back (am_set A m k x) m k x
        funext a b
        by_cases q : a = m ∧ b = k
        · rw [q.1, q.2, am_set_q, am_set_q]
        · rw [am_set_p (by omega)]
      rw [this] at h; exact h
    · rw [g2, if_pos rfl] at hy
      rw [g3]
      have em : u m k = A m k := by
        have := md.2 m (by omega) (by omega)
        rw [this]
      rw [hy, em, am_set_back] at h
      rw [hy, em]; exact h
  refine ⟨p3, t, c1, fun a b hab => ?_, q_md_out c2 (fun a b q => by omega) mdY, q_mb_out oT (fun a b q => by omega) t3, q_fd_out oT (fun i j q => by omega) t4, ?_⟩
  · rw [oT a b (by omega), t2 a b (by omega), am_set_p (by omega), s2 a b (by omega)]
  · rw [c3, am_set_p (by omega), t2 _ _ (by omega), am_set_p (by omega), s2 _ _ (by omega)]
end

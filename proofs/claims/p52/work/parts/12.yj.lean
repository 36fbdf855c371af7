noncomputable section
-- the class counts what is broken
theorem qb_ho {s : am_M} {j : Nat} (hj : j < 8) {U : am_M} (uc : q_uc s U) {a b : Int32} (ha : q_v a) (hb : q_v b) (hm : -9999 ≤ (U 226 j).toInt ∧ (U 226 j).toInt ≤ 9999) : p_RU_holds s (44 + j) a b ∧ f_RU_holds s (44 + j) a b = q_ho (U 224 j) (U 226 j) a b := by
  have f2 : s (44 + j) 2 = U 224 j := uc.2 j 2 hj (by omega)
  have f4 : s (44 + j) 4 = U 226 j := uc.2 j 4 hj (by omega)
  have rf : (44 + j) < 207 ∧ am_sh (44 + j) = (0, 7, 6) := ⟨by omega, qb_sh hj⟩
  unfold p_RU_holds f_RU_holds p_RU_holds_19 f_RU_holds_19 p_RU_holds_91 f_RU_holds_91
  rw [f2, f4]
  refine ⟨⟨rf, fun _ => ⟨fun _ => ⟨fun _ => ⟨fun _ => trivial, fun _ => trivial⟩, fun _ => ⟨fun _ => trivial, fun _ => trivial⟩⟩, fun _ => ⟨fun _ => ⟨fun _ => trivial, fun _ => trivial⟩, fun _ => ⟨fun _ => trivial, fun _ => trivial⟩⟩⟩, fun _ => ⟨fun _ => trivial, fun _ => ⟨fun _ => trivial, fun _ => ⟨fun _ => ⟨fun _ => trivial, fun _ => trivial⟩, fun _ => ⟨fun _ => ⟨rf, fun _ => ⟨fun _ => trivial, fun _ => trivial⟩, fun _ => ⟨fun _ => trivial, fun _ => trivial⟩⟩, fun _ => ⟨rf, fun _ => ⟨fun _ => trivial, fun _ => trivial⟩, fun _ => ⟨fun _ => trivial, fun _ => trivial⟩⟩⟩⟩⟩⟩⟩, ?_⟩
  have n01 : ¬ (0 : Int32) = 1 := by decide
  unfold q_ho
  by_cases c3 : U 224 j = 3
  · rw [if_pos c3, if_pos c3]
    by_cases ca : a = -1000000
    · by_cases cb : b = -1000000
      · rw [if_pos ca, if_pos cb, if_pos rfl, if_pos ⟨fun _ => cb, fun _ => ca⟩]
      · rw [if_pos ca, if_neg cb, if_neg i10, if_neg (fun q => cb (q.mp ca))]
    · by_cases cb : b = -1000000
      · rw [if_neg ca, if_pos cb, if_neg n01, if_neg (fun q => ca (q.mpr cb))]
      · rw [if_neg ca, if_neg cb, if_pos rfl, if_pos ⟨fun q => absurd q ca, fun q => absurd q cb⟩]
  rw [if_neg c3, if_neg c3]
  by_cases ca : a = -1000000
  · rw [if_pos ca, if_pos ca]
  rw [if_neg ca, if_neg ca]
  by_cases cb : b = -1000000
  · rw [if_pos cb, if_pos cb]
  rw [if_neg cb, if_neg cb]
  by_cases c0 : U 224 j = 0
  · rw [if_pos c0, if_pos c0]
    have hs : (b + U 226 j).toInt = b.toInt + (U 226 j).toInt := by
      rw [Int32.toInt_add]
      exact Int.bmod_eq_of_le (by have := hb.1; have := hm.1; omega) (by have := hb.2; have := hm.2; omega)
    by_cases l : b + U 226 j < a
    · rw [if_pos l, if_neg]
      rw [Int32.lt_iff_toInt_lt, hs] at l; omega
    · rw [if_neg l, if_pos]
      rw [Int32.lt_iff_toInt_lt, hs] at l; omega
  rw [if_neg c0, if_neg c0]
  by_cases c1 : U 224 j = 1
  · rw [if_pos c1, if_pos c1, if_pos c1]
    by_cases e : a = b + U 226 j
    · rw [if_pos e, if_pos e, if_pos rfl]
    · rw [if_neg e, if_neg e, if_neg n01]
  · rw [if_neg c1, if_neg c1, if_neg c1]
    by_cases e : a = b + U 226 j
    · rw [if_pos e, if_pos e, if_neg i10]
    · rw [if_neg e, if_neg e, if_pos rfl]
theorem qb_5 {A R U : am_M} (e : q_we A R) (uw : q_uw U) {t r : Nat} (ht : t < 4) (hr : r < 30) (hh : R 1 (30 * t + r) ≠ 0) : ∀ (d j n : Nat) (s : am_M) (x : Int32), j + d = q_c (U 207 17) → d < n → q_cb s 9 10 11 R → q_uc s U → p_BA_brokenRules_5 n s (nI t) (nI r) x (nI j) ∧ f_BA_brokenRules_5 n s (nI t) (nI r) x (nI j) = (x + nI (q_br U R t r d j).length, q_F s (q_br U R t r d j)) := by
  have h8 := uw.1.2
  intro d
  induction d with
  | zero =>
    intro j n s x h1 h2 cb uc
    obtain ⟨n, rfl⟩ : ∃ k, n = k + 1 := ⟨n - 1, by omega⟩
    have c : s 1 6 ≤ nI j := by rw [uc.1, uw.1.1]; exact qn_le (by omega) (by omega)
    unfold p_BA_brokenRules_5 f_BA_brokenRules_5
    rw [if_pos c]
    refine ⟨⟨fun _ => trivial, fun q => absurd c q⟩, ?_⟩
    show (x, s) = (x + nI ([] : List q_It).length, s)
    rw [q_one]
  | succ d ih =>
    intro j n s x h1 h2 cb uc
    obtain ⟨n, rfl⟩ : ∃ k, n = k + 1 := ⟨n - 1, by omega⟩
    have hj : j < 8 := by omega
    have c : ¬ s 1 6 ≤ nI j := by rw [uc.1, uw.1.1]; exact nI_ge (by omega) (by omega)
    have c8 : ¬ (8 : Int32) ≤ nI j := ql_8 hj
    obtain ⟨⟨t9, a9, b9, g1, g2, g3, g4, g5, g6⟩, hm⟩ := (uw.2 j hj).1 (by omega)
    have rf : (44 + j) < 207 ∧ am_sh (44 + j) = (0, 7, 6) := ⟨by omega, qb_sh hj⟩
    have f0 : s (44 + j) 0 = U 222 j := uc.2 j 0 hj (by omega)
    have f1 : s (44 + j) 1 = nI a9 := (uc.2 j 1 hj (by omega)).trans g5
    have f3 : s (44 + j) 3 = nI b9 := (uc.2 j 3 hj (by omega)).trans g6
    have f5 : s (44 + j) 5 = U 227 j := uc.2 j 5 hj (by omega)
    have va := e.2.2 (180 * t + 6 * r + a9) (by omega) (by rw [show (180 * t + 6 * r + a9) / 6 = 30 * t + r from by omega]; exact hh)
    have vb := e.2.2 (180 * t + 6 * r + b9) (by omega) (by rw [show (180 * t + 6 * r + b9) / 6 = 30 * t + r from by omega]; exact hh)
    have hho := qb_ho hj uc va vb hm
    have hv : vp_in (nI j) 8 := vp_in_nI hj (by omega)
    have skip := ih (j + 1) n s x (by omega) (by omega) cb uc
    have hit := ih (j + 1) n (q_F s [(5, t, r, j)]) (x + 1) (by omega) (by omega) (q_cb_F cb) (q_uc_F uc)
    have hF : f_RE_setFirst s 16 (5 : Int32) (nI t) (nI r) (nI j) = q_F s [(5, t, r, j)] := rfl
    have hr1 : q_r1 U R t r j = if U 227 j = 0 ∧ U 222 j = nI t ∧ q_ho (U 224 j) (U 226 j) (R 2 (180 * t + 6 * r + a9)) (R 2 (180 * t + 6 * r + b9)) = 0 then [(5, t, r, j)] else [] := by
      unfold q_r1
      rw [g5, g6, show q_c (nI a9) = a9 from nI_clamp (by omega), show q_c (nI b9) = b9 from nI_clamp (by omega)]
    have none : q_r1 U R t r j = [] → (x + nI (q_br U R t r d (j + 1)).length, q_F s (q_br U R t r d (j + 1))) = (x + nI (q_br U R t r (d + 1) j).length, q_F s (q_br U R t r (d + 1) j)) := fun q => by
      show _ = (x + nI (q_r1 U R t r j ++ q_br U R t r d (j + 1)).length, q_F s (q_r1 U R t r j ++ q_br U R t r d (j + 1)))
      rw [q]; rfl
    unfold p_BA_brokenRules_5 f_BA_brokenRules_5 p_BA_brokenRules_98 f_BA_brokenRules_98
    rw [if_neg c, if_neg c8, nI_clamp (n := j) (by omega), qb_lk hj, f0, f1, f3, f5, qr_cell cb ht hr g2 hh, qr_cell cb ht hr g3 hh, hho.2, hF]
    simp only [nI_1]
    refine ⟨⟨fun q => absurd q c, fun _ => ⟨fun q => absurd q c8, fun _ => ⟨hv, rf, fun _ => ⟨fun _ => ⟨qr_pget _ _ _ _, qr_pget _ _ _ _, hho.1, fun _ => ⟨q_pset16 _ _ _ _ _, hit.1⟩, fun _ => skip.1⟩, fun _ => skip.1⟩, fun _ => skip.1⟩⟩⟩, ?_⟩
    by_cases c5 : U 227 j = 0
    · rw [if_pos c5]
      by_cases c0 : U 222 j = nI t
      · rw [if_pos c0]
        by_cases ch : q_ho (U 224 j) (U 226 j) (R 2 (180 * t + 6 * r + a9)) (R 2 (180 * t + 6 * r + b9)) = 0
        · rw [if_pos ch, hit.2, q_F_a (q_kd_1 (by decide) (by decide))]
          show _ = (x + nI (q_r1 U R t r j ++ q_br U R t r d (j + 1)).length, q_F s (q_r1 U R t r j ++ q_br U R t r d (j + 1)))
          rw [hr1, if_pos ⟨c5, c0, ch⟩, ← q_addl]; rfl
        · rw [if_neg ch, skip.2]; exact none (by rw [hr1, if_neg (fun q => ch q.2.2)])
      · rw [if_neg c0, skip.2]; exact none (by rw [hr1, if_neg (fun q => c0 q.2.1)])
    · rw [if_neg c5, skip.2]; exact none (by rw [hr1, if_neg (fun q => c5 q.1)])
theorem qb_rules {s A R U : am_M} (e : q_we A R) (uw : q_uw U) (cb : q_cb s 9 10 11 R) (uc : q_uc s U) {t r : Nat} (ht : t < 4) (hr : r < 30) (hh : R 1 (30 * t + r) ≠ 0) : p_BA_brokenRules s (nI t) (nI r) ∧ f_BA_brokenRules s (nI t) (nI r) = (nI (q_br U R t r (q_c (U 207 17)) 0).length, q_F s (q_br U R t r (q_c (U 207 17)) 0)) := by
  have h8 := uw.1.2
  have h := qb_5 e uw ht hr hh (q_c (U 207 17)) 0 am_F s 0 (by omega) (by rw [am_F_eq]; omega) cb uc
  rw [nI_0, Int32.zero_add] at h
  exact h
theorem qb_53 {A R U : am_M} (w : q_wd A) (e : q_we A R) (uw : q_uw U) {t r : Nat} (ht : t < 4) (hr : r < 30) (hh : R 1 (30 * t + r) ≠ 0) (K11 : am_M → Int32 → Int32 → Int32 → Int32 × am_M) (KP11 : am_M → Int32 → Int32 → Int32 → Prop) (K22 : am_M → Int32 → Int32 → Int32 → Int32 → Int32 × am_M) (KP22 : am_M → Int32 → Int32 → Int32 → Int32 → Prop) (x1 : Int32) : ∀ (d c n : Nat) (s : am_M) (x : Int32), c + d = q_w A t → d < n → q_cd s A → q_cb s 9 10 11 R → q_uc s U → f_BA_countBroken_53 K11 K22 n s x1 x (nI t) (nI r) (nI c) = K22 (q_F s (q_bi A R t r (4 * d) (4 * c) ++ q_br U R t r (q_c (U 207 17)) 0)) x1 (x + nI (q_bi A R t r (4 * d) (4 * c) ++ q_br U R t r (q_c (U 207 17)) 0).length) (nI t) (nI r + 1) ∧ (KP22 (q_F s (q_bi A R t r (4 * d) (4 * c) ++ q_br U R t r (q_c (U 207 17)) 0)) x1 (x + nI (q_bi A R t r (4 * d) (4 * c) ++ q_br U R t r (q_c (U 207 17)) 0).length) (nI t) (nI r + 1) → p_BA_countBroken_53 KP11 KP22 n s x1 x (nI t) (nI r) (nI c)) := by
  have hw6 := (w.2.1 t ht).2.1
  intro d
  induction d with
  | zero =>
    intro c n s x h1 h2 cd cb uc
    obtain ⟨n, rfl⟩ : ∃ k, n = k + 1 := ⟨n - 1, by omega⟩
    have hr9 := qb_rules e uw cb uc ht hr hh
    have c1 : nI (q_w A t) ≤ nI c := qn_le (by omega) (by omega)
    unfold p_BA_countBroken_53 f_BA_countBroken_53 p_BA_countBroken_81 f_BA_countBroken_81 p_BA_countBroken_91 f_BA_countBroken_91
    rw [qd_w cd w ht, if_pos c1, hr9.2]
    exact ⟨rfl, fun h => ⟨qd_pw _ _, fun _ => ⟨hr9.1, h⟩, fun q => absurd c1 q⟩⟩
  | succ d ih =>
    intro c n s x h1 h2 cd cb uc
    obtain ⟨n, rfl⟩ : ∃ k, n = k + 1 := ⟨n - 1, by omega⟩
    have c1 : ¬ nI (q_w A t) ≤ nI c := nI_ge (by omega) (by omega)
    have hc := qb_cell cd w cb ht hr (show c < 6 by omega) hh
    have h := ih (c + 1) n (q_F s (q_bi A R t r 4 (4 * c))) (x + nI (q_bi A R t r 4 (4 * c)).length) (by omega) (by omega) (q_cd_F cd) (q_cb_F cb) (q_uc_F uc)
    rw [q_F_a (q_kd_bi _ _), q_addl, ← List.append_assoc] at h
    have el : q_bi A R t r (4 * (d + 1)) (4 * c) = q_bi A R t r 4 (4 * c) ++ q_bi A R t r (4 * d) (4 * (c + 1)) := by
      rw [show 4 * (d + 1) = 4 + 4 * d from by omega, q_bi_a, show 4 * c + 4 = 4 * (c + 1) from by omega]
    rw [← el] at h
    unfold p_BA_countBroken_53 f_BA_countBroken_53
    rw [qd_w cd w ht, if_neg c1, hc.2, nI_1]
    exact ⟨h.1, fun g => ⟨qd_pw _ _, fun q => absurd q c1, fun _ => ⟨hc.1, h.2 g⟩⟩⟩
/-- one row, there or not -/
theorem qb_37 {A R U : am_M} (w : q_wd A) (e : q_we A R) (uw : q_uw U) {t r : Nat} (ht : t < 4) (hr : r < 30) (K11 : am_M → Int32 → Int32 → Int32 → Int32 × am_M) (KP11 : am_M → Int32 → Int32 → Int32 → Prop) (K22 : am_M → Int32 → Int32 → Int32 → Int32 → Int32 × am_M) (KP22 : am_M → Int32 → Int32 → Int32 → Int32 → Prop) (x1 x : Int32) {s : am_M} (cd : q_cd s A) (cb : q_cb s 9 10 11 R) (uc : q_uc s U) : f_BA_countBroken_37 K11 K22 s x1 x (nI t) (nI r) = K22 (q_F s (q_row1 A U R (30 * t + r))) x1 (x + nI (q_row1 A U R (30 * t + r)).length) (nI t) (nI (r + 1)) ∧ (KP22 (q_F s (q_row1 A U R (30 * t + r))) x1 (x + nI (q_row1 A U R (30 * t + r)).length) (nI t) (nI (r + 1)) → p_BA_countBroken_37 KP11 KP22 s x1 x (nI t) (nI r)) := by
  have hw6 := (w.2.1 t ht).2.1
  have hs := qr_has cb ht (nI r)
  unfold p_BA_countBroken_37 f_BA_countBroken_37 p_BA_countBroken_91 f_BA_countBroken_91
  rw [hs, ← nI_1]
  unfold q_row1
  by_cases hh : R 1 (30 * t + r) = 0
  · rw [if_neg (fun q => (q_hs_I hr).mp q hh), if_pos rfl, if_pos hh, q_one]
    exact ⟨rfl, fun h => ⟨qr_phas _ _ _, fun _ => h, fun q => absurd rfl q⟩⟩
  · have h := qb_53 w e uw ht hr hh K11 KP11 K22 KP22 x1 (q_w A t) 0 am_F s x (by omega) (by rw [am_F_eq]; omega) cd cb uc
    rw [nI_0, Nat.mul_zero] at h
    rw [if_pos ((q_hs_I hr).mpr hh), if_neg i10, if_neg hh, show (30 * t + r) / 30 = t from by omega, show (30 * t + r) % 30 = r from by omega]
    exact ⟨h.1, fun g => ⟨qr_phas _ _ _, fun q => absurd q i10, fun _ => h.2 g⟩⟩
/-- all rows of a table, when all is counted -/
theorem qb_22 {A R U : am_M} (w : q_wd A) (e : q_we A R) (uw : q_uw U) {t : Nat} (ht : t < 4) (K11 : am_M → Int32 → Int32 → Int32 → Int32 × am_M) (KP11 : am_M → Int32 → Int32 → Int32 → Prop) : ∀ (d r n : Nat) (s : am_M) (x : Int32), r + d = 30 → d < n → q_cd s A → q_cb s 9 10 11 R → q_uc s U → f_BA_countBroken_22 K11 n s 1 x (nI t) (nI r) = K11 (q_F s (q_all A U R d (30 * t + r))) 1 (x + nI (q_all A U R d (30 * t + r)).length) (nI (t + 1)) ∧ (KP11 (q_F s (q_all A U R d (30 * t + r))) 1 (x + nI (q_all A U R d (30 * t + r)).length) (nI (t + 1)) → p_BA_countBroken_22 KP11 n s 1 x (nI t) (nI r)) := by
  intro d
  induction d with
  | zero =>
    intro r n s x h1 h2 cd cb uc
    obtain ⟨n, rfl⟩ : ∃ k, n = k + 1 := ⟨n - 1, by omega⟩
    have c : (30 : Int32) ≤ nI r := qg_30 (by omega) (by omega)
    unfold p_BA_countBroken_22 f_BA_countBroken_22 p_BA_countBroken_97 f_BA_countBroken_97
    rw [if_pos c, ← nI_1]
    show K11 s 1 x (nI t + 1) = K11 s 1 (x + nI ([] : List q_It).length) (nI t + 1) ∧ (KP11 s 1 (x + nI ([] : List q_It).length) (nI t + 1) → _)
    rw [q_one]
    exact ⟨rfl, fun h => ⟨fun _ => h, fun q => absurd c q⟩⟩
  | succ d ih =>
    intro r n s x h1 h2 cd cb uc
    obtain ⟨n, rfl⟩ : ∃ k, n = k + 1 := ⟨n - 1, by omega⟩
    have hr : r < 30 := by omega
    have c : ¬ (30 : Int32) ≤ nI r := ql_30 hr
    have h := qb_37 w e uw ht hr K11 KP11 (f_BA_countBroken_22 K11 n) (p_BA_countBroken_22 KP11 n) 1 x cd cb uc
    have g := ih (r + 1) n (q_F s (q_row1 A U R (30 * t + r))) (x + nI (q_row1 A U R (30 * t + r)).length) (by omega) (by omega) (q_cd_F cd) (q_cb_F cb) (q_uc_F uc)
    rw [q_F_a q_kd_row1, q_addl] at g
    unfold p_BA_countBroken_22 f_BA_countBroken_22
    rw [if_neg c, if_neg i10]
    exact ⟨h.1.trans g.1, fun k => ⟨fun q => absurd q c, fun _ => ⟨fun q => absurd q i10, fun _ => h.2 (g.2 k)⟩⟩⟩
theorem qb_11 {A R U : am_M} (w : q_wd A) (e : q_we A R) (uw : q_uw U) : ∀ (d t n : Nat) (s : am_M) (x : Int32), t + d = q_nt A → d < n → q_cd s A → q_cb s 9 10 11 R → q_uc s U → p_BA_countBroken_11 n s 1 x (nI t) ∧ f_BA_countBroken_11 n s 1 x (nI t) = (x + nI (q_all A U R (30 * d) (30 * t)).length, q_F s (q_all A U R (30 * d) (30 * t))) := by
  have h4 := w.1.2
  intro d
  induction d with
  | zero =>
    intro t n s x h1 h2 cd cb uc
    obtain ⟨n, rfl⟩ : ∃ k, n = k + 1 := ⟨n - 1, by omega⟩
    have c : s 1 3 ≤ nI t := by rw [cd.1, w.1.1]; exact qn_le (by omega) (by omega)
    unfold p_BA_countBroken_11 f_BA_countBroken_11
    rw [if_pos c]
    refine ⟨⟨fun _ => trivial, fun q => absurd c q⟩, ?_⟩
    show (x, s) = (x + nI ([] : List q_It).length, s)
    rw [q_one]
  | succ d ih =>
    intro t n s x h1 h2 cd cb uc
    obtain ⟨n, rfl⟩ : ∃ k, n = k + 1 := ⟨n - 1, by omega⟩
    have c : ¬ s 1 3 ≤ nI t := by rw [cd.1, w.1.1]; exact nI_ge (by omega) (by omega)
    have h := qb_22 w e uw (show t < 4 by omega) (f_BA_countBroken_11 n) (p_BA_countBroken_11 n) 30 0 am_F s x (by omega) (by rw [am_F_eq]; omega) cd cb uc
    rw [nI_0, Nat.add_zero] at h
    have g := ih (t + 1) n (q_F s (q_all A U R 30 (30 * t))) (x + nI (q_all A U R 30 (30 * t)).length) (by omega) (by omega) (q_cd_F cd) (q_cb_F cb) (q_uc_F uc)
    rw [q_F_a (q_kd_all _ _), q_addl] at g
    have el : q_all A U R (30 * (d + 1)) (30 * t) = q_all A U R 30 (30 * t) ++ q_all A U R (30 * d) (30 * (t + 1)) := by
      rw [show 30 * (d + 1) = 30 + 30 * d from by omega, q_all_a, show 30 * t + 30 = 30 * (t + 1) from by omega]
    rw [← el] at g
    unfold p_BA_countBroken_11 f_BA_countBroken_11
    rw [if_neg c]
    exact ⟨⟨fun q => absurd q c, fun _ => h.2 g.1⟩, h.1.trans g.2⟩
/-- all that is broken is counted -/
theorem qb_count1 {s A R U : am_M} (cd : q_cd s A) (w : q_wd A) (e : q_we A R) (cb : q_cb s 9 10 11 R) (uc : q_uc s U) (uw : q_uw U) : p_BA_countBroken s 1 ∧ f_BA_countBroken s 1 = (nI (q_brk A U R).length, q_F (f_RE_clear s 16) (q_brk A U R)) := by
  have h4 := w.1.2
  have h := qb_11 w e uw (q_nt A) 0 am_F (f_RE_clear s 16) 0 (by omega) (by rw [am_F_eq]; omega) (q_cd_out q_clear_o (fun a b q => by omega) cd) (q_cb_out q_clear_o (fun a b q => by omega) cb) (q_uc_out q_clear_o (fun a b q => by omega) uc)
  rw [nI_0, Nat.mul_zero, Int32.zero_add] at h
  unfold p_BA_countBroken f_BA_countBroken
  exact ⟨⟨q_pclear16 s, h.1⟩, h.2⟩
-- up to the first row that has any
theorem qb_22n {t : Nat} (K11 : am_M → Int32 → Int32 → Int32 → Int32 × am_M) (KP11 : am_M → Int32 → Int32 → Int32 → Prop) {x : Int32} (hx : x ≠ 0) {r n : Nat} (hn : 0 < n) {s : am_M} : f_BA_countBroken_22 K11 n s 0 x (nI t) (nI r) = K11 s 0 x (nI (t + 1)) ∧ (KP11 s 0 x (nI (t + 1)) → p_BA_countBroken_22 KP11 n s 0 x (nI t) (nI r)) := by
  obtain ⟨n, rfl⟩ : ∃ k, n = k + 1 := ⟨n - 1, by omega⟩
  unfold p_BA_countBroken_22 f_BA_countBroken_22 p_BA_countBroken_97 f_BA_countBroken_97
  rw [nI_1, if_pos rfl, if_neg hx]
  refine ⟨?_, fun h => ⟨fun _ => h, fun _ => ⟨fun _ => ⟨fun q => absurd q hx, fun _ => h⟩, fun q => absurd rfl q⟩⟩⟩
  by_cases c : (30 : Int32) ≤ nI r
  · rw [if_pos c]
  · rw [if_neg c]
theorem qb_11n {A : am_M} (w : q_wd A) {x : Int32} (hx : x ≠ 0) : ∀ (d t n : Nat) (s : am_M), t + d = q_nt A → d < n → q_cd s A → p_BA_countBroken_11 n s 0 x (nI t) ∧ f_BA_countBroken_11 n s 0 x (nI t) = (x, s) := by
  have h4 := w.1.2
  intro d
  induction d with
  | zero =>
    intro t n s h1 h2 cd
    obtain ⟨n, rfl⟩ : ∃ k, n = k + 1 := ⟨n - 1, by omega⟩
    have c : s 1 3 ≤ nI t := by rw [cd.1, w.1.1]; exact qn_le (by omega) (by omega)
    unfold p_BA_countBroken_11 f_BA_countBroken_11
    rw [if_pos c]
    exact ⟨⟨fun _ => trivial, fun q => absurd c q⟩, rfl⟩
  | succ d ih =>
    intro t n s h1 h2 cd
    obtain ⟨n, rfl⟩ : ∃ k, n = k + 1 := ⟨n - 1, by omega⟩
    have c : ¬ s 1 3 ≤ nI t := by rw [cd.1, w.1.1]; exact nI_ge (by omega) (by omega)
    have h := qb_22n (t := t) (r := 0) (n := am_F) (s := s) (f_BA_countBroken_11 n) (p_BA_countBroken_11 n) hx (by rw [am_F_eq]; omega)
    have g := ih (t + 1) n s (by omega) (by omega) cd
    rw [nI_0] at h
    unfold p_BA_countBroken_11 f_BA_countBroken_11
    rw [if_neg c]
    exact ⟨⟨fun q => absurd q c, fun _ => h.2 g.1⟩, h.1.trans g.2⟩
theorem q_row1_len {A U R : am_M} (w : q_wd A) (uw : q_uw U) {p : Nat} (hp : p < 120) : (q_row1 A U R p).length ≤ 32 := by
  unfold q_row1
  by_cases c : R 1 p = 0
  · rw [if_pos c]; exact Nat.zero_le _
  · rw [if_neg c]
    unfold q_row
    rw [List.length_append]
    have h1 := @q_bi_len A R (p / 30) (p % 30) (4 * q_w A (p / 30)) 0
    have h2 := @q_br_len U R (p / 30) (p % 30) (q_c (U 207 17)) 0
    have := (w.2.1 (p / 30) (by omega)).2.1
    have := uw.1.2
    omega
theorem q_F_hd {s : am_M} {l m : List q_It} (h : l ≠ []) : q_F s (l ++ m) = q_F s l := by
  cases l with
  | nil => exact absurd rfl h
  | cons x l => rfl
theorem qb_22z {A R U : am_M} (w : q_wd A) (e : q_we A R) (uw : q_uw U) {t : Nat} (ht : t < 4) (K11 : am_M → Int32 → Int32 → Int32 → Int32 × am_M) (KP11 : am_M → Int32 → Int32 → Int32 → Prop) : ∀ (d r n : Nat) (s : am_M), r + d = 30 → d < n → q_cd s A → q_cb s 9 10 11 R → q_uc s U → ∃ x : Int32, (x = 0 ↔ q_all A U R d (30 * t + r) = []) ∧ f_BA_countBroken_22 K11 n s 0 0 (nI t) (nI r) = K11 (q_F s (q_all A U R d (30 * t + r))) 0 x (nI (t + 1)) ∧ (KP11 (q_F s (q_all A U R d (30 * t + r))) 0 x (nI (t + 1)) → p_BA_countBroken_22 KP11 n s 0 0 (nI t) (nI r)) := by
  intro d
  induction d with
  | zero =>
    intro r n s h1 h2 cd cb uc
    obtain ⟨n, rfl⟩ : ∃ k, n = k + 1 := ⟨n - 1, by omega⟩
    have c : (30 : Int32) ≤ nI r := qg_30 (by omega) (by omega)
    refine ⟨0, ⟨fun _ => rfl, fun _ => rfl⟩, ?_, fun h => ?_⟩
    · unfold f_BA_countBroken_22 f_BA_countBroken_97; rw [if_pos c, nI_1]; rfl
    · unfold p_BA_countBroken_22 p_BA_countBroken_97; rw [nI_1]; exact ⟨fun _ => h, fun q => absurd c q⟩
  | succ d ih =>
    intro r n s h1 h2 cd cb uc
    obtain ⟨n, rfl⟩ : ∃ k, n = k + 1 := ⟨n - 1, by omega⟩
    have hr : r < 30 := by omega
    have c : ¬ (30 : Int32) ≤ nI r := ql_30 hr
    have h := qb_37 w e uw ht hr K11 KP11 (f_BA_countBroken_22 K11 n) (p_BA_countBroken_22 KP11 n) 0 0 cd cb uc
    have el : q_all A U R (d + 1) (30 * t + r) = q_row1 A U R (30 * t + r) ++ q_all A U R d (30 * t + (r + 1)) := rfl
    have hlen := @q_row1_len A U R w uw (30 * t + r) (by omega)
    rw [Int32.zero_add] at h
    have fin : ∀ x : Int32, (x = 0 ↔ q_all A U R (d + 1) (30 * t + r) = []) → f_BA_countBroken_22 K11 n (q_F s (q_row1 A U R (30 * t + r))) 0 (nI (q_row1 A U R (30 * t + r)).length) (nI t) (nI (r + 1)) = K11 (q_F s (q_all A U R (d + 1) (30 * t + r))) 0 x (nI (t + 1)) → (KP11 (q_F s (q_all A U R (d + 1) (30 * t + r))) 0 x (nI (t + 1)) → p_BA_countBroken_22 KP11 n (q_F s (q_row1 A U R (30 * t + r))) 0 (nI (q_row1 A U R (30 * t + r)).length) (nI t) (nI (r + 1))) → ∃ x : Int32, (x = 0 ↔ q_all A U R (d + 1) (30 * t + r) = []) ∧ f_BA_countBroken_22 K11 (n + 1) s 0 0 (nI t) (nI r) = K11 (q_F s (q_all A U R (d + 1) (30 * t + r))) 0 x (nI (t + 1)) ∧ (KP11 (q_F s (q_all A U R (d + 1) (30 * t + r))) 0 x (nI (t + 1)) → p_BA_countBroken_22 KP11 (n + 1) s 0 0 (nI t) (nI r)) := fun x hx hf hp => by
      refine ⟨x, hx, ?_, fun k => ?_⟩
      · unfold f_BA_countBroken_22
        rw [if_neg c, if_pos rfl, if_pos rfl]; exact h.1.trans hf
      · unfold p_BA_countBroken_22
        exact ⟨fun q => absurd q c, fun _ => ⟨fun _ => ⟨fun _ => h.2 (hp k), fun q => absurd rfl q⟩, fun q => absurd rfl q⟩⟩
    by_cases z : q_row1 A U R (30 * t + r) = []
    · obtain ⟨x, g1, g2, g3⟩ := ih (r + 1) n s (by omega) (by omega) cd cb uc
      have e0 : q_all A U R (d + 1) (30 * t + r) = q_all A U R d (30 * t + (r + 1)) := by rw [el, z]; rfl
      refine fin x (by rw [e0]; exact g1) ?_ ?_
      · rw [z, e0]; exact g2
      · rw [z, e0]; exact g3
    · have hne : nI (q_row1 A U R (30 * t + r)).length ≠ 0 := by
        have : 0 < (q_row1 A U R (30 * t + r)).length := List.length_pos_iff.mpr z
        exact nI_ne0 this (by omega)
      have k := qb_22n (t := t) (r := r + 1) (n := n) (s := q_F s (q_row1 A U R (30 * t + r))) K11 KP11 hne (by omega)
      refine fin (nI (q_row1 A U R (30 * t + r)).length) ⟨fun q => absurd q hne, fun q => ?_⟩ ?_ ?_
      · rw [el] at q; exact absurd (List.append_eq_nil_iff.mp q).1 z
      · rw [el, q_F_hd z]; exact k.1
      · rw [el, q_F_hd z]; exact k.2
theorem qb_11z {A R U : am_M} (w : q_wd A) (e : q_we A R) (uw : q_uw U) : ∀ (d t n : Nat) (s : am_M), t + d = q_nt A → d < n → q_cd s A → q_cb s 9 10 11 R → q_uc s U → p_BA_countBroken_11 n s 0 0 (nI t) ∧ ∃ x : Int32, (x = 0 ↔ q_all A U R (30 * d) (30 * t) = []) ∧ f_BA_countBroken_11 n s 0 0 (nI t) = (x, q_F s (q_all A U R (30 * d) (30 * t))) := by
  have h4 := w.1.2
  intro d
  induction d with
  | zero =>
    intro t n s h1 h2 cd cb uc
    obtain ⟨n, rfl⟩ : ∃ k, n = k + 1 := ⟨n - 1, by omega⟩
    have c : s 1 3 ≤ nI t := by rw [cd.1, w.1.1]; exact qn_le (by omega) (by omega)
    unfold p_BA_countBroken_11 f_BA_countBroken_11
    rw [if_pos c]
    exact ⟨⟨fun _ => trivial, fun q => absurd c q⟩, 0, ⟨fun _ => rfl, fun _ => rfl⟩, rfl⟩
  | succ d ih =>
    intro t n s h1 h2 cd cb uc
    obtain ⟨n, rfl⟩ : ∃ k, n = k + 1 := ⟨n - 1, by omega⟩
    have c : ¬ s 1 3 ≤ nI t := by rw [cd.1, w.1.1]; exact nI_ge (by omega) (by omega)
    obtain ⟨x, h0, h⟩ := qb_22z w e uw (show t < 4 by omega) (f_BA_countBroken_11 n) (p_BA_countBroken_11 n) 30 0 am_F s (by omega) (by rw [am_F_eq]; omega) cd cb uc
    rw [nI_0, Nat.add_zero] at h
    rw [Nat.add_zero] at h0
    have el : q_all A U R (30 * (d + 1)) (30 * t) = q_all A U R 30 (30 * t) ++ q_all A U R (30 * d) (30 * (t + 1)) := by
      rw [show 30 * (d + 1) = 30 + 30 * d from by omega, q_all_a, show 30 * t + 30 = 30 * (t + 1) from by omega]
    unfold p_BA_countBroken_11 f_BA_countBroken_11
    rw [if_neg c, el]
    by_cases z : q_all A U R 30 (30 * t) = []
    · have hx := h0.mpr z
      rw [hx, z] at h
      obtain ⟨g1, x2, g2, g3⟩ := ih (t + 1) n s (by omega) (by omega) cd cb uc
      rw [z]
      exact ⟨⟨fun q => absurd q c, fun _ => h.2 g1⟩, x2, g2, h.1.trans g3⟩
    · have hx : x ≠ 0 := fun q => z (h0.mp q)
      have g := qb_11n w hx d (t + 1) n (q_F s (q_all A U R 30 (30 * t))) (by omega) (by omega) (q_cd_F cd)
      refine ⟨⟨fun q => absurd q c, fun _ => h.2 g.1⟩, x, ⟨fun q => absurd q hx, fun q => absurd (List.append_eq_nil_iff.mp q).1 z⟩, ?_⟩
      rw [q_F_hd z]; exact h.1.trans g.2
/-- whether anything is broken, and the first thing -/
theorem qb_count0 {s A R U : am_M} (cd : q_cd s A) (w : q_wd A) (e : q_we A R) (cb : q_cb s 9 10 11 R) (uc : q_uc s U) (uw : q_uw U) : p_BA_countBroken s 0 ∧ ∃ x : Int32, (x = 0 ↔ q_brk A U R = []) ∧ f_BA_countBroken s 0 = (x, q_F (f_RE_clear s 16) (q_brk A U R)) := by
  have h4 := w.1.2
  have h := qb_11z w e uw (q_nt A) 0 am_F (f_RE_clear s 16) (by omega) (by rw [am_F_eq]; omega) (q_cd_out q_clear_o (fun a b q => by omega) cd) (q_cb_out q_clear_o (fun a b q => by omega) cb) (q_uc_out q_clear_o (fun a b q => by omega) uc)
  rw [nI_0, Nat.mul_zero] at h
  unfold p_BA_countBroken f_BA_countBroken
  exact ⟨⟨q_pclear16 s, h.1⟩, h.2⟩
end

noncomputable section
-- the model reckons
theorem q_blank_hs {R : am_M} {t : Nat} : ¬ q_hs R t (-1000000) := fun q => by
  have h1 := q.1
  unfold q_in at h1
  rw [if_pos (by decide)] at h1
  exact absurd h1 (by decide)
theorem qm_tot {s A R : am_M} (md : q_md s A) (w : q_wd A) (e : q_we A R) (mb : q_mb s R) {k row : Nat} (hk : q_rc A k) (c3 : A 214 k = 3 ∨ A 214 k = 4) (_hr : row < 30) : ∀ (d j n : Nat) (x : Int64), j + d = q_c (R 0 (q_tb A k)) → d < n → -(1000000 * (j : Int)) ≤ x.toInt → x.toInt ≤ 1000000 * (j : Int) → p_MO_total_12 n s (nI k) (nI row) x (nI (q_u1 A k)) (nI j) ∧ f_MO_total_12 n s (nI k) (nI row) x (nI (q_u1 A k)) (nI j) = q_limI (x.toInt + q_sumf (q_sm A R k row) d j) := by
  obtain ⟨hk24, hk2, hu1, hu2⟩ := hk
  obtain ⟨n1, n2, n3, n4, n5, n6⟩ := q_f_n w hk24 hk2
  have b := q_u_b w hk24 hk2
  have n2' := n2 c3
  have e0 : q_tb A k = q_c (A 217 k) := by unfold q_tb; rw [if_pos c3]
  have ho4 : q_tb A k < 4 := by omega
  have f17 : s 217 k = nI (q_tb A k) := by rw [md.2 217 (by omega) (by omega), e0]; exact n2'.1
  have f15 : s 215 k = nI (q_c (A 215 k)) := by rw [md.2 215 (by omega) (by omega)]; exact n1.1
  have f12 : s 212 (q_u1 A k) = nI (k / 6) := by
    rw [md.2 212 (by omega) (by omega), (w.2.2.2.1 _ b.1 (n4 (by rcases c3 with q | q; exact Or.inr (Or.inl q); exact Or.inr (Or.inr q)))).1, n5 c3]
  have f14 : s 214 k = A 214 k := by rw [md.2 214 (by omega) (by omega)]
  have f28 : s 228 (q_tb A k) = nI (q_c (R 0 (q_tb A k))) := by rw [mb.1 _ ho4]; exact (e.1 _ ho4).1
  have hm := (e.1 _ ho4).2.1
  have vk : vp_in (nI k) 24 := vp_in_nI hk24 (by omega)
  have vu : vp_in (nI (q_u1 A k)) 24 := vp_in_nI b.1 (by omega)
  have vo : vp_in (nI (q_tb A k)) 4 := vp_in_nI ho4 (by omega)
  intro d
  induction d with
  | zero =>
    intro j n x h1 h2 x1 x2
    obtain ⟨n, rfl⟩ : ∃ k, n = k + 1 := ⟨n - 1, by omega⟩
    unfold p_MO_total_12 f_MO_total_12
    rw [nI_clamp (n := k) (by omega), f17, nI_clamp (n := q_tb A k) (by omega), f28]
    have c : nI (q_c (R 0 (q_tb A k))) ≤ nI j := qn_le (by omega) (by omega)
    rw [if_pos c, q_lim_M]
    refine ⟨⟨vk, vo, fun _ => trivial, fun q => absurd c q⟩, ?_⟩
    show _ = q_limI (x.toInt + 0)
    rw [Int.add_zero]
  | succ d ih =>
    intro j n x h1 h2 x1 x2
    obtain ⟨n, rfl⟩ : ∃ k, n = k + 1 := ⟨n - 1, by omega⟩
    have hj : j < 30 := by omega
    have c : ¬ nI (q_c (R 0 (q_tb A k))) ≤ nI j := nI_ge (by omega) (by omega)
    have hq : q_sumf (q_sm A R k row) (d + 1) j = q_sm A R k row j + q_sumf (q_sm A R k row) d (j + 1) := rfl
    have skip := ih (j + 1) n x (by omega) (by omega) (by omega) (by omega)
    have vj : vp_in (nI (30 * q_tb A k + j)) 120 := vp_in_nI (by omega) (by omega)
    have v72 : vp_in (nI (180 * q_tb A k + 6 * j + q_c (A 215 k))) 720 := vp_in_nI (by omega) (by omega)
    unfold p_MO_total_12 f_MO_total_12 p_MO_total_143 f_MO_total_143
    rw [nI_clamp (n := k) (by omega), f17, f15, f14, nI_clamp (n := q_tb A k) (by omega), f28, if_neg c, qw_30, nI_add, nI_clamp (n := 30 * q_tb A k + j) (by omega), mb.2.1 _ (by omega), qr_at, nI_clamp (n := 180 * q_tb A k + 6 * j + q_c (A 215 k)) (by omega), nI_clamp (n := q_u1 A k) (by omega), f12, qd_6 (by omega), nI_1]
    by_cases hh : R 1 (30 * q_tb A k + j) = 0
    · have hz : q_sm A R k row j = 0 := by unfold q_sm; rw [if_neg (fun q => q.1 hh)]
      rw [if_pos hh, if_pos rfl, hq, hz, Int.zero_add]
      exact ⟨⟨vk, vo, fun q => absurd q c, fun _ => ⟨vk, vj, fun _ => skip.1, fun q => absurd rfl q⟩⟩, skip.2⟩
    rw [if_neg hh, if_neg i10, mb.2.2 (180 * q_tb A k + 6 * j + q_c (A 215 k)) (by omega) (by rw [show (180 * q_tb A k + 6 * j + q_c (A 215 k)) / 6 = 30 * q_tb A k + j from by omega]; exact hh)]
    by_cases hl : R 2 (180 * q_tb A k + 6 * j + q_c (A 215 k)) = nI row
    rotate_left
    · have hz : q_sm A R k row j = 0 := by unfold q_sm; rw [if_neg (fun q => hl q.2)]
      rw [if_neg hl, hq, hz, Int.zero_add]
      exact ⟨⟨vk, vo, fun q => absurd q c, fun _ => ⟨vk, vj, fun q => absurd q i10, fun _ => ⟨vk, vk, v72, fun q => absurd q hl, fun _ => skip.1⟩⟩⟩, skip.2⟩
    rw [if_pos hl, if_pos rfl]
    -- the cell counts
    have step : ∀ v : Int32, -1000000 ≤ v.toInt → v.toInt ≤ 1000000 → q_sm A R k row j = (q_oz v).toInt → p_MO_total_124 (p_MO_total_12 n s) s (nI k) (nI row) x (nI (q_u1 A k)) (nI j) v ∧ f_MO_total_124 (f_MO_total_12 n s) s (nI k) (nI row) x (nI (q_u1 A k)) (nI j) v = q_limI (x.toInt + q_sumf (q_sm A R k row) (d + 1) j) := fun v v1 v2 v3 => by
      have add : ∀ y : Int32, -1000000 ≤ y.toInt → y.toInt ≤ 1000000 → (x + y.toInt64).toInt = x.toInt + y.toInt := fun y y1 y2 => by
        rw [Int64.toInt_add, Int32.toInt_toInt64]
        exact Int.bmod_eq_of_le (by omega) (by omega)
      unfold p_MO_total_124 f_MO_total_124 p_MO_total_141 f_MO_total_141 p_MO_total_143 f_MO_total_143
      rw [nI_1]
      unfold q_oz at v3
      by_cases cz : v = -1000000
      · rw [if_pos cz] at v3
        have a0 := add 0 (by decide) (by decide)
        have z0 : (0 : Int32).toInt = 0 := by decide
        have h := ih (j + 1) n (x + (0 : Int32).toInt64) (by omega) (by omega) (by rw [a0, z0]; omega) (by rw [a0, z0]; omega)
        rw [a0] at h
        rw [if_pos cz, hq, v3, ← Int.add_assoc]
        exact ⟨⟨fun _ => h.1, fun q => absurd cz q⟩, h.2⟩
      · rw [if_neg cz] at v3
        have a0 := add v v1 v2
        have h := ih (j + 1) n (x + v.toInt64) (by omega) (by omega) (by rw [a0]; omega) (by rw [a0]; omega)
        rw [a0] at h
        rw [if_neg cz, hq, v3, ← Int.add_assoc]
        exact ⟨⟨fun q => absurd q cz, fun _ => h.1⟩, h.2⟩
    by_cases c4 : A 214 k = 4
    · have h := step 1 (by decide) (by decide) (by unfold q_sm; rw [if_pos ⟨hh, hl⟩, if_pos c4]; decide)
      rw [if_pos c4]
      exact ⟨⟨vk, vo, fun q => absurd q c, fun _ => ⟨vk, vj, fun q => absurd q i10, fun _ => ⟨vk, vk, v72, fun _ => ⟨vu, fun _ => ⟨vk, fun _ => h.1, fun q => absurd c4 q⟩, fun q => absurd rfl q⟩, fun q => absurd hl q⟩⟩⟩, h.2⟩
    · have n3' := n3 c4
      have f16 : s 216 k = nI (q_c (A 216 k)) := by rw [md.2 216 (by omega) (by omega)]; exact n3'.1
      have hv := e.2.2 (180 * q_tb A k + 6 * j + q_c (A 216 k)) (by omega) (by rw [show (180 * q_tb A k + 6 * j + q_c (A 216 k)) / 6 = 30 * q_tb A k + j from by omega]; exact hh)
      have h := step (R 2 (180 * q_tb A k + 6 * j + q_c (A 216 k))) hv.1 (by have := hv.2; omega) (by unfold q_sm; rw [if_pos ⟨hh, hl⟩, if_neg c4])
      rw [if_neg c4, f16, qr_at, nI_clamp (n := 180 * q_tb A k + 6 * j + q_c (A 216 k)) (by omega), mb.2.2 (180 * q_tb A k + 6 * j + q_c (A 216 k)) (by omega) (by rw [show (180 * q_tb A k + 6 * j + q_c (A 216 k)) / 6 = 30 * q_tb A k + j from by omega]; exact hh)]
      exact ⟨⟨vk, vo, fun q => absurd q c, fun _ => ⟨vk, vj, fun q => absurd q i10, fun _ => ⟨vk, vk, v72, fun _ => ⟨vu, fun _ => ⟨vk, fun q => absurd q c4, fun _ => ⟨vk, vk, vp_in_nI (by omega) (by omega), h.1⟩⟩, fun q => absurd rfl q⟩, fun q => absurd hl q⟩⟩⟩, h.2⟩
theorem qm_total {s A R : am_M} (md : q_md s A) (w : q_wd A) (e : q_we A R) (mb : q_mb s R) {k row : Nat} (hk : q_rc A k) (c3 : A 214 k = 3 ∨ A 214 k = 4) (hr : row < 30) : p_MO_total s (nI k) (nI row) ∧ f_MO_total s (nI k) (nI row) = q_limI (q_sum A R k row) := by
  have ho4 : q_tb A k < 4 := by
    have := (q_f_n w hk.1 hk.2.1).2.1 c3
    unfold q_tb; rw [if_pos c3]; exact this.2
  have hm := (e.1 _ ho4).2.1
  have z0 : (0 : Int32).toInt64.toInt = 0 := by decide
  have h := qm_tot md w e mb hk c3 hr (q_c (R 0 (q_tb A k))) 0 am_F (0 : Int32).toInt64 (by omega) (by rw [am_F_eq]; omega) (by rw [z0]; omega) (by rw [z0]; omega)
  rw [nI_0, z0, Int.zero_add] at h
  unfold p_MO_total f_MO_total
  rw [qo_u1 md w hk.1 hk.2.1]
  refine ⟨⟨qo_p1 s hk.1, h.1⟩, ?_⟩
  rw [h.2]
  unfold q_sum
  have hs := q_sumf_s (f := q_sm A R k row) (q_c (R 0 (q_tb A k))) (30 - q_c (R 0 (q_tb A k))) 0
  rw [show q_c (R 0 (q_tb A k)) + (30 - q_c (R 0 (q_tb A k))) = 30 from by omega] at hs
  rw [hs, q_sumf_0 (30 - q_c (R 0 (q_tb A k))) (0 + q_c (R 0 (q_tb A k))) (fun i i1 i2 => by
    unfold q_sm
    rw [if_neg]
    rintro ⟨q, -⟩
    have := (q_we_r e ho4 (by omega) q).1
    omega), Int.add_zero]
theorem qm_look {s A R : am_M} (md : q_md s A) (w : q_wd A) (e : q_we A R) (mb : q_mb s R) {k row : Nat} (hk : q_rc A k) (c2 : A 214 k = 2) (hr : row < 30) : p_MO_look s (nI k) (nI row) ∧ (R 1 (30 * (k / 6) + row) ≠ 0 → f_MO_look s (nI k) (nI row) = q_val A R k row) := by
  obtain ⟨hk24, hk2, hu1, hu2⟩ := hk
  obtain ⟨n1, n2, n3, n4, n5, n6⟩ := q_f_n w hk24 hk2
  have b := q_u_b w hk24 hk2
  have h4 := w.1.2
  have n3' := n3 (by rw [c2]; decide)
  have hx := w.2.2.2.1 _ b.1 (n4 (Or.inl c2))
  have f15 : s 215 k = nI (q_c (A 215 k)) := by rw [md.2 215 (by omega) (by omega)]; exact n1.1
  have f16 : s 216 k = nI (q_c (A 216 k)) := by rw [md.2 216 (by omega) (by omega)]; exact n3'.1
  have f12 : s 212 (q_u1 A k) = nI (q_tg A (q_u1 A k)) := by rw [md.2 212 (by omega) (by omega)]; exact hx.1
  have vk : vp_in (nI k) 24 := vp_in_nI hk24 (by omega)
  have vu : vp_in (nI (q_u1 A k)) 24 := vp_in_nI b.1 (by omega)
  unfold p_MO_look f_MO_look
  rw [qo_u1 md w hk24 hk2, nI_clamp (n := k) (by omega), nI_clamp (n := q_u1 A k) (by omega), f15, f16, f12, qd_6 (by omega), qr_at, nI_clamp (n := 180 * (k / 6) + 6 * row + q_c (A 215 k)) (by omega)]
  generalize hg : s 230 (180 * (k / 6) + 6 * row + q_c (A 215 k)) = a
  have hi := qr_isRow md w e mb (nI (q_tg A (q_u1 A k))) a
  have ht : q_isT A (nI (q_tg A (q_u1 A k))) = 1 := q_in_1 hx.2 (by omega)
  have hi2 : q_isR A R (nI (q_tg A (q_u1 A k))) a = if q_hs R (q_tg A (q_u1 A k)) a then 1 else 0 := by
    unfold q_isR; rw [ht, if_neg i10, show q_c (nI (q_tg A (q_u1 A k))) = q_tg A (q_u1 A k) from nI_clamp (by omega)]
  rw [hi2] at hi
  rw [hi.2]
  refine ⟨⟨qo_p1 s hk24, vk, vp_in_nI (by omega) (by omega), fun _ => trivial, fun _ => ⟨vu, hi.1, fun _ => trivial, fun q => ⟨vu, vk, ?_, trivial⟩⟩⟩, fun hh => ?_⟩
  · by_cases c : q_hs R (q_tg A (q_u1 A k)) a
    · obtain ⟨r2, hr2, rfl, h2⟩ := q_hs_x c
      rw [qr_at]; exact vp_in_nI (by omega) (by omega)
    · rw [if_neg c] at q; exact absurd rfl q
  · have ha : q_a A R k row = a := by
      rw [← hg]; exact (mb.2.2 _ (by omega) (by rw [show (180 * (k / 6) + 6 * row + q_c (A 215 k)) / 6 = 30 * (k / 6) + row from by omega]; exact hh)).symm
    unfold q_val
    rw [if_pos c2, ha]
    by_cases ca : a = -1000000
    · rw [if_pos ca, if_neg (by rw [ca]; exact q_blank_hs)]
    rw [if_neg ca]
    by_cases c : q_hs R (q_tg A (q_u1 A k)) a
    · rw [if_pos c, if_neg i10, if_pos c]
      obtain ⟨r2, hr2, e2, h2⟩ := q_hs_x c
      rw [e2, qr_at, show q_c (nI r2) = r2 from nI_clamp (by omega), nI_clamp (by omega)]
      exact mb.2.2 _ (by omega) (by rw [show (180 * q_tg A (q_u1 A k) + 6 * r2 + q_c (A 216 k)) / 6 = 30 * q_tg A (q_u1 A k) + r2 from by omega]; exact h2)
    · rw [if_neg c, if_pos rfl, if_neg c]
theorem q_mul64 (x y : Int32) : (x.toInt64 * y.toInt64).toInt = x.toInt * y.toInt := by
  rw [Int64.toInt_mul, Int32.toInt_toInt64, Int32.toInt_toInt64]
  have hx1 := Int32.le_toInt x
  have hx2 := Int32.toInt_lt x
  have hy1 := Int32.le_toInt y
  have hy2 := Int32.toInt_lt y
  have hb : -(2 ^ 62 : Int) ≤ x.toInt * y.toInt ∧ x.toInt * y.toInt ≤ 2 ^ 62 := by
    have hm : (x.toInt * y.toInt).natAbs = x.toInt.natAbs * y.toInt.natAbs := Int.natAbs_mul _ _
    have h1 : x.toInt.natAbs ≤ 2 ^ 31 := by omega
    have h2 : y.toInt.natAbs ≤ 2 ^ 31 := by omega
    have h3 : x.toInt.natAbs * y.toInt.natAbs ≤ 2 ^ 31 * 2 ^ 31 := Nat.mul_le_mul h1 h2
    rw [← hm] at h3
    have h4 : (2 : Nat) ^ 31 * 2 ^ 31 = 2 ^ 62 := by decide
    rw [h4] at h3
    omega
  exact Int.bmod_eq_of_le (by omega) (by omega)
theorem qm_reckoned {s A R : am_M} (md : q_md s A) (w : q_wd A) (e : q_we A R) (mb : q_mb s R) {k row : Nat} (hk : q_rc A k) (hr : row < 30) : p_MO_reckoned s (nI k) (nI row) ∧ (R 1 (30 * (k / 6) + row) ≠ 0 → f_MO_reckoned s (nI k) (nI row) = q_val A R k row) := by
  have hk' := hk
  obtain ⟨hk24, hk2, hu1, hu2⟩ := hk
  obtain ⟨n1, n2, n3, n4, n5, n6⟩ := q_f_n w hk24 hk2
  have vk : vp_in (nI k) 24 := vp_in_nI hk24 (by omega)
  have f14 : s 214 k = A 214 k := by rw [md.2 214 (by omega) (by omega)]
  have f15 : s 215 k = nI (q_c (A 215 k)) := by rw [md.2 215 (by omega) (by omega)]; exact n1.1
  unfold p_MO_reckoned f_MO_reckoned
  rw [nI_clamp (n := k) (by omega), f14, f15, qd_6 (by omega), qr_at, nI_clamp (n := 180 * (k / 6) + 6 * row + q_c (A 215 k)) (by omega)]
  by_cases c2 : A 214 k = 2
  · have h := qm_look md w e mb hk' c2 hr
    rw [if_pos c2]
    exact ⟨⟨vk, fun _ => ⟨h.1, trivial⟩, fun q => absurd c2 q⟩, h.2⟩
  rw [if_neg c2]
  by_cases c3 : A 214 k = 3 ∨ A 214 k = 4
  · have h := qm_total md w e mb hk' c3 hr
    have hv : q_val A R k row = q_limI (q_sum A R k row) := by unfold q_val; rw [if_neg c2, if_pos c3]
    rw [hv]
    refine ⟨⟨vk, fun q => absurd q c2, fun _ => ⟨vk, fun _ => ⟨h.1, trivial⟩, fun q3 => ⟨vk, fun _ => ⟨h.1, trivial⟩, fun q4 => ?_⟩⟩⟩, fun _ => ?_⟩
    · rcases c3 with q | q
      · exact absurd q q3
      · exact absurd q q4
    · by_cases q3 : A 214 k = 3
      · rw [if_pos q3]; exact h.2
      · rw [if_neg q3, if_pos (c3.resolve_left q3)]; exact h.2
  have c33 : ¬ A 214 k = 3 := fun q => c3 (Or.inl q)
  have c34 : ¬ A 214 k = 4 := fun q => c3 (Or.inr q)
  have n3' := n3 c34
  have f16 : s 216 k = nI (q_c (A 216 k)) := by rw [md.2 216 (by omega) (by omega)]; exact n3'.1
  rw [if_neg c33, if_neg c34, f16, qr_at, nI_clamp (n := 180 * (k / 6) + 6 * row + q_c (A 216 k)) (by omega)]
  refine ⟨⟨vk, fun q => absurd q c2, fun _ => ⟨vk, fun q => absurd q c33, fun _ => ⟨vk, fun q => absurd q c34, fun _ => ⟨vk, vp_in_nI (by omega) (by omega), vk, vp_in_nI (by omega) (by omega), fun _ => trivial, fun _ => ⟨fun _ => trivial, fun _ => ⟨vk, fun _ => trivial, fun _ => trivial⟩⟩⟩⟩⟩⟩, fun hh => ?_⟩
  have ha : s 230 (180 * (k / 6) + 6 * row + q_c (A 215 k)) = q_a A R k row := mb.2.2 _ (by omega) (by rw [show (180 * (k / 6) + 6 * row + q_c (A 215 k)) / 6 = 30 * (k / 6) + row from by omega]; exact hh)
  have hb : s 230 (180 * (k / 6) + 6 * row + q_c (A 216 k)) = q_b A R k row := mb.2.2 _ (by omega) (by rw [show (180 * (k / 6) + 6 * row + q_c (A 216 k)) / 6 = 30 * (k / 6) + row from by omega]; exact hh)
  rw [ha, hb, q_lim_M, q_lim_M, q_mul64, lg_i2l_add]
  unfold q_val
  rw [if_neg c2, if_neg c3]
  by_cases c0 : A 214 k = 0
  · have c1n : ¬ A 214 k = 1 := by rw [c0]; decide
    rw [if_pos c0, if_neg c1n]
  · have c1 : A 214 k = 1 := by
      rcases n6 with q | q | q | q | q
      · exact absurd q c0
      · exact q
      · exact absurd q c2
      · exact absurd q c33
      · exact absurd q c34
    rw [if_neg c0, if_pos c1]
theorem q_mb_step {s A R : am_M} {k j : Nat} {v : Int32} (hk : k < 24) (hj : j < 30) (hv : R 1 (30 * (k / 6) + j) ≠ 0 → v = q_val A R k j) (h : q_mb s (q_rkp A R k j)) : q_mb (am_set s 230 (180 * (k / 6) + 6 * j + k % 6) v) (q_rkp A R k (j + 1)) := by
  obtain ⟨c1, c2, c3⟩ := h
  unfold q_mb at *
  rw [q_rkp_1, q_rkp_00] at *
  refine ⟨fun t ht => ?_, fun p hp => ?_, fun y hy hh => ?_⟩
  · rw [am_set_o (by omega)]; exact c1 t ht
  · rw [am_set_o (by omega)]; exact c2 p hp
  · by_cases e : y = 180 * (k / 6) + 6 * j + k % 6
    · rw [e] at hh
      have hh' : R 1 (30 * (k / 6) + j) ≠ 0 := by rw [show (180 * (k / 6) + 6 * j + k % 6) / 6 = 30 * (k / 6) + j from by omega] at hh; exact hh
      rw [e, am_set_q, hv hh']
      unfold q_rkp
      rw [if_pos ⟨rfl, by omega, by omega, by omega, hh, by omega⟩, show (180 * (k / 6) + 6 * j + k % 6) / 6 % 30 = j from by omega]
    · rw [am_set_p (Or.inr e), c3 y hy hh]
      unfold q_rkp
      by_cases g : 2 = 2 ∧ y < 720 ∧ y / 180 = k / 6 ∧ y % 6 = k % 6 ∧ R 1 (y / 6) ≠ 0 ∧ y / 6 % 30 < j
      · rw [if_pos g, if_pos ⟨g.1, g.2.1, g.2.2.1, g.2.2.2.1, g.2.2.2.2.1, by omega⟩]
      · rw [if_neg g, if_neg (fun q => g ⟨q.1, q.2.1, q.2.2.1, q.2.2.2.1, q.2.2.2.2.1, by omega⟩)]
theorem q_mb_all {s A R : am_M} {k : Nat} (hk : k < 24) (e : q_we A R) (h : q_mb s (q_rkp A R k (q_c (R 0 (k / 6))))) : q_mb s (q_rkp A R k 30) := by
  obtain ⟨c1, c2, c3⟩ := h
  unfold q_mb at *
  rw [q_rkp_1, q_rkp_00] at *
  refine ⟨c1, c2, fun y hy hh => ?_⟩
  rw [c3 y hy hh]
  unfold q_rkp
  by_cases g : 2 = 2 ∧ y < 720 ∧ y / 180 = k / 6 ∧ y % 6 = k % 6 ∧ R 1 (y / 6) ≠ 0 ∧ y / 6 % 30 < 30
  · rw [if_pos g]
    have hx := (q_we_r e (t := k / 6) (r := y / 6 % 30) (by omega) (by omega) (by rw [show 30 * (k / 6) + y / 6 % 30 = y / 6 from by omega]; exact hh)).1
    rw [if_pos ⟨g.1, g.2.1, g.2.2.1, g.2.2.2.1, g.2.2.2.2.1, hx⟩]
  · rw [if_neg g, if_neg (fun q => g ⟨q.1, q.2.1, q.2.2.1, q.2.2.2.1, q.2.2.2.2.1, by omega⟩)]
theorem qm_24 {A R : am_M} (w : q_wd A) (e : q_we A R) {k : Nat} (hk : q_rc A k) (K7 : am_M → Int32 → am_M) (KP7 : am_M → Int32 → Prop) (x1 : Int32) : ∀ (d j n : Nat) (s : am_M), j + d = q_c (R 0 (k / 6)) → d < n → q_md s A → q_mb s (q_rkp A R k j) → ∃ S, q_out s S (fun a _ => a = 230) ∧ q_mb S (q_rkp A R k 30) ∧ f_MO_reckons_24 K7 n s x1 (nI k) (nI j) = K7 S (x1 + 1) ∧ (KP7 S (x1 + 1) → p_MO_reckons_24 KP7 n s x1 (nI k) (nI j)) := by
  have hk24 := hk.1
  have e0 := e.1 (k / 6) (by omega)
  intro d
  induction d with
  | zero =>
    intro j n s h1 h2 md mb
    obtain ⟨n, rfl⟩ : ∃ k, n = k + 1 := ⟨n - 1, by omega⟩
    have f28 : s 228 (k / 6) = nI (q_c (R 0 (k / 6))) := by
      have := mb.1 (k / 6) (by omega)
      rw [q_rkp_00] at this; rw [this]; exact e0.1
    have ej : j = q_c (R 0 (k / 6)) := by omega
    have c : nI (q_c (R 0 (k / 6))) ≤ nI j := qn_le (by omega) (by omega)
    refine ⟨s, fun _ _ _ => rfl, q_mb_all hk24 e (by rw [← ej]; exact mb), ?_, fun h => ?_⟩
    · unfold f_MO_reckons_24 f_MO_reckons_71
      rw [qd_6 (by omega), nI_clamp (n := k / 6) (by omega), f28, if_pos c]
    · unfold p_MO_reckons_24 p_MO_reckons_71
      rw [qd_6 (by omega), nI_clamp (n := k / 6) (by omega), f28]
      exact ⟨vp_in_nI (by omega) (by omega), fun _ => h, fun q => absurd c q⟩
  | succ d ih =>
    intro j n s h1 h2 md mb
    obtain ⟨n, rfl⟩ : ∃ k, n = k + 1 := ⟨n - 1, by omega⟩
    have f28 : s 228 (k / 6) = nI (q_c (R 0 (k / 6))) := by
      have := mb.1 (k / 6) (by omega)
      rw [q_rkp_00] at this; rw [this]; exact e0.1
    have hj : j < 30 := by omega
    have c : ¬ nI (q_c (R 0 (k / 6))) ≤ nI j := nI_ge (by omega) (by omega)
    have hre := qm_reckoned md w (q_we_rk (j := j) w e hk24 hk.2.1) mb hk hj
    rw [q_rkp_1, q_val_c (R' := q_rkp A R k j) (R := R) w hk hj (q_rkp_1 _ _ _ _) (fun y _ hy => q_rkp_o hy)] at hre
    have ex : (6 : Int32) * ((30 : Int32) * nI (k / 6) + nI j) + (nI k - nI (k / 6) * (6 : Int32)) = nI (180 * (k / 6) + 6 * j + k % 6) := by
      have h6 : nI k - nI (k / 6) * (6 : Int32) = nI (k % 6) := by rw [← qd_6 (by omega), qr_6 (by omega)]
      rw [h6, qw_30, nI_add, qw_6, nI_add, show 6 * (30 * (k / 6) + j) + k % 6 = 180 * (k / 6) + 6 * j + k % 6 from by omega]
    obtain ⟨S, s1, s2, s3, s4⟩ := ih (j + 1) n (am_set s 230 (180 * (k / 6) + 6 * j + k % 6) (f_MO_reckoned s (nI k) (nI j))) (by omega) (by omega) (q_md_set (by omega) md) (q_mb_step hk24 hj hre.2 mb)
    refine ⟨S, fun a b hab => by rw [s1 a b hab, am_set_p (by omega)], s2, ?_, fun h => ?_⟩
    · unfold f_MO_reckons_24
      rw [qd_6 (by omega), nI_clamp (n := k / 6) (by omega), f28, if_neg c, ex, nI_clamp (n := 180 * (k / 6) + 6 * j + k % 6) (by omega), nI_1]; exact s3
    · unfold p_MO_reckons_24
      rw [qd_6 (by omega), nI_clamp (n := k / 6) (by omega), f28, ex, nI_clamp (n := 180 * (k / 6) + 6 * j + k % 6) (by omega), nI_1]
      exact ⟨vp_in_nI (by omega) (by omega), fun q => absurd q c, fun _ => ⟨hre.1, vp_in_nI (by omega) (by omega), s4 h⟩⟩
theorem qmr_7 {A : am_M} (w : q_wd A) : ∀ (l : List Nat) (m n : Nat) (s R : am_M), (∀ i, i < l.length → s 220 (m + i) = nI (l.getD i 0)) → s 207 15 = nI (m + l.length) → m + l.length ≤ 24 → (∀ i, i < l.length → q_rc A (l.getD i 0)) → q_md s A → q_mb s R → q_we A R → l.length < n → p_MO_reckons_7 n s (nI m) ∧ ∃ t, f_MO_reckons_7 n s (nI m) = t ∧ q_out s t (fun a _ => a = 230) ∧ q_mb t (l.foldl (q_rk A) R) := by
  intro l
  induction l with
  | nil =>
    intro m n s R h1 h2 h3 h4 cd cb e hn
    obtain ⟨n, rfl⟩ : ∃ k, n = k + 1 := ⟨n - 1, by omega⟩
    have c : s 207 15 ≤ nI m := by rw [h2]; exact qn_le (Nat.le_refl _) (by simp at h3; omega)
    unfold p_MO_reckons_7 f_MO_reckons_7
    rw [if_pos c]
    exact ⟨⟨fun _ => trivial, fun q => absurd c q⟩, s, rfl, fun _ _ _ => rfl, cb⟩
  | cons k l ih =>
    intro m n s R h1 h2 h3 h4 md mb e hn
    obtain ⟨n, rfl⟩ : ∃ k, n = k + 1 := ⟨n - 1, by omega⟩
    rw [List.length_cons] at h2 h3 hn
    have hk : q_rc A k := h4 0 (by simp)
    have hk24 := hk.1
    have k7 : s 220 m = nI k := h1 0 (by simp)
    have c : ¬ s 207 15 ≤ nI m := by rw [h2]; exact nI_ge (by omega) (by omega)
    have hv : vp_in (nI m) 24 := vp_in_nI (by omega) (by omega)
    have hm := (e.1 (k / 6) (by omega)).2.1
    obtain ⟨S, s1, s2, s3, s4⟩ := qm_24 w e hk (f_MO_reckons_7 n) (p_MO_reckons_7 n) (nI m) (q_c (R 0 (k / 6))) 0 am_F s (by omega) (by rw [am_F_eq]; omega) md (by rw [q_rkp_0]; exact mb)
    rw [nI_0, nI_1] at s3 s4
    obtain ⟨p1, t, t1, t2, t3⟩ := ih (m + 1) n S (q_rk A R k) (fun i hi => by
        rw [s1 _ _ (by omega), show m + 1 + i = m + (i + 1) from by omega, h1 (i + 1) (by rw [List.length_cons]; omega), List.getD_cons_succ]) (by rw [s1 _ _ (by omega), h2, show m + (l.length + 1) = m + 1 + l.length from by omega]) (by omega) (fun i hi => by
        have := h4 (i + 1) (by rw [List.length_cons]; omega)
        rw [List.getD_cons_succ] at this; exact this) (q_md_out s1 (fun a b q => by omega) md) s2 (q_we_rk w e hk24 hk.2.1) (by omega)
    unfold p_MO_reckons_7 f_MO_reckons_7
    rw [nI_clamp (n := m) (by omega), k7, if_neg c, s3]
    exact ⟨⟨fun q => absurd q c, fun _ => ⟨hv, s4 p1⟩⟩, t, t1, q_out_t s1 t2, by rw [List.foldl_cons]; exact t3⟩
theorem qm_reckons {s A R : am_M} (md : q_md s A) (w : q_wd A) (e : q_we A R) (mb : q_mb s R) : p_MO_reckons s ∧ ∃ t, f_MO_reckons s = t ∧ q_out s t (fun a b => (a = 207 ∧ b = 15) ∨ a = 220 ∨ a = 221 ∨ a = 230) ∧ q_mb t (q_reck A R) := by
  have hl := @q_ord_len A
  obtain ⟨p1, S, s1, s2, s3, s4⟩ := qo_M md w
  obtain ⟨p2, t, t1, t2, t3⟩ := qmr_7 w (q_ord A) 0 am_F S R (fun i hi => by rw [Nat.zero_add]; exact s4 i hi) (by rw [Nat.zero_add]; exact s3) (by omega) (fun i hi => q_ord_rc w hi) (q_md_out s2 (fun a b q => by omega) md) (q_mb_out s2 (fun a b q => by omega) mb) e (by rw [am_F_eq]; omega)
  rw [nI_0] at p2 t1
  unfold p_MO_reckons f_MO_reckons
  rw [s1]
  exact ⟨⟨p1, p2⟩, t, t1, fun a b hab => by rw [t2 a b (by omega), s2 a b (by omega)], t3⟩
end

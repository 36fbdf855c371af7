noncomputable section
-- the class reckons
theorem qk_cell {s A R : am_M} (cd : q_cd s A) (w : q_wd A) (cb : q_cb s 9 10 11 R) {k r : Nat} (hk : q_rc A k) (n34 : ¬ (A 214 k = 3 ∨ A 214 k = 4)) (hr : r < 30) (hh : R 1 (30 * (k / 6) + r) ≠ 0) : p_BA_reckonCell s (nI (k / 6)) (nI r) (20 + k) ∧ f_BA_reckonCell s (nI (k / 6)) (nI r) (20 + k) = q_val A R k r := by
  obtain ⟨hk24, hk2, hu1, hu2⟩ := hk
  obtain ⟨n1, n2, n3, n4, n5, n6⟩ := q_f_n w hk24 hk2
  have b := q_u_b w hk24 hk2
  have h4 := w.1.2
  have n3' := n3 (fun q => n34 (Or.inr q))
  have e1 : q_u1 A k = 6 * (k / 6) + q_c (A 215 k) := by unfold q_u1 q_tb; rw [if_neg n34]
  have hp : p_BA_reckonCell s (nI (k / 6)) (nI r) (20 + k) := ⟨⟨by omega, qd_sh hk24⟩, qr_pget _ _ _ _, fun _ => ⟨qd_pcol _ _ _, qd_ref _ _ _, qr_phas _ _ _, fun _ => trivial, fun _ => ⟨qr_pget _ _ _ _, trivial⟩⟩, fun _ => ⟨qr_pget _ _ _ _, fun _ => trivial, fun _ => ⟨fun _ => trivial, fun _ => ⟨fun _ => trivial, fun _ => trivial⟩⟩⟩⟩
  refine ⟨hp, ?_⟩
  have f7 : s (20 + k) 7 = A 214 k := cd.2.2.2 k 7 hk24 (by omega) (by omega)
  have f8 : s (20 + k) 8 = A 215 k := cd.2.2.2 k 8 hk24 (by omega) (by omega)
  have f9 : s (20 + k) 9 = A 216 k := cd.2.2.2 k 9 hk24 (by omega) (by omega)
  unfold f_BA_reckonCell q_val q_a q_b
  rw [f7, f8, f9]
  generalize q_c (A 215 k) = one at *
  generalize q_c (A 216 k) = two at *
  rw [n1.1, n3'.1, qr_cell cb (by omega) hr n1.2 hh, qr_cell cb (by omega) hr n3'.2 hh, qd_col (by omega) n1.2, ← e1]
  by_cases c2 : A 214 k = 2
  · rw [if_pos c2, if_pos c2]
    have hx := w.2.2.2.1 _ b.1 (n4 (Or.inl c2))
    have f3 : s (20 + q_u1 A k) 3 = A 212 (q_u1 A k) := cd.2.2.2 _ 3 b.1 (by omega) (by omega)
    have f3' : s (20 + q_u1 A k) 3 = nI (q_tg A (q_u1 A k)) := f3.trans hx.1
    have ht4 : q_tg A (q_u1 A k) < 4 := by omega
    rw [f3', qr_has cb ht4]
    by_cases c : q_hs R (q_tg A (q_u1 A k)) (R 2 (180 * (k / 6) + 6 * r + one))
    · rw [if_pos c, if_neg i10, if_pos c]
      obtain ⟨r2, hr2, e2, h2⟩ := q_hs_x c
      rw [e2, qr_cell cb ht4 hr2 n3'.2 h2, show q_c (nI r2) = r2 from nI_clamp (by omega)]
    · rw [if_neg c, if_pos rfl, if_neg c]
  · rw [if_neg c2, if_neg c2, if_neg n34, q_lim_C, q_lim_C, lg_i2l_add]
    have em : ∀ x y : Int32, (x.toInt64 * y.toInt64).toInt = x.toInt * y.toInt := fun x y => by
      rw [Int64.toInt_mul, Int32.toInt_toInt64, Int32.toInt_toInt64]
      have hx1 := Int32.le_toInt x
      have hx2 := Int32.toInt_lt x
      have hy1 := Int32.le_toInt y
      have hy2 := Int32.toInt_lt y
      have hb : -(2 ^ 62 : Int) ≤ x.toInt * y.toInt ∧ x.toInt * y.toInt ≤ 2 ^ 62 := by
        have hm : (x.toInt * y.toInt).natAbs = x.toInt.natAbs * y.toInt.natAbs := Int.natAbs_mul _ _
        have h1 : x.toInt.natAbs ≤ 2 ^ 31 := by omega
        have h2 : y.toInt.natAbs ≤ 2 ^ 31 := by omega
        have h3 : x.toInt.natAbs * y.toInt.natAbs ≤ 2 ^ 31 * 2 ^ 31 := Nat.mul_le_mul h1 h2
        rw [← hm] at h3
        have h4 : (2 : Nat) ^ 31 * 2 ^ 31 = 2 ^ 62 := by decide
        rw [h4] at h3
        omega
      exact Int.bmod_eq_of_le (by omega) (by omega)
    rw [em]
theorem qk_110 {A R : am_M} (w : q_wd A) {k : Nat} (hk : q_rc A k) (c3 : A 214 k = 3 ∨ A 214 k = 4) (e : q_we A R) : ∀ (d j n : Nat) (s : am_M) (x y : Int32), j + d = 30 → d < n → q_cd s A → q_cb s 9 10 11 R → (∀ r, r < 30 → -(1000000 * (j : Int)) ≤ (s 19 r).toInt ∧ (s 19 r).toInt ≤ 1000000 * (j : Int)) → ∃ S, q_out s S (fun a _ => a = 19) ∧ (∀ r, r < 30 → (S 19 r).toInt = (s 19 r).toInt + q_sumf (q_sm A R k r) d j) ∧ f_BA_reckonSums_11 n s (20 + k) x y (nI j) = f_BA_reckonSums_116 S (20 + k) x y (nI 30) ∧ (p_BA_reckonSums_116 S (20 + k) x y (nI 30) → p_BA_reckonSums_11 n s (20 + k) x y (nI j)) := by
  obtain ⟨hk24, hk2, hu1, hu2⟩ := hk
  obtain ⟨n1, n2, n3, n4, n5, n6⟩ := q_f_n w hk24 hk2
  have n2' := n2 c3
  have e0 : q_tb A k = q_c (A 217 k) := by unfold q_tb; rw [if_pos c3]
  intro d
  induction d with
  | zero =>
    intro j n s x y h1 h2 cd cb hb
    obtain ⟨n, rfl⟩ : ∃ k, n = k + 1 := ⟨n - 1, by omega⟩
    have ej : j = 30 := by omega
    subst ej
    have c : (30 : Int32) ≤ nI 30 := qg_30 (Nat.le_refl _) (by omega)
    refine ⟨s, fun _ _ _ => rfl, fun r hr => by show _ = _ + 0; omega, ?_, fun h => ?_⟩
    · unfold f_BA_reckonSums_11; rw [if_pos c]
    · unfold p_BA_reckonSums_11; exact ⟨fun _ => h, fun q => absurd c q⟩
  | succ d ih =>
    intro j n s x y h1 h2 cd cb hb
    obtain ⟨n, rfl⟩ : ∃ k, n = k + 1 := ⟨n - 1, by omega⟩
    have hj : j < 30 := by omega
    have c : ¬ (30 : Int32) ≤ nI j := ql_30 hj
    have f7 : s (20 + k) 7 = A 214 k := cd.2.2.2 k 7 hk24 (by omega) (by omega)
    have f8 : s (20 + k) 8 = nI (q_c (A 215 k)) := (cd.2.2.2 k 8 hk24 (by omega) (by omega)).trans n1.1
    have f9 : s (20 + k) 9 = A 216 k := cd.2.2.2 k 9 hk24 (by omega) (by omega)
    have f10 : s (20 + k) 10 = nI (q_tb A k) := by rw [e0]; exact (cd.2.2.2 k 10 hk24 (by omega) (by omega)).trans n2'.1
    have ho4 : q_tb A k < 4 := by omega
    have rf : (20 + k) < 207 ∧ am_sh (20 + k) = (0, 3, 11) := ⟨by omega, qd_sh hk24⟩
    -- the loop goes on with another array of sums
    have goOn : ∀ (s' : am_M) (z : Nat → Int), q_out s s' (fun a _ => a = 19) → (∀ r, r < 30 → (s' 19 r).toInt = (s 19 r).toInt + z r ∧ -1000000 ≤ z r ∧ z r ≤ 1000000 ∧ q_sm A R k r j = z r) → ∃ S, q_out s S (fun a _ => a = 19) ∧ (∀ r, r < 30 → (S 19 r).toInt = (s 19 r).toInt + q_sumf (q_sm A R k r) (d + 1) j) ∧ f_BA_reckonSums_11 n s' (20 + k) x y (nI (j + 1)) = f_BA_reckonSums_116 S (20 + k) x y (nI 30) ∧ (p_BA_reckonSums_116 S (20 + k) x y (nI 30) → p_BA_reckonSums_11 n s' (20 + k) x y (nI (j + 1))) := fun s' z ho hz => by
      have cd' : q_cd s' A := by
        obtain ⟨q1, q2, q3, q4⟩ := cd
        exact ⟨by rw [ho _ _ (by omega)]; exact q1, fun t ht => by rw [ho _ _ (by omega)]; exact q2 t ht, fun k hk => by rw [ho _ _ (by omega)]; exact q3 k hk, fun k j hk h1 h2 => by rw [ho _ _ (by omega)]; exact q4 k j hk h1 h2⟩
      have cb' : q_cb s' 9 10 11 R := ⟨fun t ht => by rw [ho _ _ (by omega)]; exact cb.1 t ht, fun t ht => by rw [ho _ _ (by omega)]; exact cb.2.1 t ht, fun t ht hh => by rw [ho _ _ (by omega)]; exact cb.2.2 t ht hh⟩
      obtain ⟨S, s1, s2, s3, s4⟩ := ih (j + 1) n s' x y (by omega) (by omega) cd' cb' (fun r hr => by
        have := hz r hr
        have := hb r hr
        omega)
      refine ⟨S, fun a b hab => by rw [s1 a b hab, ho a b hab], fun r hr => ?_, s3, s4⟩
      rw [s2 r hr, (hz r hr).1]
      show _ = _ + (q_sm A R k r j + q_sumf (q_sm A R k r) d (j + 1))
      rw [(hz r hr).2.2.2]; omega
    have hs := qr_has cb ho4 (nI j)
    unfold f_BA_reckonSums_11 p_BA_reckonSums_11 f_BA_reckonSums_110 p_BA_reckonSums_110 f_BA_reckonSums_108 p_BA_reckonSums_108 f_BA_reckonSums_110 p_BA_reckonSums_110
    rw [f7, f8, f9, f10, hs, nI_1, if_neg c]
    by_cases hh : R 1 (30 * q_tb A k + j) = 0
    · have hq : ¬ q_hs R (q_tb A k) (nI j) := fun q => (q_hs_I hj).mp q hh
      rw [if_neg hq, if_pos rfl]
      obtain ⟨S, s1, s2, s3, s4⟩ := goOn s (fun _ => 0) (fun _ _ _ => rfl) (fun r hr => ⟨by omega, by omega, by omega, by unfold q_sm; rw [if_neg (fun q => q.1 hh)]⟩)
      exact ⟨S, s1, s2, s3, fun h => ⟨fun q => absurd q c, fun _ => ⟨rf, qr_pget _ _ _ _, qr_phas _ _ _, fun _ => s4 h, fun q => absurd rfl q⟩⟩⟩
    have hq : q_hs R (q_tb A k) (nI j) := (q_hs_I hj).mpr hh
    rw [if_pos hq, if_neg i10, qr_cell cb ho4 hj n1.2 hh]
    generalize hx9 : R 2 (180 * q_tb A k + 6 * j + q_c (A 215 k)) = led
    have hsm0 : (∀ r, r < 30 → led ≠ nI r) → ∀ r, r < 30 → q_sm A R k r j = 0 := fun hl r hr => by
      unfold q_sm; rw [hx9, if_neg (fun q => hl r hr q.2)]
    rcases qx_30 led with g | g | ⟨r0, hr0, rfl⟩
    · rw [if_pos g]
      have hl : ∀ r, r < 30 → led ≠ nI r := fun r hr q => qz (n := r) (by omega) (by rw [← q]; exact g)
      obtain ⟨S, s1, s2, s3, s4⟩ := goOn s (fun _ => 0) (fun _ _ _ => rfl) (fun r hr => ⟨by omega, by omega, by omega, hsm0 hl r hr⟩)
      exact ⟨S, s1, s2, s3, fun h => ⟨fun q => absurd q c, fun _ => ⟨rf, qr_pget _ _ _ _, qr_phas _ _ _, fun q => absurd q i10, fun _ => ⟨fun _ => s4 h, fun q => absurd g q⟩⟩⟩⟩
    · have hl : ∀ r, r < 30 → led ≠ nI r := fun r hr q => ql_30 hr (by rw [← q]; exact g)
      have hng : ¬ led < 0 := by
        rw [Int32.lt_iff_toInt_lt]; rw [Int32.le_iff_toInt_le] at g
        have h1 : (0 : Int32).toInt = 0 := by decide
        have h2 : (30 : Int32).toInt = 30 := by decide
        omega
      rw [if_neg hng, if_pos g]
      obtain ⟨S, s1, s2, s3, s4⟩ := goOn s (fun _ => 0) (fun _ _ _ => rfl) (fun r hr => ⟨by omega, by omega, by omega, hsm0 hl r hr⟩)
      exact ⟨S, s1, s2, s3, fun h => ⟨fun q => absurd q c, fun _ => ⟨rf, qr_pget _ _ _ _, qr_phas _ _ _, fun q => absurd q i10, fun _ => ⟨fun q => absurd q hng, fun _ => ⟨fun _ => s4 h, fun q => absurd g q⟩⟩⟩⟩⟩
    · rw [if_neg (qz (by omega)), if_neg (ql_30 hr0), nI_clamp (n := r0) (by omega)]
      have hv0 : vp_in (nI r0) 30 := vp_in_nI hr0 (by omega)
      have add : ∀ v : Int32, -1000000 ≤ v.toInt → v.toInt ≤ 1000000 → (s 19 r0 + v).toInt = (s 19 r0).toInt + v.toInt := fun v v1 v2 => by
        have := hb r0 hr0
        rw [Int32.toInt_add]
        exact Int.bmod_eq_of_le (by omega) (by omega)
      have ne : ∀ r, r < 30 → r ≠ r0 → (nI r0 : Int32) ≠ nI r := fun r hr q => fun q2 => q ((nI_eq (by omega) (by omega)).mp q2).symm
      have step : ∀ v : Int32, -1000000 ≤ v.toInt → v.toInt ≤ 1000000 → (q_sm A R k r0 j = v.toInt) → ∃ S, q_out s S (fun a _ => a = 19) ∧ (∀ r, r < 30 → (S 19 r).toInt = (s 19 r).toInt + q_sumf (q_sm A R k r) (d + 1) j) ∧ f_BA_reckonSums_11 n (am_set s 19 r0 (s 19 r0 + v)) (20 + k) x y (nI (j + 1)) = f_BA_reckonSums_116 S (20 + k) x y (nI 30) ∧ (p_BA_reckonSums_116 S (20 + k) x y (nI 30) → p_BA_reckonSums_11 n (am_set s 19 r0 (s 19 r0 + v)) (20 + k) x y (nI (j + 1))) := fun v v1 v2 v3 =>
        goOn (am_set s 19 r0 (s 19 r0 + v)) (fun r => if r = r0 then v.toInt else 0) (fun a b hab => am_set_p (by omega)) (fun r hr => by
          by_cases er : r = r0
          · subst er
            rw [am_set_q, add v v1 v2]
            simp only [if_true]
            exact ⟨trivial, v1, v2, v3⟩
          · rw [am_set_p (Or.inr er)]
            simp only [er, if_false]
            refine ⟨by omega, by omega, by omega, ?_⟩
            unfold q_sm; rw [hx9, if_neg (fun q => ne r hr er q.2)])
      by_cases c4 : A 214 k = 4
      · rw [if_pos c4]
        obtain ⟨S, s1, s2, s3, s4⟩ := step 1 (by decide) (by decide) (by unfold q_sm; rw [hx9, if_pos ⟨hh, rfl⟩, if_pos c4]; rfl)
        exact ⟨S, s1, s2, s3, fun h => ⟨fun q => absurd q c, fun _ => ⟨rf, qr_pget _ _ _ _, qr_phas _ _ _, fun q => absurd q i10, fun _ => ⟨fun q => absurd q (qz (by omega)), fun _ => ⟨fun q => absurd q (ql_30 hr0), fun _ => ⟨hv0, fun _ => ⟨hv0, s4 h⟩, fun q => absurd c4 q⟩⟩⟩⟩⟩⟩
      · have n3' := n3 c4
        have f9' : A 216 k = nI (q_c (A 216 k)) := n3'.1
        have ec : f_RO_get s 8 (nI (q_tb A k)) (nI j) (A 216 k) = R 2 (180 * q_tb A k + 6 * j + q_c (A 216 k)) := by
          rw [n3'.1, qr_cell cb ho4 hj n3'.2 hh, ← n3'.1]
        have hv := e.2.2 (180 * q_tb A k + 6 * j + q_c (A 216 k)) (by omega) (by rw [show (180 * q_tb A k + 6 * j + q_c (A 216 k)) / 6 = 30 * q_tb A k + j from by omega]; exact hh)
        have hoz : ∀ z : Int32, q_v z → f_CB_orZero s z = q_oz z ∧ -1000000 ≤ (q_oz z).toInt ∧ (q_oz z).toInt ≤ 1000000 := fun z hz => by
          unfold q_oz
          by_cases cz : z = -1000000
          · rw [if_pos cz]; exact ⟨by unfold f_CB_orZero; rw [if_pos cz], by decide, by decide⟩
          · rw [if_neg cz]; exact ⟨by unfold f_CB_orZero; rw [if_neg cz], hz.1, by have := hz.2; omega⟩
        have ho := hoz _ hv
        rw [if_neg c4, ec, ho.1]
        obtain ⟨S, s1, s2, s3, s4⟩ := step _ ho.2.1 ho.2.2 (by unfold q_sm; rw [hx9, if_pos ⟨hh, rfl⟩, if_neg c4])
        exact ⟨S, s1, s2, s3, fun h => ⟨fun q => absurd q c, fun _ => ⟨rf, qr_pget _ _ _ _, qr_phas _ _ _, fun q => absurd q i10, fun _ => ⟨fun q => absurd q (qz (by omega)), fun _ => ⟨fun q => absurd q (ql_30 hr0), fun _ => ⟨hv0, fun q => absurd q c4, fun _ => ⟨qr_pget _ _ _ _, hv0, s4 h⟩⟩⟩⟩⟩⟩⟩
end

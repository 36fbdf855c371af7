noncomputable section
-- remove: the class finds the first cell that leads to a row that goes
theorem qc_lead {s A R : am_M} (cd : q_cd s A) (w : q_wd A) (wr : q_wr A R) (cb : q_cb s 9 10 11 R) {p m : Nat} (hp : p < 120) : ∀ (d c n : Nat), c + d = 6 → d < n → p_BA_firstToGoing_14 n s (nI p) (nI m) (nI (p / 30)) (nI (p % 30)) (nI c) ∧ f_BA_firstToGoing_14 n s (nI p) (nI m) (nI (p / 30)) (nI (p % 30)) (nI c) = if q_fi (q_led A R (s 18) m p) d c < 6 then nI (q_fi (q_led A R (s 18) m p) d c) else -1 := by
  have h4 := w.1.2
  intro d
  induction d with
  | zero =>
    intro c n hcd hn
    obtain ⟨n, rfl⟩ : ∃ k, n = k + 1 := ⟨n - 1, by omega⟩
    obtain rfl : c = 6 := by omega
    have l : (6 : Int32) ≤ nI 6 := qg_6 (by omega) (by omega)
    unfold p_BA_firstToGoing_14 f_BA_firstToGoing_14
    rw [if_pos l]
    exact ⟨⟨fun _ => trivial, fun q => absurd l q⟩, rfl⟩
  | succ d ih =>
    intro c n hcd hn
    obtain ⟨n, rfl⟩ : ∃ k, n = k + 1 := ⟨n - 1, by omega⟩
    have l : ¬ (6 : Int32) ≤ nI c := ql_6 (by omega)
    have e1 : nI c + (1 : Int32) = nI (c + 1) := nI_add c 1
    obtain ⟨i1, i2⟩ := ih (c + 1) n (by omega) (by omega)
    have hx : q_fi (q_led A R (s 18) m p) (d + 1) c = if q_led A R (s 18) m p c then c else q_fi (q_led A R (s 18) m p) d (c + 1) := rfl
    have hhas := qr_has cb (show p / 30 < 4 by omega) (nI (p % 30))
    have hhI : q_hs R (p / 30) (nI (p % 30)) ↔ R 1 p ≠ 0 := by
      have := @q_hs_I R (p / 30) (p % 30) (Nat.mod_lt _ (by omega))
      rw [show 30 * (p / 30) + p % 30 = p from by omega] at this; exact this
    unfold p_BA_firstToGoing_14 f_BA_firstToGoing_14 p_BA_firstToGoing_133 f_BA_firstToGoing_133
    rw [if_neg l, hhas, e1]
    by_cases h1 : R 1 p = 0
    · rw [if_neg (fun q => hhI.mp q h1), if_pos rfl]
      have hn6 : q_fi (q_led A R (s 18) m p) (d + 1) c = 6 := by
        have : ∀ (e j : Nat), q_fi (q_led A R (s 18) m p) e j = j + e := by
          intro e
          induction e with
          | zero => intro j; rfl
          | succ e ie =>
            intro j
            show (if q_led A R (s 18) m p j then j else q_fi (q_led A R (s 18) m p) e (j + 1)) = _
            rw [if_neg (fun q => q.1 h1), ie]; omega
        rw [this]; omega
      rw [hn6]
      exact ⟨⟨fun q => absurd q l, fun _ => ⟨qr_phas _ _ _, fun _ => trivial, fun q => absurd rfl q⟩⟩, rfl⟩
    rw [if_pos (hhI.mpr h1), if_neg i10]
    have hk24 : 6 * (p / 30) + c < 24 := by omega
    have hcol : f_BA_column s (nI (p / 30)) (nI c) = 20 + (6 * (p / 30) + c) := qd_col (by omega) (by omega)
    have hget : f_RO_get s 8 (nI (p / 30)) (nI (p % 30)) (nI c) = R 2 (6 * p + c) := by
      rw [qr_cell cb (by omega) (Nat.mod_lt _ (by omega)) (by omega) (by rw [show 30 * (p / 30) + p % 30 = p from by omega]; exact h1), show 180 * (p / 30) + 6 * (p % 30) + c = 6 * p + c from by omega]
    have k0 : s (20 + (6 * (p / 30) + c)) 0 = q_kc (A 209 (6 * (p / 30) + c)) := cd.2.2.1 _ hk24
    have k4 : s (20 + (6 * (p / 30) + c)) 4 = A 213 (6 * (p / 30) + c) := cd.2.2.2 _ 4 hk24 (by omega) (by omega)
    have k3 : s (20 + (6 * (p / 30) + c)) 3 = A 212 (6 * (p / 30) + c) := cd.2.2.2 _ 3 hk24 (by omega) (by omega)
    have psh : (20 + (6 * (p / 30) + c)) < 207 ∧ am_sh (20 + (6 * (p / 30) + c)) = (0, 3, 11) := ⟨by omega, qd_sh hk24⟩
    rw [hcol, hget, k0, k4, k3]
    by_cases h2 : A 209 (6 * (p / 30) + c) = 1
    rotate_left
    · have n2 : ¬ q_kc (A 209 (6 * (p / 30) + c)) = 2 := fun q => h2 (q_kc_2.mp q)
      rw [hx.trans (if_neg (fun q => h2 q.2.1)), if_neg n2]
      exact ⟨⟨fun q => absurd q l, fun _ => ⟨qr_phas _ _ _, fun q => absurd q i10, fun _ => ⟨qd_pcol _ _ _, qr_pget _ _ _ _, psh, fun q => absurd q n2, fun _ => i1⟩⟩⟩, i2⟩
    have y2 : q_kc (A 209 (6 * (p / 30) + c)) = 2 := q_kc_2.mpr h2
    rw [if_pos y2]
    by_cases h3 : A 213 (6 * (p / 30) + c) = nI m
    rotate_left
    · rw [hx.trans (if_neg (fun q => h3 q.2.2.1)), if_neg h3]
      exact ⟨⟨fun q => absurd q l, fun _ => ⟨qr_phas _ _ _, fun q => absurd q i10, fun _ => ⟨qd_pcol _ _ _, qr_pget _ _ _ _, psh, fun _ => ⟨fun q => absurd q h3, fun _ => i1⟩, fun q => absurd y2 q⟩⟩⟩, i2⟩
    rw [if_pos h3]
    obtain ⟨t1, t2⟩ := w.2.2.2.1 _ hk24 h2
    rw [t1, qr_has cb (show q_tg A (6 * (p / 30) + c) < 4 by omega)]
    by_cases hs : q_hs R (q_tg A (6 * (p / 30) + c)) (R 2 (6 * p + c))
    rotate_left
    · rw [hx.trans (if_neg (fun q => by
        obtain ⟨r, r1, r2, r3⟩ := (wr.2.2.2.2 p c hp (by omega) h1 h2).resolve_left q.2.2.2.1
        exact hs (by rw [r2]; exact (q_hs_I r1).mpr r3))), if_neg hs, if_pos rfl]
      exact ⟨⟨fun q => absurd q l, fun _ => ⟨qr_phas _ _ _, fun q => absurd q i10, fun _ => ⟨qd_pcol _ _ _, qr_pget _ _ _ _, psh, fun _ => ⟨fun _ => ⟨qr_phas _ _ _, fun _ => i1, fun q => absurd rfl q⟩, fun q => absurd h3 q⟩, fun q => absurd y2 q⟩⟩⟩, i2⟩
    obtain ⟨r, r1, r2, r3⟩ := q_hs_x hs
    have hb : R 2 (6 * p + c) ≠ -1000000 := fun q => by
      rw [r2] at q
      have : ¬ nI r < 0 := qz (by omega)
      rw [q] at this; exact this (by decide)
    have er : q_c (R 2 (6 * p + c)) = r := by rw [r2]; exact nI_clamp (by omega)
    have ix : nI (q_tg A (6 * (p / 30) + c)) * (30 : Int32) + R 2 (6 * p + c) = nI (30 * q_tg A (6 * (p / 30) + c) + r) := by rw [r2, qm_30, nI_add, Nat.mul_comm]
    have z0 : ¬ nI (30 * q_tg A (6 * (p / 30) + c) + r) < 0 := qz (by omega)
    have z1 : ¬ (120 : Int32) ≤ nI (30 * q_tg A (6 * (p / 30) + c) + r) := ql_120 (by omega)
    have v4 : vp_in (nI (30 * q_tg A (6 * (p / 30) + c) + r)) 120 := vp_in_nI (by omega) (by omega)
    have h6 : q_led A R (s 18) m p c ↔ ¬ s 18 (30 * q_tg A (6 * (p / 30) + c) + r) = 0 := ⟨fun q => by
      have := q.2.2.2.2
      rw [er] at this; exact this, fun q => ⟨h1, h2, h3, hb, by rw [er]; exact q⟩⟩
    rw [if_pos hs, if_neg i10, ix, if_neg z0, if_neg z1, nI_clamp (n := 30 * q_tg A (6 * (p / 30) + c) + r) (by omega)]
    by_cases h5 : s 18 (30 * q_tg A (6 * (p / 30) + c) + r) = 0
    · rw [hx.trans (if_neg (fun q => h6.mp q h5)), if_pos h5]
      exact ⟨⟨fun q => absurd q l, fun _ => ⟨qr_phas _ _ _, fun q => absurd q i10, fun _ => ⟨qd_pcol _ _ _, qr_pget _ _ _ _, psh, fun _ => ⟨fun _ => ⟨qr_phas _ _ _, fun q => absurd q i10, fun _ => ⟨fun q => absurd q z0, fun _ => ⟨fun q => absurd q z1, fun _ => ⟨v4, fun _ => i1, fun _ => trivial⟩⟩⟩⟩, fun q => absurd h3 q⟩, fun q => absurd y2 q⟩⟩⟩, i2⟩
    · rw [hx.trans (if_pos (h6.mpr h5)), if_neg h5, if_pos (show c < 6 by omega)]
      exact ⟨⟨fun q => absurd q l, fun _ => ⟨qr_phas _ _ _, fun q => absurd q i10, fun _ => ⟨qd_pcol _ _ _, qr_pget _ _ _ _, psh, fun _ => ⟨fun _ => ⟨qr_phas _ _ _, fun q => absurd q i10, fun _ => ⟨fun q => absurd q z0, fun _ => ⟨fun q => absurd q z1, fun _ => ⟨v4, fun q => absurd q h5, fun _ => trivial⟩⟩⟩⟩, fun q => absurd h3 q⟩, fun q => absurd y2 q⟩⟩⟩, rfl⟩
theorem qc_first {s A R : am_M} (cd : q_cd s A) (w : q_wd A) (wr : q_wr A R) (cb : q_cb s 9 10 11 R) {p m : Nat} (hp : p < 120) : p_BA_firstToGoing s (nI p) (nI m) ∧ f_BA_firstToGoing s (nI p) (nI m) = if q_fi (q_led A R (s 18) m p) 6 0 < 6 then nI (q_fi (q_led A R (s 18) m p) 6 0) else -1 := by
  have h := qc_lead (m := m) cd w wr cb hp 6 0 am_F (by omega) (by rw [am_F_eq]; omega)
  unfold p_BA_firstToGoing f_BA_firstToGoing
  rw [qr_30 (by omega), qd_30 (by omega)]
  rw [nI_0] at h; exact h
end

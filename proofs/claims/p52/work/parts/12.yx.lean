noncomputable section
-- enterInside
theorem qr_pser (s : am_M) (x y : Int32) : p_RO_serialOf s 8 x y := by
  unfold p_RO_serialOf
  rw [lk_8_1]
  refine ⟨fun _ => trivial, fun c1 => ⟨fun _ => trivial, fun c2 => ⟨fun _ => trivial, fun c3 => ⟨fun c4 => ⟨⟨by omega, sh_8⟩, ⟨by omega, sh_10⟩, ?_, trivial⟩, fun _ => trivial⟩⟩⟩⟩
  rcases qx_4 x with h | h | ⟨t, ht, rfl⟩
  · exact absurd h c1
  · exact absurd h c2
  rcases qx_30 y with h | h | ⟨r, hr, rfl⟩
  · exact absurd h c3
  · rw [Int32.lt_iff_toInt_lt] at c4; rw [Int32.le_iff_toInt_le] at h; omega
  rw [qm_30, nI_add]; exact vp_in_nI (by omega) (by omega)
theorem qr_ser {s R : am_M} (cb : q_cb s 9 10 11 R) {t r : Nat} (ht : t < 4) (hr : r < 30) : f_RO_serialOf s 8 (nI t) (nI r) = R 1 (30 * t + r) := by
  unfold f_RO_serialOf
  rw [if_neg (qz (by omega)), if_neg (ql_4 ht), if_neg (qz (by omega)), if_pos (qt_30 hr), lk_8_1, qm_30, nI_add, nI_clamp (n := t * 30 + r) (by omega), cb.2.1 _ (by omega), show t * 30 + r = 30 * t + r from by omega]
theorem qf_p (s : am_M) : p_CB_isFormGood s := ⟨fun _ => trivial, fun _ => ⟨qr_phas _ _ _, fun _ => trivial, fun _ => ⟨qr_pser _ _ _, fun _ => trivial, fun _ => trivial⟩⟩⟩
/-- the form is good on both sides, or on none -/
theorem qf_good {s : am_M} {Z : Nat → am_M} {k L : Nat} (cd : q_cd s (Z 6)) (w : q_wd (Z 6)) (cb : q_cb s 9 10 11 (Z 8)) (hf : q_form s Z k L) : (f_CB_isFormGood s = 0 ∧ (s 207 28 = -1 ∨ (∃ T r, T < q_nt (Z 6) ∧ r < 30 ∧ s 207 28 = nI T ∧ s 207 29 = nI r ∧ Z 8 1 (30 * T + r) = 0))) ∨ (f_CB_isFormGood s = 1 ∧ ∃ T r, T < q_nt (Z 6) ∧ r < 30 ∧ s 0 8 = nI T ∧ s 0 9 = nI r ∧ s 207 28 = nI T ∧ s 207 29 = nI r ∧ Z 8 1 (30 * T + r) ≠ 0) := by
  have h4 := w.1.2
  unfold f_CB_isFormGood
  rw [qd_hasT cd w]
  rcases hf with ⟨g1, g2⟩ | ⟨T, r, f, g1, g2, g3, g4, g5, g6, g7, g8, g9, g10, g11⟩
  · left
    refine ⟨?_, Or.inl g1⟩
    rcases g2 with g2 | ⟨T, r, f, g2, g3, g4, g5, g6, g7, g8, g9⟩
    · have : q_isT (Z 6) (s 0 8) = 0 := by
        rw [g2]; unfold q_isT q_in
        rw [if_pos (by decide)]
      rw [this, if_pos rfl]
    · have hT : q_isT (Z 6) (s 0 8) = 1 := by rw [g4]; exact q_in_1 g2 (by omega)
      rw [hT, if_neg i10, g4, g5, qr_has cb (by omega)]
      by_cases c : q_hs (Z 8) T (nI r)
      · rw [if_pos c, if_neg i10, qr_ser cb (by omega) g3, g6, if_neg (g9 _ (Or.inl rfl))]
      · rw [if_neg c, if_pos rfl]
  · have hT : q_isT (Z 6) (s 0 8) = 1 := by rw [g3]; exact q_in_1 g1 (by omega)
    rw [hT, if_neg i10, g3, g4, qr_has cb (by omega)]
    by_cases c : Z 8 1 (30 * T + r) = 0
    · left
      rw [if_neg (fun q => (q_hs_I g2).mp q c), if_pos rfl]
      exact ⟨rfl, Or.inr ⟨T, r, g1, g2, g5, g6, c⟩⟩
    · right
      have e := (g11 _ (Or.inl rfl) g10).resolve_left c
      rw [if_pos ((q_hs_I g2).mpr c), if_neg i10, qr_ser cb (by omega) g2, g7, if_pos e]
      exact ⟨rfl, T, r, g1, g2, rfl, rfl, g5, g6, c⟩
end

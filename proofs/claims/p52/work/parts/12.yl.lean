noncomputable section
-- rows are kept and put back
/-- a block of rows of the class -/
def q_bl (i a b c : Nat) : Prop := (i < 207 ∧ am_sh i = (0, 6, 3)) ∧ (am_lk i 0 = a ∧ am_lk i 1 = b ∧ am_lk i 2 = c) ∧ (a < 207 ∧ am_sh a = (1, 0, 4)) ∧ (b < 207 ∧ am_sh b = (1, 0, 120)) ∧ (c < 207 ∧ am_sh c = (1, 0, 720))
theorem qcp {s R : am_M} {i a b c x d e f : Nat} (hi : q_bl i a b c) (hx : q_bl x d e f) (h1 : a ≠ b ∧ a ≠ c ∧ b ≠ c) (h2 : a ≠ e ∧ a ≠ f ∧ b ≠ f) (h : q_cb s d e f R) : p_RO_copyFrom s i x ∧ ∃ t, f_RO_copyFrom s i x = t ∧ q_out s t (fun k _ => k = a ∨ k = b ∨ k = c) ∧ q_cb t a b c R := by
  obtain ⟨i1, ⟨i2, i3, i4⟩, i5, i6, i7⟩ := hi
  obtain ⟨x1, ⟨x2, x3, x4⟩, x5, x6, x7⟩ := hx
  have z0 : ((0 : Int32)).toNatClampNeg = 0 := rfl
  have z4 : ((4 : Int32)).toNatClampNeg = 4 := by decide
  have z1 : ((120 : Int32)).toNatClampNeg = 120 := by decide
  have z7 : ((720 : Int32)).toNatClampNeg = 720 := by decide
  unfold p_RO_copyFrom f_RO_copyFrom
  rw [i2, i3, i4, x2, x3, x4, z0, z4, z1, z7]
  refine ⟨⟨x1, x5, i1, i5, ⟨by decide, by decide, by decide, by omega, by omega⟩, x6, i6, ⟨by decide, by decide, by decide, by omega, by omega⟩, x7, i7, ⟨by decide, by decide, by decide, by omega, by omega⟩, trivial⟩, _, rfl, fun k l hk => ?_, fun t ht => ?_, fun p hp => ?_, fun y hy hh => ?_⟩
  · rw [am_put_o (by omega), am_put_o (by omega), am_put_o (by omega)]
  · rw [am_put_o h1.2.1, am_put_o h1.1, am_put_s, sb_cpy0 ht]; exact h.1 t ht
  · rw [am_put_o h1.2.2, am_put_s, sb_cpy0 hp, am_put_o (fun q => h2.1 q.symm)]; exact h.2.1 p hp
  · rw [am_put_s, sb_cpy0 hy, am_put_o (fun q => h2.2.2 q.symm), am_put_o (fun q => h2.2.1 q.symm)]; exact h.2.2 y hy hh
theorem q_bl_8 : q_bl 8 9 10 11 := by unfold q_bl; decide +kernel
theorem q_bl_12 : q_bl 12 13 14 15 := by unfold q_bl; decide +kernel
theorem qk_keep {s R : am_M} (h : q_cb s 9 10 11 R) : p_BA_keep s ∧ ∃ t, f_BA_keep s = t ∧ q_out s t (fun k _ => k = 13 ∨ k = 14 ∨ k = 15) ∧ q_cb t 13 14 15 R := by
  have := qcp q_bl_12 q_bl_8 (by omega) (by omega) h
  exact ⟨⟨this.1, trivial⟩, this.2⟩
theorem qk_back {s R : am_M} (h : q_cb s 13 14 15 R) : p_RO_copyFrom s 8 12 ∧ ∃ t, f_RO_copyFrom s 8 12 = t ∧ q_out s t (fun k _ => k = 9 ∨ k = 10 ∨ k = 11) ∧ q_cb t 9 10 11 R := qcp q_bl_8 q_bl_12 (by omega) (by omega) h
theorem qsL_66 {l : Nat} (hl : l < 7) : ∀ (d j n : Nat) (s : am_M), j + d = 4 → d < n → p_MO_saves_66 n s (nI l) (nI j) ∧ ∃ S, f_MO_saves_66 n s (nI l) (nI j) = S ∧ q_out s S (fun a b => a = 235 ∧ 4 * l + j ≤ b ∧ b < 4 * l + 4) ∧ (∀ u, j ≤ u → u < 4 → S 235 (4 * l + u) = s 228 u) := by
  intro d
  induction d with
  | zero =>
    intro j n s h1 h2
    obtain ⟨n, rfl⟩ : ∃ k, n = k + 1 := ⟨n - 1, by omega⟩
    have e : j = 4 := by omega
    subst e
    have c : (4 : Int32) ≤ nI 4 := qg_4 (Nat.le_refl _) (by omega)
    unfold p_MO_saves_66 f_MO_saves_66
    rw [if_pos c]
    exact ⟨⟨fun _ => trivial, fun q => absurd c q⟩, s, rfl, fun _ _ _ => rfl, fun u u1 u2 => absurd u2 (by omega)⟩
  | succ d ih =>
    intro j n s h1 h2
    obtain ⟨n, rfl⟩ : ∃ k, n = k + 1 := ⟨n - 1, by omega⟩
    have hj : j < 4 := by omega
    have c : ¬ (4 : Int32) ≤ nI j := ql_4 hj
    have v1 : vp_in (nI j) 4 := vp_in_nI hj (by omega)
    have v2 : vp_in (nI (4 * l + j)) 28 := vp_in_nI (by omega) (by omega)
    obtain ⟨p1, S, s3, s1, s2⟩ := ih (j + 1) n (am_set s 235 (4 * l + j) (s 228 j)) (by omega) (by omega)
    have q1 : q_out s S (fun a b => a = 235 ∧ 4 * l + j ≤ b ∧ b < 4 * l + 4) := fun a b hab => by rw [s1 a b (by omega), am_set_p (by omega)]
    have q2 : ∀ u, j ≤ u → u < 4 → S 235 (4 * l + u) = s 228 u := fun u u1 u2 => by
      by_cases e : u = j
      · rw [e, s1 _ _ (by omega), am_set_q]
      · rw [s2 u (by omega) u2, am_set_o (by omega)]
    unfold p_MO_saves_66 f_MO_saves_66
    rw [if_neg c, qw_4, nI_add, nI_clamp (n := 4 * l + j) (by omega), nI_clamp (n := j) (by omega), nI_1]
    exact ⟨⟨fun q => absurd q c, fun _ => ⟨v1, v2, p1⟩⟩, S, s3, q1, q2⟩
theorem qsL_35 {l : Nat} (hl : l < 7) : ∀ (d j n : Nat) (s : am_M), j + d = 120 → d < n → (∀ p, p < 120 → s 229 p = 0 ∨ s 229 p = 1) → ∃ S, q_out s S (fun a b => a = 234 ∧ 120 * l + j ≤ b ∧ b < 120 * l + 120) ∧ (∀ u, j ≤ u → u < 120 → S 234 (120 * l + u) = s 229 u) ∧ f_MO_saves_35 n s (nI l) (nI j) = f_MO_saves_64 S (nI l) (nI 120) ∧ (p_MO_saves_64 S (nI l) (nI 120) → p_MO_saves_35 n s (nI l) (nI j)) := by
  intro d
  induction d with
  | zero =>
    intro j n s h1 h2 hs
    obtain ⟨n, rfl⟩ : ∃ k, n = k + 1 := ⟨n - 1, by omega⟩
    have e : j = 120 := by omega
    subst e
    have c : (120 : Int32) ≤ nI 120 := qg_120 (Nat.le_refl _) (by omega)
    refine ⟨s, fun _ _ _ => rfl, fun u u1 u2 => absurd u2 (by omega), ?_, fun h => ?_⟩
    · unfold f_MO_saves_35; rw [if_pos c]
    · unfold p_MO_saves_35; exact ⟨fun _ => h, fun q => absurd c q⟩
  | succ d ih =>
    intro j n s h1 h2 hs
    obtain ⟨n, rfl⟩ : ∃ k, n = k + 1 := ⟨n - 1, by omega⟩
    have hj : j < 120 := by omega
    have c : ¬ (120 : Int32) ≤ nI j := ql_120 hj
    have v1 : vp_in (nI j) 120 := vp_in_nI hj (by omega)
    have v2 : vp_in (nI (120 * l + j)) 840 := vp_in_nI (by omega) (by omega)
    obtain ⟨S, s1, s2, s3, s4⟩ := ih (j + 1) n (am_set s 234 (120 * l + j) (s 229 j)) (by omega) (by omega) (fun p hp => by rw [am_set_o (by omega)]; exact hs p hp)
    have q1 : q_out s S (fun a b => a = 234 ∧ 120 * l + j ≤ b ∧ b < 120 * l + 120) := fun a b hab => by rw [s1 a b (by omega), am_set_p (by omega)]
    have q2 : ∀ u, j ≤ u → u < 120 → S 234 (120 * l + u) = s 229 u := fun u u1 u2 => by
      by_cases e : u = j
      · rw [e, s1 _ _ (by omega), am_set_q]
      · rw [s2 u (by omega) u2, am_set_o (by omega)]
    refine ⟨S, q1, q2, ?_, fun h => ?_⟩
    · unfold f_MO_saves_35
      rw [if_neg c, qw_120, nI_add, nI_clamp (n := 120 * l + j) (by omega), nI_clamp (n := j) (by omega), nI_1]; exact s3
    · unfold p_MO_saves_35
      rw [qw_120, nI_add, nI_clamp (n := 120 * l + j) (by omega), nI_clamp (n := j) (by omega), nI_1]; exact ⟨fun q => absurd q c, fun _ => ⟨v1, v2, hs j hj, s4 h⟩⟩
theorem qsL_2 {l : Nat} (hl : l < 7) : ∀ (d j n : Nat) (s : am_M), j + d = 720 → d < n → ∃ S, q_out s S (fun a b => a = 233 ∧ 720 * l + j ≤ b ∧ b < 720 * l + 720) ∧ (∀ u, j ≤ u → u < 720 → S 233 (720 * l + u) = s 230 u) ∧ f_MO_saves_2 n s (nI l) (nI j) = f_MO_saves_33 S (nI l) (nI 720) ∧ (p_MO_saves_33 S (nI l) (nI 720) → p_MO_saves_2 n s (nI l) (nI j)) := by
  intro d
  induction d with
  | zero =>
    intro j n s h1 h2
    obtain ⟨n, rfl⟩ : ∃ k, n = k + 1 := ⟨n - 1, by omega⟩
    have e : j = 720 := by omega
    subst e
    have c : (720 : Int32) ≤ nI 720 := qg_720 (Nat.le_refl _) (by omega)
    refine ⟨s, fun _ _ _ => rfl, fun u u1 u2 => absurd u2 (by omega), ?_, fun h => ?_⟩
    · unfold f_MO_saves_2; rw [if_pos c]
    · unfold p_MO_saves_2; exact ⟨fun _ => h, fun q => absurd c q⟩
  | succ d ih =>
    intro j n s h1 h2
    obtain ⟨n, rfl⟩ : ∃ k, n = k + 1 := ⟨n - 1, by omega⟩
    have hj : j < 720 := by omega
    have c : ¬ (720 : Int32) ≤ nI j := ql_720 hj
    have v1 : vp_in (nI j) 720 := vp_in_nI hj (by omega)
    have v2 : vp_in (nI (720 * l + j)) 5040 := vp_in_nI (by omega) (by omega)
    obtain ⟨S, s1, s2, s3, s4⟩ := ih (j + 1) n (am_set s 233 (720 * l + j) (s 230 j)) (by omega) (by omega)
    have q1 : q_out s S (fun a b => a = 233 ∧ 720 * l + j ≤ b ∧ b < 720 * l + 720) := fun a b hab => by rw [s1 a b (by omega), am_set_p (by omega)]
    have q2 : ∀ u, j ≤ u → u < 720 → S 233 (720 * l + u) = s 230 u := fun u u1 u2 => by
      by_cases e : u = j
      · rw [e, s1 _ _ (by omega), am_set_q]
      · rw [s2 u (by omega) u2, am_set_o (by omega)]
    refine ⟨S, q1, q2, ?_, fun h => ?_⟩
    · unfold f_MO_saves_2
      rw [if_neg c, qw_720, nI_add, nI_clamp (n := 720 * l + j) (by omega), nI_clamp (n := j) (by omega), nI_1]; exact s3
    · unfold p_MO_saves_2
      rw [qw_720, nI_add, nI_clamp (n := 720 * l + j) (by omega), nI_clamp (n := j) (by omega), nI_1]; exact ⟨fun q => absurd q c, fun _ => ⟨v1, v2, s4 h⟩⟩
theorem qrL_66 {l : Nat} (hl : l < 7) : ∀ (d j n : Nat) (s : am_M), j + d = 4 → d < n → p_MO_restores_66 n s (nI l) (nI j) ∧ ∃ S, f_MO_restores_66 n s (nI l) (nI j) = S ∧ q_out s S (fun a b => a = 228 ∧ j ≤ b ∧ b < 4) ∧ (∀ u, j ≤ u → u < 4 → S 228 u = s 235 (4 * l + u)) := by
  intro d
  induction d with
  | zero =>
    intro j n s h1 h2
    obtain ⟨n, rfl⟩ : ∃ k, n = k + 1 := ⟨n - 1, by omega⟩
    have e : j = 4 := by omega
    subst e
    have c : (4 : Int32) ≤ nI 4 := qg_4 (Nat.le_refl _) (by omega)
    unfold p_MO_restores_66 f_MO_restores_66
    rw [if_pos c]
    exact ⟨⟨fun _ => trivial, fun q => absurd c q⟩, s, rfl, fun _ _ _ => rfl, fun u u1 u2 => absurd u2 (by omega)⟩
  | succ d ih =>
    intro j n s h1 h2
    obtain ⟨n, rfl⟩ : ∃ k, n = k + 1 := ⟨n - 1, by omega⟩
    have hj : j < 4 := by omega
    have c : ¬ (4 : Int32) ≤ nI j := ql_4 hj
    have v1 : vp_in (nI j) 4 := vp_in_nI hj (by omega)
    have v2 : vp_in (nI (4 * l + j)) 28 := vp_in_nI (by omega) (by omega)
    obtain ⟨p1, S, s3, s1, s2⟩ := ih (j + 1) n (am_set s 228 j (s 235 (4 * l + j))) (by omega) (by omega)
    have q1 : q_out s S (fun a b => a = 228 ∧ j ≤ b ∧ b < 4) := fun a b hab => by rw [s1 a b (by omega), am_set_p (by omega)]
    have q2 : ∀ u, j ≤ u → u < 4 → S 228 u = s 235 (4 * l + u) := fun u u1 u2 => by
      by_cases e : u = j
      · rw [e, s1 _ _ (by omega), am_set_q]
      · rw [s2 u (by omega) u2, am_set_o (by omega)]
    unfold p_MO_restores_66 f_MO_restores_66
    rw [if_neg c, qw_4, nI_add, nI_clamp (n := 4 * l + j) (by omega), nI_clamp (n := j) (by omega), nI_1]
    exact ⟨⟨fun q => absurd q c, fun _ => ⟨v2, v1, p1⟩⟩, S, s3, q1, q2⟩
theorem qrL_35 {l : Nat} (hl : l < 7) : ∀ (d j n : Nat) (s : am_M), j + d = 120 → d < n → (∀ p, p < 120 → s 234 (120 * l + p) = 0 ∨ s 234 (120 * l + p) = 1) → ∃ S, q_out s S (fun a b => a = 229 ∧ j ≤ b ∧ b < 120) ∧ (∀ u, j ≤ u → u < 120 → S 229 u = s 234 (120 * l + u)) ∧ f_MO_restores_35 n s (nI l) (nI j) = f_MO_restores_64 S (nI l) (nI 120) ∧ (p_MO_restores_64 S (nI l) (nI 120) → p_MO_restores_35 n s (nI l) (nI j)) := by
  intro d
  induction d with
  | zero =>
    intro j n s h1 h2 hs
    obtain ⟨n, rfl⟩ : ∃ k, n = k + 1 := ⟨n - 1, by omega⟩
    have e : j = 120 := by omega
    subst e
    have c : (120 : Int32) ≤ nI 120 := qg_120 (Nat.le_refl _) (by omega)
    refine ⟨s, fun _ _ _ => rfl, fun u u1 u2 => absurd u2 (by omega), ?_, fun h => ?_⟩
    · unfold f_MO_restores_35; rw [if_pos c]
    · unfold p_MO_restores_35; exact ⟨fun _ => h, fun q => absurd c q⟩
  | succ d ih =>
    intro j n s h1 h2 hs
    obtain ⟨n, rfl⟩ : ∃ k, n = k + 1 := ⟨n - 1, by omega⟩
    have hj : j < 120 := by omega
    have c : ¬ (120 : Int32) ≤ nI j := ql_120 hj
    have v1 : vp_in (nI j) 120 := vp_in_nI hj (by omega)
    have v2 : vp_in (nI (120 * l + j)) 840 := vp_in_nI (by omega) (by omega)
    obtain ⟨S, s1, s2, s3, s4⟩ := ih (j + 1) n (am_set s 229 j (s 234 (120 * l + j))) (by omega) (by omega) (fun p hp => by rw [am_set_o (by omega)]; exact hs p hp)
    have q1 : q_out s S (fun a b => a = 229 ∧ j ≤ b ∧ b < 120) := fun a b hab => by rw [s1 a b (by omega), am_set_p (by omega)]
    have q2 : ∀ u, j ≤ u → u < 120 → S 229 u = s 234 (120 * l + u) := fun u u1 u2 => by
      by_cases e : u = j
      · rw [e, s1 _ _ (by omega), am_set_q]
      · rw [s2 u (by omega) u2, am_set_o (by omega)]
    refine ⟨S, q1, q2, ?_, fun h => ?_⟩
    · unfold f_MO_restores_35
      rw [if_neg c, qw_120, nI_add, nI_clamp (n := 120 * l + j) (by omega), nI_clamp (n := j) (by omega), nI_1]; exact s3
    · unfold p_MO_restores_35
      rw [qw_120, nI_add, nI_clamp (n := 120 * l + j) (by omega), nI_clamp (n := j) (by omega), nI_1]; exact ⟨fun q => absurd q c, fun _ => ⟨v2, v1, hs j hj, s4 h⟩⟩
theorem qrL_2 {l : Nat} (hl : l < 7) : ∀ (d j n : Nat) (s : am_M), j + d = 720 → d < n → ∃ S, q_out s S (fun a b => a = 230 ∧ j ≤ b ∧ b < 720) ∧ (∀ u, j ≤ u → u < 720 → S 230 u = s 233 (720 * l + u)) ∧ f_MO_restores_2 n s (nI l) (nI j) = f_MO_restores_33 S (nI l) (nI 720) ∧ (p_MO_restores_33 S (nI l) (nI 720) → p_MO_restores_2 n s (nI l) (nI j)) := by
  intro d
  induction d with
  | zero =>
    intro j n s h1 h2
    obtain ⟨n, rfl⟩ : ∃ k, n = k + 1 := ⟨n - 1, by omega⟩
    have e : j = 720 := by omega
    subst e
    have c : (720 : Int32) ≤ nI 720 := qg_720 (Nat.le_refl _) (by omega)
    refine ⟨s, fun _ _ _ => rfl, fun u u1 u2 => absurd u2 (by omega), ?_, fun h => ?_⟩
    · unfold f_MO_restores_2; rw [if_pos c]
    · unfold p_MO_restores_2; exact ⟨fun _ => h, fun q => absurd c q⟩
  | succ d ih =>
    intro j n s h1 h2
    obtain ⟨n, rfl⟩ : ∃ k, n = k + 1 := ⟨n - 1, by omega⟩
    have hj : j < 720 := by omega
    have c : ¬ (720 : Int32) ≤ nI j := ql_720 hj
    have v1 : vp_in (nI j) 720 := vp_in_nI hj (by omega)
    have v2 : vp_in (nI (720 * l + j)) 5040 := vp_in_nI (by omega) (by omega)
    obtain ⟨S, s1, s2, s3, s4⟩ := ih (j + 1) n (am_set s 230 j (s 233 (720 * l + j))) (by omega) (by omega)
    have q1 : q_out s S (fun a b => a = 230 ∧ j ≤ b ∧ b < 720) := fun a b hab => by rw [s1 a b (by omega), am_set_p (by omega)]
    have q2 : ∀ u, j ≤ u → u < 720 → S 230 u = s 233 (720 * l + u) := fun u u1 u2 => by
      by_cases e : u = j
      · rw [e, s1 _ _ (by omega), am_set_q]
      · rw [s2 u (by omega) u2, am_set_o (by omega)]
    refine ⟨S, q1, q2, ?_, fun h => ?_⟩
    · unfold f_MO_restores_2
      rw [if_neg c, qw_720, nI_add, nI_clamp (n := 720 * l + j) (by omega), nI_clamp (n := j) (by omega), nI_1]; exact s3
    · unfold p_MO_restores_2
      rw [qw_720, nI_add, nI_clamp (n := 720 * l + j) (by omega), nI_clamp (n := j) (by omega), nI_1]; exact ⟨fun q => absurd q c, fun _ => ⟨v2, v1, s4 h⟩⟩
theorem qm_saves {s R : am_M} {l : Nat} (hl : l < 7) (mb : q_mb s R) : p_MO_saves s (nI l) ∧ ∃ t, f_MO_saves s (nI l) = t ∧ q_out s t (fun a b => (a = 233 ∧ 720 * l ≤ b ∧ b < 720 * l + 720) ∨ (a = 234 ∧ 120 * l ≤ b ∧ b < 120 * l + 120) ∨ (a = 235 ∧ 4 * l ≤ b ∧ b < 4 * l + 4)) ∧ q_mh t l R := by
  obtain ⟨S1, a1, a2, a3, a4⟩ := qsL_2 hl 720 0 am_F s (by omega) (by rw [am_F_eq]; omega)
  obtain ⟨S2, b1, b2, b3, b4⟩ := qsL_35 hl 120 0 am_F S1 (by omega) (by rw [am_F_eq]; omega) (fun p hp => by
    rw [a1 _ _ (by omega), mb.2.1 p hp]
    by_cases c : R 1 p = 0
    · rw [if_pos c]; exact Or.inl rfl
    · rw [if_neg c]; exact Or.inr rfl)
  obtain ⟨p3, S3, c3, c1, c2⟩ := qsL_66 hl 4 0 am_F S2 (by omega) (by rw [am_F_eq]; omega)
  rw [nI_0] at a3 a4 b3 b4 c3 p3
  unfold p_MO_saves f_MO_saves
  refine ⟨a4 ?_, S3, ?_, fun a b hab => ?_, fun u hu => ?_, fun p hp => ?_, fun x hx hh => ?_⟩
  · unfold p_MO_saves_33; exact b4 (by unfold p_MO_saves_64; exact p3)
  · rw [a3]; unfold f_MO_saves_33; rw [b3]; unfold f_MO_saves_64; exact c3
  · rw [c1 a b (by omega), b1 a b (by omega), a1 a b (by omega)]
  · rw [c2 u (by omega) hu, b1 _ _ (by omega), a1 _ _ (by omega)]; exact mb.1 u hu
  · rw [c1 _ _ (by omega), b2 p (by omega) hp, a1 _ _ (by omega)]; exact mb.2.1 p hp
  · rw [c1 _ _ (by omega), b1 _ _ (by omega), a2 x (by omega) hx]; exact mb.2.2 x hx hh
theorem qm_restores {s R : am_M} {l : Nat} (hl : l < 7) (mh : q_mh s l R) : p_MO_restores s (nI l) ∧ ∃ t, f_MO_restores s (nI l) = t ∧ q_out s t (fun a _ => a = 228 ∨ a = 229 ∨ a = 230) ∧ q_mb t R := by
  obtain ⟨S1, a1, a2, a3, a4⟩ := qrL_2 hl 720 0 am_F s (by omega) (by rw [am_F_eq]; omega)
  obtain ⟨S2, b1, b2, b3, b4⟩ := qrL_35 hl 120 0 am_F S1 (by omega) (by rw [am_F_eq]; omega) (fun p hp => by
    rw [a1 _ _ (by omega), mh.2.1 p hp]
    by_cases c : R 1 p = 0
    · rw [if_pos c]; exact Or.inl rfl
    · rw [if_neg c]; exact Or.inr rfl)
  obtain ⟨p3, S3, c3, c1, c2⟩ := qrL_66 hl 4 0 am_F S2 (by omega) (by rw [am_F_eq]; omega)
  rw [nI_0] at a3 a4 b3 b4 c3 p3
  unfold p_MO_restores f_MO_restores
  refine ⟨a4 ?_, S3, ?_, fun a b hab => ?_, fun u hu => ?_, fun p hp => ?_, fun x hx hh => ?_⟩
  · unfold p_MO_restores_33; exact b4 (by unfold p_MO_restores_64; exact p3)
  · rw [a3]; unfold f_MO_restores_33; rw [b3]; unfold f_MO_restores_64; exact c3
  · rw [c1 a b (by omega), b1 a b (by omega), a1 a b (by omega)]
  · rw [c2 u (by omega) hu, b1 _ _ (by omega), a1 _ _ (by omega)]; exact mh.1 u hu
  · rw [c1 _ _ (by omega), b2 p (by omega) hp, a1 _ _ (by omega)]; exact mh.2.1 p hp
  · rw [c1 _ _ (by omega), b1 _ _ (by omega), a2 x (by omega) hx]; exact mh.2.2 x hx hh
end

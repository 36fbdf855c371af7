noncomputable section
-- run: the oldest state ahead is forgotten
theorem qc_fo9 {m0 : Nat} (hm0 : m0 < 6) : ∀ (d i n : Nat) (s : am_M), i + d = 6 → 1 ≤ i → d < n → (∀ u, i ≤ u → u < 6 → ∃ m, m < 6 ∧ s 182 u = nI (183 + 4 * m)) → p_CB_forgetOldest_9 n s (183 + 4 * m0) (nI i) ∧ ∃ t, f_CB_forgetOldest_9 n s (183 + 4 * m0) (nI i) = t ∧ q_out s t (fun a b => a = 182 ∧ b < 6) ∧ (∀ u, i ≤ u → u < 6 → t 182 (u - 1) = s 182 u) ∧ t 182 5 = nI (183 + 4 * m0) ∧ ∀ u, u + 1 < i → t 182 u = s 182 u := by
  intro d
  induction d with
  | zero =>
    intro i n s h1 h0 h2 h3
    obtain ⟨n, rfl⟩ : ∃ k, n = k + 1 := ⟨n - 1, by omega⟩
    have e : i = 6 := by omega
    subst e
    have c : (6 : Int32) ≤ nI 6 := qg_6 (Nat.le_refl _) (by omega)
    have z5 : ((6 : Int32) - (1 : Int32)).toNatClampNeg = 5 := by decide
    have v5 : vp_in ((6 : Int32) - (1 : Int32)) 6 := by
      rw [show (6 : Int32) - (1 : Int32) = nI 5 from q_subI 5 1]; exact vp_in_nI (by omega) (by omega)
    unfold p_CB_forgetOldest_9 f_CB_forgetOldest_9
    rw [if_pos c]
    unfold p_CB_forgetOldest_38 f_CB_forgetOldest_38
    rw [z5]
    exact ⟨⟨fun _ => ⟨(q_bl_a m0 hm0).1, v5, trivial⟩, fun q => absurd c q⟩, _, rfl, fun a b q => am_set_p (by omega), fun u u1 u2 => by omega, am_set_q, fun u hu => am_set_p (by omega)⟩
  | succ d ih =>
    intro i n s h1 h0 h2 h3
    obtain ⟨n, rfl⟩ : ∃ k, n = k + 1 := ⟨n - 1, by omega⟩
    have hi : i < 6 := by omega
    have c : ¬ (6 : Int32) ≤ nI i := ql_6 hi
    have ci : (nI i).toNatClampNeg = i := nI_clamp (by omega)
    have es : nI i - (1 : Int32) = nI (i - 1) := by
      have := q_subI (i - 1) 1
      rw [show i - 1 + 1 = i from by omega] at this; exact this
    have cs : (nI (i - 1)).toNatClampNeg = i - 1 := nI_clamp (by omega)
    obtain ⟨m, m6, hm⟩ := h3 i (by omega) hi
    have cm : (nI (183 + 4 * m)).toNatClampNeg = 183 + 4 * m := nI_clamp (by omega)
    obtain ⟨p1, t, t1, t2, t3, t4, t5⟩ := ih (i + 1) n (am_set s 182 (i - 1) (nI (183 + 4 * m))) (by omega) (by omega) (by omega) (fun u u1 u2 => by rw [am_set_p (by omega)]; exact h3 u (by omega) u2)
    unfold p_CB_forgetOldest_9 f_CB_forgetOldest_9
    rw [if_neg c, es, cs, ci, hm, cm, nI_1 i]
    refine ⟨⟨fun q => absurd q c, fun _ => ⟨vp_in_nI (by omega) (by omega), qz (by omega), (q_bl_a m m6).1, vp_in_nI (by omega) (by omega), p1⟩⟩, t, t1, fun a b q => ?_, fun u u1 u2 => ?_, t4, fun u hu => ?_⟩
    · rw [t2 a b q, am_set_p (by omega)]
    · by_cases e : u = i
      · rw [e, t5 (i - 1) (by omega), am_set_q, hm]
      · rw [t3 u (by omega) u2, am_set_p (by omega)]
    · rw [t5 u (by omega), am_set_p (by omega)]
theorem qc_forget {s : am_M} (ah : q_ah s) : p_CB_forgetOldest s ∧ ∃ t, f_CB_forgetOldest s = t ∧ q_out s t (fun a b => a = 182 ∧ b < 6) ∧ (∀ j, j < 5 → t 182 j = s 182 (j + 1)) ∧ t 182 5 = s 182 0 := by
  have z0 : ((0 : Int32)).toNatClampNeg = 0 := rfl
  obtain ⟨m, m6, hm⟩ := ah.1 0 (by omega)
  have cm : (nI (183 + 4 * m)).toNatClampNeg = 183 + 4 * m := nI_clamp (by omega)
  obtain ⟨p1, t, t1, t2, t3, t4, -⟩ := qc_fo9 m6 5 1 am_F s (by omega) (by omega) (by rw [am_F_eq]; omega) (fun u _ u2 => ah.1 u u2)
  unfold p_CB_forgetOldest f_CB_forgetOldest
  rw [z0, hm, cm]
  refine ⟨⟨vp_in_nI (n := 0) (by decide) (by decide), qz (by omega), (q_bl_a m m6).1, p1⟩, t, t1, t2, fun j hj => ?_, t4⟩
  have := t3 (j + 1) (by omega) (by omega)
  rw [show j + 1 - 1 = j from by omega] at this
  exact this
theorem qm_fg63 : ∀ (d i n : Nat) (s : am_M), i + d = 20 → d < n → p_MO_forgets_63 n s (nI i) ∧ ∃ t, f_MO_forgets_63 n s (nI i) = t ∧ q_out s t (fun a b => (a = 235 ∧ i ≤ b ∧ b < 20) ∨ (a = 207 ∧ b = 38)) ∧ t 207 38 = s 207 38 - 1 ∧ ∀ u, i ≤ u → u < 20 → t 235 u = s 235 (u + 4) := by
  intro d
  induction d with
  | zero =>
    intro i n s h1 h2
    obtain ⟨n, rfl⟩ : ∃ k, n = k + 1 := ⟨n - 1, by omega⟩
    have e : i = 20 := by omega
    subst e
    have c : (20 : Int32) ≤ nI 20 := nI_le (a := 20) (Nat.le_refl _) (by omega)
    unfold p_MO_forgets_63 f_MO_forgets_63
    rw [if_pos c]
    exact ⟨⟨fun _ => trivial, fun q => absurd c q⟩, _, rfl, fun a b q => am_set_p (by omega), am_set_q, fun u u1 u2 => by omega⟩
  | succ d ih =>
    intro i n s h1 h2
    obtain ⟨n, rfl⟩ : ∃ k, n = k + 1 := ⟨n - 1, by omega⟩
    have c : ¬ (20 : Int32) ≤ nI i := nI_ge (b := 20) (by omega) (by decide)
    have ci : (nI i).toNatClampNeg = i := nI_clamp (by omega)
    have c4 : (nI (i + 4)).toNatClampNeg = i + 4 := nI_clamp (by omega)
    obtain ⟨p1, t, t1, t2, t3, t4⟩ := ih (i + 1) n (am_set s 235 i (s 235 (i + 4))) (by omega) (by omega)
    unfold p_MO_forgets_63 f_MO_forgets_63
    rw [if_neg c, qp_4, c4, ci, nI_1 i]
    refine ⟨⟨fun q => absurd q c, fun _ => ⟨vp_in_nI (by omega) (by omega), vp_in_nI (by omega) (by omega), p1⟩⟩, t, t1, fun a b q => ?_, ?_, fun u u1 u2 => ?_⟩
    · rw [t2 a b (by omega), am_set_p (by omega)]
    · rw [t3, am_set_p (by omega)]
    · by_cases e : u = i
      · rw [e, t2 _ _ (by omega), am_set_q]
      · rw [t4 u (by omega) u2, am_set_p (by omega)]
theorem qm_fg33 : ∀ (d i n : Nat) (s : am_M), i + d = 600 → d < n → (∀ u, i ≤ u → u < 600 → s 234 (u + 120) = 0 ∨ s 234 (u + 120) = 1) → ∃ S, q_out s S (fun a b => a = 234 ∧ i ≤ b ∧ b < 600) ∧ (∀ u, i ≤ u → u < 600 → S 234 u = s 234 (u + 120)) ∧ f_MO_forgets_33 n s (nI i) = f_MO_forgets_61 S (nI 600) ∧ (p_MO_forgets_61 S (nI 600) → p_MO_forgets_33 n s (nI i)) := by
  intro d
  induction d with
  | zero =>
    intro i n s h1 h2 h3
    obtain ⟨n, rfl⟩ : ∃ k, n = k + 1 := ⟨n - 1, by omega⟩
    have e : i = 600 := by omega
    subst e
    have c : (600 : Int32) ≤ nI 600 := nI_le (a := 600) (Nat.le_refl _) (by omega)
    unfold p_MO_forgets_33 f_MO_forgets_33
    rw [if_pos c]
    exact ⟨s, fun _ _ _ => rfl, fun u u1 u2 => by omega, rfl, fun h => ⟨fun _ => h, fun q => absurd c q⟩⟩
  | succ d ih =>
    intro i n s h1 h2 h3
    obtain ⟨n, rfl⟩ : ∃ k, n = k + 1 := ⟨n - 1, by omega⟩
    have c : ¬ (600 : Int32) ≤ nI i := nI_ge (b := 600) (by omega) (by decide)
    have ci : (nI i).toNatClampNeg = i := nI_clamp (by omega)
    have c4 : (nI (i + 120)).toNatClampNeg = i + 120 := nI_clamp (by omega)
    obtain ⟨S, s1, s2, s3, s4⟩ := ih (i + 1) n (am_set s 234 i (s 234 (i + 120))) (by omega) (by omega) (fun u u1 u2 => by rw [am_set_p (by omega)]; exact h3 u (by omega) u2)
    unfold p_MO_forgets_33 f_MO_forgets_33
    rw [if_neg c, qp_120, c4, ci, nI_1 i]
    refine ⟨S, fun a b q => ?_, fun u u1 u2 => ?_, s3, fun h => ⟨fun q => absurd q c, fun _ => ⟨vp_in_nI (by omega) (by omega), vp_in_nI (by omega) (by omega), h3 i (by omega) (by omega), s4 h⟩⟩⟩
    · rw [s1 a b (by omega), am_set_p (by omega)]
    · by_cases e : u = i
      · rw [e, s1 _ _ (by omega), am_set_q]
      · rw [s2 u (by omega) u2, am_set_p (by omega)]
theorem qm_fg2 : ∀ (d i n : Nat) (s : am_M), i + d = 3600 → d < n → ∃ S, q_out s S (fun a b => a = 233 ∧ i ≤ b ∧ b < 3600) ∧ (∀ u, i ≤ u → u < 3600 → S 233 u = s 233 (u + 720)) ∧ f_MO_forgets_2 n s (nI i) = f_MO_forgets_31 S (nI 3600) ∧ (p_MO_forgets_31 S (nI 3600) → p_MO_forgets_2 n s (nI i)) := by
  intro d
  induction d with
  | zero =>
    intro i n s h1 h2
    obtain ⟨n, rfl⟩ : ∃ k, n = k + 1 := ⟨n - 1, by omega⟩
    have e : i = 3600 := by omega
    subst e
    have c : (3600 : Int32) ≤ nI 3600 := nI_le (a := 3600) (Nat.le_refl _) (by omega)
    unfold p_MO_forgets_2 f_MO_forgets_2
    rw [if_pos c]
    exact ⟨s, fun _ _ _ => rfl, fun u u1 u2 => by omega, rfl, fun h => ⟨fun _ => h, fun q => absurd c q⟩⟩
  | succ d ih =>
    intro i n s h1 h2
    obtain ⟨n, rfl⟩ : ∃ k, n = k + 1 := ⟨n - 1, by omega⟩
    have c : ¬ (3600 : Int32) ≤ nI i := nI_ge (b := 3600) (by omega) (by decide)
    have ci : (nI i).toNatClampNeg = i := nI_clamp (by omega)
    have c4 : (nI (i + 720)).toNatClampNeg = i + 720 := nI_clamp (by omega)
    obtain ⟨S, s1, s2, s3, s4⟩ := ih (i + 1) n (am_set s 233 i (s 233 (i + 720))) (by omega) (by omega)
    unfold p_MO_forgets_2 f_MO_forgets_2
    rw [if_neg c, qp_720, c4, ci, nI_1 i]
    refine ⟨S, fun a b q => ?_, fun u u1 u2 => ?_, s3, fun h => ⟨fun q => absurd q c, fun _ => ⟨vp_in_nI (by omega) (by omega), vp_in_nI (by omega) (by omega), s4 h⟩⟩⟩
    · rw [s1 a b (by omega), am_set_p (by omega)]
    · by_cases e : u = i
      · rw [e, s1 _ _ (by omega), am_set_q]
      · rw [s2 u (by omega) u2, am_set_p (by omega)]
theorem qm_forget {s : am_M} (h : ∀ u, u < 600 → s 234 (u + 120) = 0 ∨ s 234 (u + 120) = 1) : p_MO_forgets s ∧ ∃ t, f_MO_forgets s = t ∧ q_out s t (fun a b => (a = 233 ∧ b < 3600) ∨ (a = 234 ∧ b < 600) ∨ (a = 235 ∧ b < 20) ∨ (a = 207 ∧ b = 38)) ∧ t 207 38 = s 207 38 - 1 ∧ ∀ j R, j < 5 → q_mh s (j + 1) R → q_mh t j R := by
  obtain ⟨S1, a1, a2, a3, a4⟩ := qm_fg2 3600 0 am_F s (by omega) (by rw [am_F_eq]; omega)
  obtain ⟨S2, b1, b2, b3, b4⟩ := qm_fg33 600 0 am_F S1 (by omega) (by rw [am_F_eq]; omega) (fun u _ u2 => by rw [a1 _ _ (by omega)]; exact h u u2)
  obtain ⟨c1, t, c2, c3, c4, c5⟩ := qm_fg63 20 0 am_F S2 (by omega) (by rw [am_F_eq]; omega)
  rw [nI_0] at a3 a4 b3 b4 c1 c2
  unfold p_MO_forgets f_MO_forgets
  refine ⟨a4 ?_, t, ?_, fun a b q => ?_, ?_, fun j R hj hm => ⟨fun u hu => ?_, fun p hp => ?_, fun x hx hh => ?_⟩⟩
  · unfold p_MO_forgets_31; exact b4 (by unfold p_MO_forgets_61; exact c1)
  · rw [a3]; unfold f_MO_forgets_31; rw [b3]; unfold f_MO_forgets_61; exact c2
  · rw [c3 a b (by omega), b1 a b (by omega), a1 a b (by omega)]
  · rw [c4, b1 _ _ (by omega), a1 _ _ (by omega)]
  · rw [c5 _ (by omega) (by omega), b1 _ _ (by omega), a1 _ _ (by omega), show 4 * j + u + 4 = 4 * (j + 1) + u from by omega]
    exact hm.1 u hu
  · rw [c3 _ _ (by omega), b2 _ (by omega) (by omega), a1 _ _ (by omega), show 120 * j + p + 120 = 120 * (j + 1) + p from by omega]
    exact hm.2.1 p hp
  · rw [c3 _ _ (by omega), b1 _ _ (by omega), a2 _ (by omega) (by omega), show 720 * j + x + 720 = 720 * (j + 1) + x from by omega]
    exact hm.2.2 x hx hh
end

noncomputable section
-- what is wrong with a formula: class and model
theorem q_cc {s u A : am_M} (cd : q_cd s A) (md : q_md u A) (w : q_wd A) (x y : Int32) : (f_CB_wantColumn s x y = 1 ∧ f_MO_isColumn u x y = 0) ∨ ∃ t c, x = nI t ∧ y = nI c ∧ t < q_nt A ∧ t < 4 ∧ c < q_w A t ∧ c < 6 ∧ f_CB_wantColumn s x y = 0 ∧ f_MO_isColumn u x y = 1 ∧ f_CB_wantNotDropped s x y = (if A 209 (6 * t + c) = 3 then 2 else 0) ∧ f_MO_kindOf u x y = A 209 (6 * t + c) ∧ p_MO_kindOf u x y ∧ f_CB_wantLink s x y = (if A 209 (6 * t + c) = 1 then 0 else 2) ∧ s (f_BA_column s x y) 3 = A 212 (6 * t + c) ∧ u 212 ((((6 : Int32) * x) + y)).toNatClampNeg = A 212 (6 * t + c) ∧ vp_in (((6 : Int32) * x) + y) 24 := by
  have h1 := qd_wantC cd w x y
  have h2 := qd_isC md w x y
  rcases q_isC_c w x y with g | ⟨g, t, c, ht, ht4, hc, hc6, rfl, rfl⟩
  · rw [g, if_pos rfl] at h1
    rw [g] at h2
    exact Or.inl ⟨h1, h2⟩
  · rw [g, if_neg i10] at h1
    rw [g] at h2
    have k := qd_kind md w ht4 hc6
    refine Or.inr ⟨t, c, rfl, rfl, ht, ht4, hc, hc6, h1, h2, qd_notD cd w ht hc ht4 hc6, k.2, k.1, qd_link cd ht4 hc6, ?_, ?_, ?_⟩
    · rw [qd_col ht4 hc6]; exact cd.2.2.2 (6 * t + c) 3 (by omega) (by omega) (by omega)
    · rw [qw_6, nI_add, nI_clamp (n := 6 * t + c) (by omega), md.2 212 (by omega) (by omega)]
    · rw [qw_6, nI_add]; exact vp_in_nI (by omega) (by omega)
theorem q_e1 {A : am_M} {t c : Nat} (h1 : t < q_nt A) (h2 : c < q_w A t) (h3 : A 209 (6 * t + c) ≠ 3) : q_ok A t c := ⟨h1, h2, h3⟩
theorem q_pairE {s u A : am_M} (cd : q_cd s A) (md : q_md u A) (w : q_wd A) {T : Nat} (x3 x4 : Int32) : p_CB_wantPair s (nI T) x3 x4 ∧ (p_MO_isColumn u (nI T) x3 ∧ ((((f_MO_isColumn u (nI T) x3) = 0) → True) ∧ (¬ ((f_MO_isColumn u (nI T) x3) = 0) → p_MO_isColumn u (nI T) x4 ∧ ((((f_MO_isColumn u (nI T) x4) = 0) → True) ∧ (¬ ((f_MO_isColumn u (nI T) x4) = 0) → p_MO_kindOf u (nI T) x3 ∧ ((((f_MO_kindOf u (nI T) x3) = (3 : Int32)) → True) ∧ (¬ ((f_MO_kindOf u (nI T) x3) = (3 : Int32)) → p_MO_kindOf u (nI T) x4 ∧ ((((f_MO_kindOf u (nI T) x4) = (3 : Int32)) → True) ∧ (¬ ((f_MO_kindOf u (nI T) x4) = (3 : Int32)) → True))))))))) ∧ ∃ e : Nat, f_CB_wantPair s (nI T) x3 x4 = e ∧ (if (f_MO_isColumn u (nI T) x3) = 0 then (1 : Int32) else (if (f_MO_isColumn u (nI T) x4) = 0 then (1 : Int32) else (if (f_MO_kindOf u (nI T) x3) = (3 : Int32) then (2 : Int32) else (if (f_MO_kindOf u (nI T) x4) = (3 : Int32) then (2 : Int32) else (0 : Int32))))) = nI e ∧ e < 3 ∧ (T < 4 → e = 0 → ∃ a b, x3 = nI a ∧ x4 = nI b ∧ q_ok A T a ∧ q_ok A T b) := by
  refine ⟨⟨qd_pwantC _ _ _, fun _ => ⟨qd_pwantC _ _ _, fun _ => ⟨qd_pnotD _ _ _, fun _ => ⟨qd_pnotD _ _ _, fun _ => trivial⟩⟩⟩⟩, ⟨qd_pisC md w _ _, fun _ => trivial, fun c1 => ⟨qd_pisC md w _ _, fun _ => trivial, fun c2 => ?_⟩⟩, ?_⟩
  · rcases q_cc cd md w (nI T) x3 with ⟨-, b⟩ | ⟨t, c, -, -, -, -, -, -, -, -, -, -, k1, -⟩
    · exact absurd b c1
    rcases q_cc cd md w (nI T) x4 with ⟨-, b⟩ | ⟨t2, c2', -, -, -, -, -, -, -, -, -, -, k2, -⟩
    · exact absurd b c2
    exact ⟨k1, fun _ => trivial, fun _ => ⟨k2, fun _ => trivial, fun _ => trivial⟩⟩
  · unfold f_CB_wantPair
    rcases q_cc cd md w (nI T) x3 with ⟨a, b⟩ | ⟨t, c, et, rfl, ht, ht4, hc, hc6, a, b, n1, k1, -⟩
    · rw [a, b]; exact ⟨1, rfl, rfl, by omega, fun _ q => absurd q (by omega)⟩
    rcases q_cc cd md w (nI T) x4 with ⟨a2, b2⟩ | ⟨t2, c2, et2, rfl, ht2, ht42, hc2, hc62, a2, b2, n2, k2, -⟩
    · rw [a, b, a2, b2]; exact ⟨1, rfl, rfl, by omega, fun _ q => absurd q (by omega)⟩
    rw [a, b, a2, b2, n1, n2, k1, k2, if_pos rfl, if_pos rfl, if_neg i10, if_neg i10]
    by_cases z1 : A 209 (6 * t + c) = 3
    · rw [if_pos z1, if_pos z1]; exact ⟨2, rfl, rfl, by omega, fun _ q => absurd q (by omega)⟩
    by_cases z2 : A 209 (6 * t2 + c2) = 3
    · rw [if_neg z1, if_neg z1, if_pos z2, if_pos z2]; exact ⟨2, rfl, rfl, by omega, fun _ q => absurd q (by omega)⟩
    rw [if_neg z1, if_neg z1, if_neg z2, if_neg z2]
    refine ⟨0, rfl, rfl, by omega, fun h4 _ => ⟨c, c2, rfl, rfl, ?_, ?_⟩⟩
    · have : T = t := (nI_eq (by omega) (by omega)).mp et
      rw [this]; exact ⟨ht, hc, z1⟩
    · have : T = t2 := (nI_eq (by omega) (by omega)).mp et2
      rw [this]; exact ⟨ht2, hc2, z2⟩
end

noncomputable section
-- what is wrong with a formula: class and model
theorem q_cc {s u A : am_M} (cd : q_cd s A) (md : q_md u A) (w : q_wd A) (x y : Int32) : (f_CB_wantColumn s x y = 1 ∧ f_MO_isColumn u x y = 0) ∨ ∃ t c, x = nI t ∧ y = nI c ∧ t < q_nt A ∧ t < 4 ∧ c < q_w A t ∧ c < 6 ∧ f_CB_wantColumn s x y = 0 ∧ f_MO_isColumn u x y = 1 ∧ f_CB_wantNotDropped s x y = (if A 209 (6 * t + c) = 3 then 2 else 0) ∧ f_MO_kindOf u x y = A 209 (6 * t + c) ∧ p_MO_kindOf u x y ∧ f_CB_wantLink s x y = (if A 209 (6 * t + c) = 1 then 0 else 2) ∧ s (f_BA_column s x y) 3 = A 212 (6 * t + c) ∧ u 212 ((((6 : Int32) * x) + y)).toNatClampNeg = A 212 (6 * t + c) ∧ vp_in (((6 : Int32) * x) + y) 24 := by
  have h1 := qd_wantC cd w x y
  have h2 := qd_isC md w x y
  rcases q_isC_c w x y with g | ⟨g, t, c, ht, ht4, hc, hc6, rfl, rfl⟩
  · rw [g, if_pos rfl] at h1
    rw [g] at h2
    exact Or.inl ⟨h1, h2⟩
  · rw [g, if_neg i10] at h1
    rw [g] at h2
    have k := qd_kind md w ht4 hc6
    refine Or.inr ⟨t, c, rfl, rfl, ht, ht4, hc, hc6, h1, h2, qd_notD cd w ht hc ht4 hc6, k.2, k.1, qd_link cd ht4 hc6, ?_, ?_, ?_⟩
    · rw [qd_col ht4 hc6]; exact cd.2.2.2 (6 * t + c) 3 (by omega) (by omega) (by omega)
    · rw [qw_6, nI_add, nI_clamp (n := 6 * t + c) (by omega), md.2 212 (by omega) (by omega)]
    · rw [qw_6, nI_add]; exact vp_in_nI (by omega) (by omega)
theorem q_e1 {A : am_M} {t c : Nat} (h1 : t < q_nt A) (h2 : c < q_w A t) (h3 : A 209 (6 * t + c) ≠ 3) : q_ok A t c := ⟨h1, h2, h3⟩
theorem q_pairE {s u A : am_M} (cd : q_cd s A) (md : q_md u A) (w : q_wd A) {T : Nat} (x3 x4 : Int32) : p_CB_wantPair s (nI T) x3 x4 ∧ (p_MO_isColumn u (nI T) x3 ∧ ((((f_MO_isColumn u (nI T) x3) = 0) → True) ∧ (¬ ((f_MO_isColumn u (nI T) x3) = 0) → p_MO_isColumn u (nI T) x4 ∧ ((((f_MO_isColumn u (nI T) x4) = 0) → True) ∧ (¬ ((f_MO_isColumn u (nI T) x4) = 0) → p_MO_kindOf u (nI T) x3 ∧ ((((f_MO_kindOf u (nI T) x3) = (3 : Int32)) → True) ∧ (¬ ((f_MO_kindOf u (nI T) x3) = (3 : Int32)) → p_MO_kindOf u (nI T) x4 ∧ ((((f_MO_kindOf u (nI T) x4) = (3 : Int32)) → True) ∧ (¬ ((f_MO_kindOf u (nI T) x4) = (3 : Int32)) → True))))))))) ∧ ∃ e : Nat, f_CB_wantPair s (nI T) x3 x4 = e ∧ (if (f_MO_isColumn u (nI T) x3) = 0 then (1 : Int32) else (if (f_MO_isColumn u (nI T) x4) = 0 then (1 : Int32) else (if (f_MO_kindOf u (nI T) x3) = (3 : Int32) then (2 : Int32) else (if (f_MO_kindOf u (nI T) x4) = (3 : Int32) then (2 : Int32) else (0 : Int32))))) = nI e ∧ e < 3 ∧ (T < 4 → e = 0 → ∃ a b, x3 = nI a ∧ x4 = nI b ∧ q_ok A T a ∧ q_ok A T b) := by
  refine ⟨⟨qd_pwantC _ _ _, fun _ => ⟨qd_pwantC _ _ _, fun _ => ⟨qd_pnotD _ _ _, fun _ => ⟨qd_pnotD _ _ _, fun _ => trivial⟩⟩⟩⟩, ⟨qd_pisC md w _ _, fun _ => trivial, fun c1 => ⟨qd_pisC md w _ _, fun _ => trivial, fun c2 => ?_⟩⟩, ?_⟩
  · rcases q_cc cd md w (nI T) x3 with ⟨-, b⟩ | ⟨t, c, -, -, -, -, -, -, -, -, -, -, k1, -⟩
    · exact absurd b c1
    rcases q_cc cd md w (nI T) x4 with ⟨-, b⟩ | ⟨t2, c2', -, -, -, -, -, -, -, -, -, -, k2, -⟩
    · exact absurd b c2
    exact ⟨k1, fun _ => trivial, fun _ => ⟨k2, fun _ => trivial, fun _ => trivial⟩⟩
  · unfold f_CB_wantPair
    rcases q_cc cd md w (nI T) x3 with ⟨a, b⟩ | ⟨t, c, et, rfl, ht, ht4, hc, hc6, a, b, n1, k1, -⟩
    · rw [a, b]; exact ⟨1, rfl, rfl, by omega, fun _ q => absurd q (by omega)⟩
    rcases q_cc cd md w (nI T) x4 with ⟨a2, b2⟩ | ⟨t2, c2, et2, rfl, ht2, ht42, hc2, hc62, a2, b2, n2, k2, -⟩
    · rw [a, b, a2, b2]; exact ⟨1, rfl, rfl, by omega, fun _ q => absurd q (by omega)⟩
    rw [a, b, a2, b2, n1, n2, k1, k2, if_pos rfl, if_pos rfl, if_neg i10, if_neg i10]
    by_cases z1 : A 209 (6 * t + c) = 3
    · rw [if_pos z1, if_pos z1]; exact ⟨2, rfl, rfl, by omega, fun _ q => absurd q (by omega)⟩
    by_cases z2 : A 209 (6 * t2 + c2) = 3
    · rw [if_neg z1, if_neg z1, if_pos z2, if_pos z2]; exact ⟨2, rfl, rfl, by omega, fun _ q => absurd q (by omega)⟩
    rw [if_neg z1, if_neg z1, if_neg z2, if_neg z2]
    refine ⟨0, rfl, rfl, by omega, fun h4 _ => ⟨c, c2, rfl, rfl, ?_, ?_⟩⟩
    · have : T = t := (nI_eq (by omega) (by omega)).mp et
      rw [this]; exact ⟨ht, hc, z1⟩
    · have : T = t2 := (nI_eq (by omega) (by omega)).mp et2
      rw [this]; exact ⟨ht2, hc2, z2⟩
theorem q_lookE {s u A : am_M} (cd : q_cd s A) (md : q_md u A) (w : q_wd A) {T : Nat} (x3 x4 : Int32) : p_CB_wantLook s (nI T) x3 x4 ∧ (p_MO_isColumn u (nI T) x3 ∧ ((((f_MO_isColumn u (nI T) x3) = 0) → True) ∧ (¬ ((f_MO_isColumn u (nI T) x3) = 0) → p_MO_kindOf u (nI T) x3 ∧ ((((f_MO_kindOf u (nI T) x3) = (1 : Int32)) → vp_in (((6 : Int32) * (nI T)) + x3) 24 ∧ (p_MO_errorOfTaken u (u 212 ((((6 : Int32) * (nI T)) + x3)).toNatClampNeg) x4 ∧ (True))) ∧ (¬ ((f_MO_kindOf u (nI T) x3) = (1 : Int32)) → True))))) ∧ ∃ e : Nat, f_CB_wantLook s (nI T) x3 x4 = e ∧ (if (f_MO_isColumn u (nI T) x3) = 0 then (1 : Int32) else (if (f_MO_kindOf u (nI T) x3) = (1 : Int32) then (f_MO_errorOfTaken u (u 212 ((((6 : Int32) * (nI T)) + x3)).toNatClampNeg) x4) else (2 : Int32))) = nI e ∧ e < 3 ∧ (T < 4 → e = 0 → ∃ a b, x3 = nI a ∧ x4 = nI b ∧ q_ok A T a ∧ A 209 (6 * T + a) = 1 ∧ q_ok A (q_tg A (6 * T + a)) b) := by
  rcases q_cc cd md w (nI T) x3 with ⟨a, b⟩ | ⟨t, c, et, rfl, ht, ht4, hc, hc6, a, b, n1, k1, pk, lk, f3, m3, v3⟩
  · refine ⟨⟨qd_pwantC _ _ _, fun q => absurd q (by rw [a]; decide)⟩, ⟨qd_pisC md w _ _, fun _ => trivial, fun q => absurd b q⟩, ?_⟩
    unfold f_CB_wantLook
    rw [a, b]; exact ⟨1, rfl, rfl, by omega, fun _ q => absurd q (by omega)⟩
  by_cases z : A 209 (6 * t + c) = 1
  rotate_left
  · rw [if_neg z] at lk
    refine ⟨⟨qd_pwantC _ _ _, fun _ => ⟨qd_plink _ _ _, fun q => absurd q (by rw [lk]; decide)⟩⟩, ⟨qd_pisC md w _ _, fun _ => trivial, fun _ => ⟨pk, fun q => absurd (k1.symm.trans q) z, fun _ => trivial⟩⟩, ?_⟩
    unfold f_CB_wantLook
    rw [a, b, lk, k1, if_neg i10, if_neg z]; exact ⟨2, rfl, rfl, by omega, fun _ q => absurd q (by omega)⟩
  rw [if_pos z] at lk
  obtain ⟨g1, g2⟩ := w.2.2.2.1 (6 * t + c) (by omega) z
  have pT : p_MO_errorOfTaken u (nI (q_tg A (6 * t + c))) x4 := by
    refine ⟨qd_pisC md w _ _, fun _ => trivial, fun q => ?_⟩
    rcases q_cc cd md w (nI (q_tg A (6 * t + c))) x4 with ⟨-, b2⟩ | ⟨t2, c2, -, -, -, -, -, -, -, -, -, -, pk2, -⟩
    · exact absurd b2 q
    · exact ⟨pk2, fun _ => trivial, fun _ => trivial⟩
  have hk : 6 * t + c < 24 := by omega
  refine ⟨⟨qd_pwantC _ _ _, fun _ => ⟨qd_plink _ _ _, fun _ => ⟨qd_pcol _ _ _, qd_ref _ _ _, qd_pwantC _ _ _, fun _ => ⟨qd_pnotD _ _ _, fun _ => trivial⟩⟩⟩⟩, ⟨qd_pisC md w _ _, fun _ => trivial, fun _ => ⟨pk, fun _ => ⟨v3, by rw [m3, g1]; exact pT, trivial⟩, fun _ => trivial⟩⟩, ?_⟩
  unfold f_CB_wantLook f_MO_errorOfTaken
  rw [a, b, lk, k1, f3, m3, g1, if_neg i10, if_pos z, if_pos rfl, if_pos rfl]
  rcases q_cc cd md w (nI (q_tg A (6 * t + c))) x4 with ⟨a2, b2⟩ | ⟨t2, c2, et2, rfl, ht2, ht42, hc2, hc62, a2, b2, n2, k2, -⟩
  · rw [a2, b2]; exact ⟨1, rfl, rfl, by omega, fun _ q => absurd q (by omega)⟩
  rw [a2, b2, n2, k2, if_neg i10, if_pos rfl]
  by_cases z2 : A 209 (6 * t2 + c2) = 3
  · rw [if_pos z2, if_pos z2]; exact ⟨2, rfl, rfl, by omega, fun _ q => absurd q (by omega)⟩
  rw [if_neg z2, if_neg z2]
  have w4 := w.1.2
  refine ⟨0, rfl, rfl, by omega, fun h4 _ => ⟨c, c2, rfl, rfl, ?_⟩⟩
  have e1 : T = t := (nI_eq (by omega) (by omega)).mp et
  have e2 : q_tg A (6 * t + c) = t2 := (nI_eq (by omega) (by omega)).mp et2
  rw [e1, e2]
  exact ⟨⟨ht, hc, by rw [z]; decide⟩, z, ht2, hc2, z2⟩
theorem q_gathE {s u A : am_M} (cd : q_cd s A) (md : q_md u A) (w : q_wd A) {T : Nat} (x2 x3 x4 x5 : Int32) : p_CB_wantGathering s (nI T) x2 x3 x4 x5 ∧ (p_MO_isColumn u x5 x3 ∧ ((((f_MO_isColumn u x5 x3) = 0) → True) ∧ (¬ ((f_MO_isColumn u x5 x3) = 0) → ((x2 = (3 : Int32)) → p_MO_isColumn u x5 x4 ∧ ((((f_MO_isColumn u x5 x4) = 0) → True) ∧ (¬ ((f_MO_isColumn u x5 x4) = 0) → (p_MO_errorOfFormula_144 u (nI T) x2 x3 x4 x5)))) ∧ (¬ (x2 = (3 : Int32)) → (p_MO_errorOfFormula_144 u (nI T) x2 x3 x4 x5))))) ∧ ∃ e : Nat, f_CB_wantGathering s (nI T) x2 x3 x4 x5 = e ∧ (if (f_MO_isColumn u x5 x3) = 0 then (1 : Int32) else (if x2 = (3 : Int32) then (if (f_MO_isColumn u x5 x4) = 0 then (1 : Int32) else (f_MO_errorOfFormula_144 u (nI T) x2 x3 x4 x5)) else (f_MO_errorOfFormula_144 u (nI T) x2 x3 x4 x5))) = nI e ∧ e < 3 ∧ (T < 4 → e = 0 → ∃ o a, x5 = nI o ∧ x3 = nI a ∧ q_ok A o a ∧ A 209 (6 * o + a) = 1 ∧ q_tg A (6 * o + a) = T ∧ (x2 = 3 → ∃ b, x4 = nI b ∧ q_ok A o b)) := by
  rcases q_cc cd md w x5 x3 with ⟨a, b⟩ | ⟨t, c, rfl, rfl, ht, ht4, hc, hc6, a, b, n1, k1, pk, lk, f3, m3, v3⟩
  · refine ⟨⟨qd_pwantC _ _ _, fun q => absurd q (by rw [a]; decide)⟩, ⟨qd_pisC md w _ _, fun _ => trivial, fun q => absurd b q⟩, ?_⟩
    unfold f_CB_wantGathering
    rw [a, b]; exact ⟨1, rfl, rfl, by omega, fun _ q => absurd q (by omega)⟩
  have h144 : (x2 = 3 → f_MO_isColumn u (nI t) x4 ≠ 0) → p_MO_errorOfFormula_144 u (nI T) x2 (nI c) x4 (nI t) := fun hx => by
    have p176 : ∀ y : Int32, p_MO_errorOfFormula_176 u (nI T) x2 (nI c) x4 (nI t) y := fun y => ⟨fun _ => trivial, fun _ => ⟨fun e3 => by
      rcases q_cc cd md w (nI t) x4 with ⟨-, b2⟩ | ⟨t2, c2, -, -, -, -, -, -, -, -, -, -, pk2, -⟩
      · exact absurd b2 (hx e3)
      · exact ⟨pk2, fun _ => trivial, fun _ => trivial⟩, fun _ => trivial⟩⟩
    exact ⟨pk, fun _ => ⟨v3, fun _ => p176 1, fun _ => p176 0⟩, fun _ => p176 0⟩
  have p20 : p_CB_wantGathering_20 s (nI T) x2 (nI c) x4 (nI t) := by
    refine ⟨⟨qd_plink _ _ _, fun _ => ⟨qd_pcol _ _ _, qd_ref _ _ _, fun _ => trivial, fun _ => trivial⟩⟩, fun _ => ⟨fun _ => ⟨qd_pnotD _ _ _, fun _ => trivial⟩, fun _ => trivial⟩⟩
  refine ⟨⟨qd_pwantC _ _ _, fun _ => ⟨fun _ => ⟨qd_pwantC _ _ _, fun _ => p20⟩, fun _ => p20⟩⟩, ⟨qd_pisC md w _ _, fun _ => trivial, fun _ => ⟨fun _ => ⟨qd_pisC md w _ _, fun _ => trivial, fun q => h144 (fun _ => q)⟩, fun q => h144 (fun z => absurd z q)⟩⟩, ?_⟩
  -- the link
  have hlink : f_CB_wantLinkTo s (nI t) (nI c) (nI T) = if A 209 (6 * t + c) = 1 ∧ A 212 (6 * t + c) = nI T then 0 else 2 := by
    unfold f_CB_wantLinkTo
    rw [lk, f3]
    by_cases z : A 209 (6 * t + c) = 1
    · rw [if_pos z, if_pos rfl]
      by_cases z2 : A 212 (6 * t + c) = nI T
      · rw [if_pos z2, if_pos ⟨z, z2⟩]
      · rw [if_neg z2, if_neg (fun q => z2 q.2)]
    · rw [if_neg z, if_neg (show ¬ (2 : Nat) = 0 by decide), if_neg (fun q => z q.1)]
  have hm : f_MO_errorOfFormula_144 u (nI T) x2 (nI c) x4 (nI t) = if A 209 (6 * t + c) = 1 ∧ A 212 (6 * t + c) = nI T then (if x2 = (3 : Int32) then (if (f_MO_kindOf u (nI t) x4) = (3 : Int32) then (2 : Int32) else (0 : Int32)) else (0 : Int32)) else 2 := by
    unfold f_MO_errorOfFormula_144 f_MO_errorOfFormula_175 f_MO_errorOfFormula_176
    rw [k1, m3, if_neg i10, if_pos rfl]
    by_cases z : A 209 (6 * t + c) = 1
    · rw [if_pos z]
      by_cases z2 : A 212 (6 * t + c) = nI T
      · rw [if_pos z2, if_pos (show A 209 (6 * t + c) = 1 ∧ A 212 (6 * t + c) = nI T from ⟨z, z2⟩)]
      · rw [if_neg z2, if_neg (show ¬ (A 209 (6 * t + c) = 1 ∧ A 212 (6 * t + c) = nI T) from fun q => z2 q.2)]
    · rw [if_neg z, if_neg (show ¬ (A 209 (6 * t + c) = 1 ∧ A 212 (6 * t + c) = nI T) from fun q => z q.1)]
  unfold f_CB_wantGathering f_CB_wantGathering_20
  rw [a, b, hlink, hm, if_pos rfl, if_neg i10]
  have w4 := w.1.2
  have fin : A 209 (6 * t + c) = 1 ∧ A 212 (6 * t + c) = nI T → T < 4 → q_ok A t c ∧ A 209 (6 * t + c) = 1 ∧ q_tg A (6 * t + c) = T := fun q h4 => by
    obtain ⟨g1, g2⟩ := w.2.2.2.1 (6 * t + c) (by omega) q.1
    exact ⟨⟨ht, hc, by rw [q.1]; decide⟩, q.1, (nI_eq (by omega) (by omega)).mp (g1.symm.trans q.2)⟩
  by_cases e3 : x2 = (3 : Int32)
  rotate_left
  · rw [if_neg e3, if_neg e3, if_neg e3, if_neg e3]
    by_cases z : A 209 (6 * t + c) = 1 ∧ A 212 (6 * t + c) = nI T
    · rw [if_pos z, if_pos z]
      refine ⟨0, rfl, rfl, by omega, fun h4 _ => ⟨t, c, rfl, rfl, (fin z h4).1, (fin z h4).2.1, (fin z h4).2.2, fun q => absurd q e3⟩⟩
    · rw [if_neg z, if_neg z]; exact ⟨2, rfl, rfl, by omega, fun _ q => absurd q (by omega)⟩
  rw [if_pos e3, if_pos e3, if_pos e3, if_pos e3]
  rcases q_cc cd md w (nI t) x4 with ⟨a2, b2⟩ | ⟨t2, c2, et2, rfl, ht2, ht42, hc2, hc62, a2, b2, n2, k2, -⟩
  · rw [a2, b2]; exact ⟨1, rfl, rfl, by omega, fun _ q => absurd q (by omega)⟩
  rw [a2, b2, n2, k2, if_neg i10, if_pos rfl]
  by_cases z : A 209 (6 * t + c) = 1 ∧ A 212 (6 * t + c) = nI T
  · rw [if_pos z, if_pos z, if_pos rfl]
    by_cases z2 : A 209 (6 * t2 + c2) = 3
    · rw [if_pos z2, if_pos z2]; exact ⟨2, rfl, rfl, by omega, fun _ q => absurd q (by omega)⟩
    rw [if_neg z2, if_neg z2]
    have e2 : t = t2 := (nI_eq (by omega) (by omega)).mp et2
    refine ⟨0, rfl, rfl, by omega, fun h4 _ => ⟨t, c, rfl, rfl, (fin z h4).1, (fin z h4).2.1, (fin z h4).2.2, fun _ => ⟨c2, rfl, by rw [e2]; exact ⟨ht2, hc2, z2⟩⟩⟩⟩
  · rw [if_neg z, if_neg z]; exact ⟨2, rfl, rfl, by omega, fun _ q => absurd q (by omega)⟩
end

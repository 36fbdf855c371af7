noncomputable section
-- reckonAnew: class and model alike
theorem q_mra {u A : am_M} (md : q_md u A) (w : q_wd A) {T C k : Nat} (g : q_isC A (nI T) (nI C) = 1) (hkk : 6 * T + C = k) (hk : k < 24) (x3 x4 x5 x6 : Int32) (pE : p_MO_errorOfFormula u (nI T) x3 x4 x5 x6) {e : Int32} (hE : f_MO_errorOfFormula u (nI T) x3 x4 x5 x6 = e) : (e ≠ 0 ∨ A 209 k ≠ 2 → p_MO_reckonAnew u (nI T) (nI C) x3 x4 x5 x6 ∧ f_MO_reckonAnew u (nI T) (nI C) x3 x4 x5 x6 = (0, am_set u 207 0 (if e = 0 then 2 else e))) ∧ (e = 0 → A 209 k = 2 → f_MO_reckonAnew u (nI T) (nI C) x3 x4 x5 x6 = f_MO_reckonAnew_71 u (nI T) (nI C) x3 x4 x5 x6 1 0 (nI k) 0 ∧ (p_MO_reckonAnew_71 u (nI T) (nI C) x3 x4 x5 x6 1 0 (nI k) 0 → p_MO_reckonAnew u (nI T) (nI C) x3 x4 x5 x6)) := by
  have ix : (6 : Int32) * nI T + nI C = nI k := by rw [qw_6, nI_add, hkk]
  have hI := qd_isC md w (nI T) (nI C)
  rw [g] at hI
  have e9 : u 209 (nI k).toNatClampNeg = A 209 k := by rw [nI_clamp (n := k) (by omega), md.2 209 (by omega) (by omega)]
  have hv : vp_in (nI k) 24 := vp_in_nI hk (by omega)
  have p71 : ∀ (x8 y : Int32), y ≠ 0 → p_MO_reckonAnew_71 u (nI T) (nI C) x3 x4 x5 x6 1 x8 (nI k) y ∧ f_MO_reckonAnew_71 u (nI T) (nI C) x3 x4 x5 x6 1 x8 (nI k) y = (0, am_set u 207 0 y) := fun x8 y hy => by
    unfold p_MO_reckonAnew_71 f_MO_reckonAnew_71
    rw [pr_holds1 u hy]
    exact ⟨⟨fun _ => trivial, fun q => absurd rfl q⟩, rfl⟩
  unfold p_MO_reckonAnew f_MO_reckonAnew p_MO_reckonAnew_29 f_MO_reckonAnew_29 p_MO_reckonAnew_46 f_MO_reckonAnew_46 p_MO_reckonAnew_69 f_MO_reckonAnew_69
  rw [hI, if_neg i10, if_neg i10, hE, ix, e9]
  constructor
  · intro q
    by_cases z : e = 0
    · have n2 := q.resolve_left (fun y => y z)
      have h := p71 e 2 (by decide)
      rw [if_pos z, if_neg n2, if_pos z]
      exact ⟨⟨qd_pisC md w _ _, fun y => absurd y i10, fun _ => ⟨pE, fun y => absurd y i10, fun _ => ⟨fun _ => ⟨hv, fun y => absurd y n2, fun _ => h.1⟩, fun y => absurd z y⟩⟩⟩, h.2⟩
    · have h := p71 e e z
      rw [if_neg z, if_neg z]
      exact ⟨⟨qd_pisC md w _ _, fun y => absurd y i10, fun _ => ⟨pE, fun y => absurd y i10, fun _ => ⟨fun y => absurd y z, fun _ => h.1⟩⟩⟩, h.2⟩
  · intro z n2
    rw [if_pos z, if_pos n2]
    subst z
    exact ⟨rfl, fun hp => ⟨qd_pisC md w _ _, fun y => absurd y i10, fun _ => ⟨pE, fun y => absurd y i10, fun _ => ⟨fun _ => ⟨hv, fun _ => hp, fun y => absurd n2 y⟩, fun y => absurd rfl y⟩⟩⟩⟩
end

noncomputable section
theorem pr_lt4 {k : Nat} (hk : k ≤ 4) : nI k < (4 : Int32) ↔ k < 4 := nI_ltI (b := 4) (by omega) (by omega)
theorem pr_eq4 {k : Nat} (hk : k ≤ 4) : nI k = (4 : Int32) ↔ k = 4 := nI_eq (b := 4) (by omega) (by omega)
theorem op_addAct_ok {c d : Nat} (hcd : c ≤ d) : op_addAct (pu_R c) (pu_R d) := by
  intro s h
  replace h := h.mono hcd
  obtain ⟨k, hk, e1, e2⟩ := h.nact
  by_cases c : k < 4
  · have c1 : s 0 5 < (4 : Int32) := by rw [e1]; exact (pr_lt4 hk).mpr c
    have hC : f_CB_addAct s = (0, nI k, am_set s 0 5 (nI (k + 1))) := by unfold f_CB_addAct; rw [if_pos c1, e1, nI_1]
    have hL : f_LA_addAct s = (0, am_set (am_set s 0 5 (nI (k + 1))) 262 ((0 : Int32)).toNatClampNeg (nI k)) := by unfold f_LA_addAct; rw [hC]; rfl
    have hm : ∀ t : am_M, t 207 60 = nI k → f_MO_addAct t = (nI k, am_set (am_set t 207 0 0) 207 60 (nI (k + 1))) := fun t ht => by
      unfold f_MO_addAct
      rw [if_neg (by rw [ht, pr_eq4 hk]; omega)]
      unfold f_MO_addAct_14
      rw [pr_holds0]
      show ((am_set (am_set t 207 0 0) 207 60 (am_set t 207 0 0 207 60 + 1) 207 60 - 1 : Int32), am_set (am_set t 207 0 0) 207 60 (am_set t 207 0 0 207 60 + 1)) = _
      have e3 : am_set t 207 0 0 207 60 = nI k := by rw [am_set_p (Or.inr (by decide))]; exact ht
      rw [e3, am_set_q, nI_1, nI_pred]
    rw [hL]
    refine ⟨?_, ?_⟩
    · unfold p_LA_addAct
      rw [hC]
      exact ⟨Or.inl rfl, fun _ => ⟨vp_in_nI (n := 0) (by decide) (by decide), trivial⟩, fun _ => trivial⟩
    · show pu_I (pu_R d) 0 (f_MO_addAct (am_set (am_set s 0 5 (nI (k + 1))) 262 ((0 : Int32)).toNatClampNeg (nI k)))
      rw [hm _ (by rw [am_set_p (Or.inl (by decide)), am_set_p (Or.inl (by decide))]; exact e2)]
      refine ⟨?_, fun _ => ?_, ?_⟩
      · unfold f_MO_thrown
        simp [am_set, upd]
      · simp [am_set, upd]
      · refine pu_keep0 (J := [0, 4]) h (pu_fr_set (by simp [pu_own]) (pu_fr_set (by simp [pu_own]) (pu_fr_set (by simp [pu_own]) (pu_fr_set (by simp [pu_own]) pu_fr_0)))) (fun i e => ?_) rfl
        have e : i = 0 ∨ i = 4 := by simpa using e
        rcases e with rfl | rfl
        · exact trivial
        · refine ⟨k + 1, by omega, ?_, ?_⟩ <;> simp [am_set, upd]
  · have k4 : k = 4 := by omega
    subst k4
    have c1 : ¬ s 0 5 < (4 : Int32) := by rw [e1]; decide
    have hC : f_CB_addAct s = (3, 0, s) := by unfold f_CB_addAct; rw [if_neg c1]
    have hL : f_LA_addAct s = (1, s) := by unfold f_LA_addAct; rw [hC]; rfl
    have hm : f_MO_addAct s = (0, am_set s 207 0 1) := by
      unfold f_MO_addAct
      rw [if_pos (by rw [e2]; rfl)]
      unfold f_MO_addAct_14
      rw [pr_holds1 s (by decide)]; rfl
    rw [hL]
    refine ⟨?_, ?_⟩
    · unfold p_LA_addAct
      rw [hC]
      exact ⟨Or.inr rfl, fun q => absurd q (show ¬ (3 : Nat) = 0 by decide), fun _ => trivial⟩
    · show pu_I (pu_R d) 1 (f_MO_addAct s)
      rw [hm]
      exact ⟨by unfold f_MO_thrown; show am_set s 207 0 1 207 0 = 1; exact am_set_q, fun q => absurd q (by decide), pu_R_thrown h⟩
end

noncomputable section
theorem op_addTable_ok : op_addTable pu_R := by
  intro s h
  obtain ⟨k, hk, e1, e2⟩ := h.ntab
  by_cases c : k < 4
  · have c1 : s 1 3 < (4 : Int32) := by rw [e1]; exact (pr_lt4 hk).mpr c
    have hC : f_CB_addTable s = (0, nI k, am_set (am_set s 0 7 0) 1 3 (nI (k + 1))) := by
      unfold f_CB_addTable f_CB_forgetActs
      rw [if_pos c1, am_set_p (Or.inl (by decide)), e1, nI_1]
    have hL : f_LA_addTable s = (0, am_set (am_set (am_set s 0 7 0) 1 3 (nI (k + 1))) 262 ((0 : Int32)).toNatClampNeg (nI k)) := by unfold f_LA_addTable; rw [hC]; rfl
    have hm : ∀ t : am_M, t 207 1 = nI k → f_MO_addTable t = (nI k, am_set (am_set (am_set t 207 0 0) 207 1 (nI (k + 1))) 207 38 0) := fun t ht => by
      unfold f_MO_addTable
      rw [if_neg (by rw [ht, pr_eq4 hk]; omega)]
      unfold f_MO_addTable_14
      rw [pr_holds0]
      show ((am_set (am_set (am_set t 207 0 0) 207 1 (am_set t 207 0 0 207 1 + 1)) 207 38 0 207 1 - 1 : Int32), am_set (am_set (am_set t 207 0 0) 207 1 (am_set t 207 0 0 207 1 + 1)) 207 38 0) = _
      have e3 : am_set t 207 0 0 207 1 = nI k := by rw [am_set_p (Or.inr (by decide))]; exact ht
      have e4 : ∀ x : Int32, am_set (am_set (am_set t 207 0 0) 207 1 x) 207 38 0 207 1 = x := fun x => by rw [am_set_p (Or.inr (by decide)), am_set_q]
      rw [e3, e4, nI_1, nI_pred]
    rw [hL]
    refine ⟨?_, ?_⟩
    · unfold p_LA_addTable
      rw [hC]
      exact ⟨Or.inl rfl, fun _ => ⟨vp_in_nI (n := 0) (by decide) (by decide), trivial⟩, fun _ => trivial⟩
    · show pu_I pu_R 0 (f_MO_addTable (am_set (am_set (am_set s 0 7 0) 1 3 (nI (k + 1))) 262 ((0 : Int32)).toNatClampNeg (nI k)))
      rw [hm _ (by rw [am_set_p (Or.inl (by decide)), am_set_p (Or.inl (by decide)), am_set_p (Or.inl (by decide))]; exact e2)]
      refine ⟨?_, fun _ => ?_, ?_⟩
      · unfold f_MO_thrown
        simp [am_set, upd]
      · simp [am_set, upd]
      · refine pu_keep (J := fun i => i = 0 ∨ i = 2 ∨ i = 5) h (pu_fr_set (Or.inr (Or.inl rfl)) (pu_fr_set (Or.inr (Or.inr rfl)) (pu_fr_set (Or.inl rfl) (pu_fr_set (Or.inl rfl) (pu_fr_set (Or.inr (Or.inr rfl)) (pu_fr_set (Or.inr (Or.inl rfl)) pu_fr_0)))))) (fun i e => ?_)
        rcases e with rfl | rfl | rfl
        · exact trivial
        · refine ⟨0, by omega, ?_, ?_⟩ <;> simp [am_set, upd, nI_0]
        · refine ⟨k + 1, by omega, ?_, ?_⟩ <;> simp [am_set, upd]
  · have k4 : k = 4 := by omega
    subst k4
    have c1 : ¬ s 1 3 < (4 : Int32) := by rw [e1]; decide
    have hC : f_CB_addTable s = (3, 0, s) := by unfold f_CB_addTable; rw [if_neg c1]
    have hL : f_LA_addTable s = (1, s) := by unfold f_LA_addTable; rw [hC]; rfl
    have hm : f_MO_addTable s = (0, am_set s 207 0 1) := by
      unfold f_MO_addTable
      rw [if_pos (by rw [e2]; rfl)]
      unfold f_MO_addTable_14
      rw [pr_holds1 s (by decide)]; rfl
    rw [hL]
    refine ⟨?_, ?_⟩
    · unfold p_LA_addTable
      rw [hC]
      exact ⟨Or.inr rfl, fun q => absurd q (show ¬ (3 : Nat) = 0 by decide), fun _ => trivial⟩
    · show pu_I pu_R 1 (f_MO_addTable s)
      rw [hm]
      exact ⟨by unfold f_MO_thrown; show am_set s 207 0 1 207 0 = 1; exact am_set_q, fun q => absurd q (by decide), pu_R_thrown h⟩
end

noncomputable section
-- undo
theorem q_bl_a : ∀ m, m < 6 → q_bl (183 + 4 * m) (184 + 4 * m) (185 + 4 * m) (186 + 4 * m) := by unfold q_bl; decide +kernel
theorem pu_fr_o {J : Nat → Prop} {s t : am_M} {P : Nat → Nat → Prop} (h : q_out s t P) (hP : ∀ a b, P a b → J (pu_own a b)) : pu_fr J s t := fun a b hab => h a b (fun q => hab (hP a b q))
/-- the model's undo, behind the test -/
theorem qm_undo {s t2 : am_M} {k : Nat} (hr : p_MO_restores (am_set (am_set s 207 0 0) 207 38 (nI k)) (nI k)) (ht : f_MO_restores (am_set (am_set s 207 0 0) 207 38 (nI k)) (nI k) = t2) (e38 : s 207 38 = nI (k + 1)) (h38 : t2 207 38 = nI k) {v : Int32} (hv : (t2 207 28 = -1 ∧ v = -1) ∨ (t2 207 28 ≠ -1 ∧ vp_in (t2 207 28) 4 ∧ ((t2 207 29 < t2 228 (t2 207 28).toNatClampNeg ∧ v = t2 207 28) ∨ (¬ t2 207 29 < t2 228 (t2 207 28).toNatClampNeg ∧ v = -1)))) : p_MO_undo_13 s 0 ∧ f_MO_undo_13 s 0 = (nI k, am_set t2 207 28 v) := by
  have e : am_set s 207 0 0 207 38 - 1 = nI k := by rw [am_set_p (by omega), e38]; exact q_subI k 1
  unfold p_MO_undo_13 f_MO_undo_13
  rw [pr_holds0]
  dsimp only
  rw [e, am_set_q, ht, if_neg i10]
  rcases hv with ⟨h1, rfl⟩ | ⟨h1, h2, ⟨h3, rfl⟩ | ⟨h3, rfl⟩⟩
  · rw [if_pos h1]
    refine ⟨⟨fun q => absurd q i10, fun _ => ⟨hr, fun _ => trivial, fun q => absurd h1 q⟩⟩, ?_⟩
    rw [am_set_p (by omega), h38, h1]
  · rw [if_neg h1, if_pos h3]
    refine ⟨⟨fun q => absurd q i10, fun _ => ⟨hr, fun _ => trivial, fun _ => ⟨h2, fun _ => trivial, fun _ => trivial⟩⟩⟩, ?_⟩
    rw [am_set_p (by omega), h38]
  · rw [if_neg h1, if_neg h3]
    refine ⟨⟨fun q => absurd q i10, fun _ => ⟨hr, fun _ => trivial, fun _ => ⟨h2, fun _ => trivial, fun _ => trivial⟩⟩⟩, ?_⟩
    rw [am_set_p (by omega), h38]
end

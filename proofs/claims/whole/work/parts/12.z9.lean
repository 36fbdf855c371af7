noncomputable section
/-- at the start class and model agree -/
theorem pu_R_0 {s : am_M} (hs : ∀ a, a < 263 → s a = am_I a) : pu_R 0 s := by
  sorry
end

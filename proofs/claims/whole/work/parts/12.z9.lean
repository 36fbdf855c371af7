noncomputable section
/-- at the start class and model agree -/
theorem pu_R_0 {s : am_M} (hs : ∀ a, a < 263 → s a = am_I a) : pu_R s
  | 0 => trivial
  | 1 => ⟨by rw [hs 123 (by omega), hs 207 (by omega)]; decide +kernel, by rw [hs 123 (by omega), hs 207 (by omega)]; decide +kernel, by rw [hs 123 (by omega), hs 207 (by omega)]; decide +kernel, by rw [hs 123 (by omega), hs 207 (by omega)]; decide +kernel⟩
  | 2 => ⟨0, by omega, by rw [hs 0 (by omega)]; decide +kernel, by rw [hs 207 (by omega)]; decide +kernel⟩
  | 3 => fun k hk => by
    rw [hs 124 (by omega), hs 231 (by omega)]
    exact (by decide +kernel : ∀ k, k < 6 → am_I 124 k = am_I 231 k) k hk
  | 4 => ⟨0, by omega, by rw [hs 0 (by omega)]; decide +kernel, by rw [hs 207 (by omega)]; decide +kernel⟩
  | 5 => ⟨0, by omega, by rw [hs 1 (by omega)]; decide +kernel, by rw [hs 207 (by omega)]; decide +kernel⟩
  | _ + 6 => trivial
end

noncomputable section
-- the operations need and single
/-- the places that a change of design or cells may touch -/
def q_P0 (a b : Nat) : Prop := (9 ≤ a ∧ a ≤ 11) ∨ (13 ≤ a ∧ a ≤ 16) ∨ (17 ≤ a ∧ a ≤ 43) ∨ a = 123 ∨ (a = 0 ∧ b = 7) ∨ a = 262 ∨ (a = 207 ∧ (b = 0 ∨ b = 15 ∨ (31 ≤ b ∧ b ≤ 34) ∨ b = 38)) ∨ (208 ≤ a ∧ a ≤ 221) ∨ (228 ≤ a ∧ a ≤ 230) ∨ a = 232 ∨ (a = 233 ∧ 4320 ≤ b) ∨ (a = 234 ∧ 720 ≤ b) ∨ (a = 235 ∧ 24 ≤ b) ∨ (a = 1 ∧ b = 8) ∨ a = 7
theorem q_P0_own {a b : Nat} (h : q_P0 a b) : pu_own a b ∈ [0, 1, 2, 6, 8] := by
  rcases h with h | h | h | h | h | h | ⟨h, h2⟩ | h | h | h | h | h | h | h | h
  · unfold pu_own
    repeat (first | rw [if_neg (by omega)] | rw [if_pos (by omega)])
    decide
  · unfold pu_own
    repeat (first | rw [if_neg (by omega)] | rw [if_pos (by omega)])
    decide
  · by_cases c : a < 20
    · unfold pu_own
      repeat (first | rw [if_neg (by omega)] | rw [if_pos (by omega)])
      decide
    · rw [pu_own_6 (by omega)]; decide
  · unfold pu_own
    repeat (first | rw [if_neg (by omega)] | rw [if_pos (by omega)])
    decide
  · rw [h.1, h.2]; decide
  · unfold pu_own
    repeat (first | rw [if_neg (by omega)] | rw [if_pos (by omega)])
    decide
  · rw [h]
    rcases h2 with h2 | h2 | h2 | h2
    · rw [h2]; decide
    · rw [h2]; decide
    · unfold pu_own
      repeat (first | rw [if_neg (by omega)] | rw [if_pos (by omega)])
      decide
    · rw [h2]; decide
  · by_cases c : a < 220
    · rw [pu_own_6 (by omega)]; decide
    · unfold pu_own
      repeat (first | rw [if_neg (by omega)] | rw [if_pos (by omega)])
      decide
  · rw [pu_own_8 (by omega)]; decide
  · unfold pu_own
    repeat (first | rw [if_neg (by omega)] | rw [if_pos (by omega)])
    decide
  · unfold pu_own
    repeat (first | rw [if_neg (by omega)] | rw [if_pos (by omega)])
    decide
  · unfold pu_own
    repeat (first | rw [if_neg (by omega)] | rw [if_pos (by omega)])
    decide
  · unfold pu_own
    repeat (first | rw [if_neg (by omega)] | rw [if_pos (by omega)])
    decide
  · rw [h.1, h.2]; decide
  · rw [pu_own_6 (by omega)]; decide
theorem q_P0_fr {s t : am_M} (h : q_out s t q_P0) : pu_fr (· ∈ [0, 1, 2, 6, 8]) s t := fun a b hab => h a b (fun q => hab (q_P0_own q))
end

noncomputable section
-- run: the operation
theorem q_rP_own {m a b : Nat} (hm : m < 6) (h : q_rP m a b) : pu_own a b ∈ [0, 1, 2, 8, 9, 11, 20, 21, 22, 23, 24] := by
  unfold q_rP q_FC at h
  have key : pu_own a b = 0 ∨ pu_own a b = 1 ∨ pu_own a b = 2 ∨ pu_own a b = 8 ∨ pu_own a b = 9 := by
    rcases h with (h | h | h | h | h | h | h) | h | h | h | h | h | h
    · exact Or.inr (Or.inr (Or.inr (Or.inl (pu_own_8 (by omega)))))
    · left; unfold pu_own
      repeat (first | rw [if_neg (by omega)] | rw [if_pos (by omega)])
    · left; unfold pu_own
      repeat (first | rw [if_neg (by omega)] | rw [if_pos (by omega)])
    · left; unfold pu_own
      repeat (first | rw [if_neg (by omega)] | rw [if_pos (by omega)])
    · right; right; right; right; unfold pu_own
      repeat (first | rw [if_neg (by omega)] | rw [if_pos (by omega)])
    · left; unfold pu_own
      repeat (first | rw [if_neg (by omega)] | rw [if_pos (by omega)])
    · left; unfold pu_own
      repeat (first | rw [if_neg (by omega)] | rw [if_pos (by omega)])
    · right; left; unfold pu_own
      repeat (first | rw [if_neg (by omega)] | rw [if_pos (by omega)])
    · right; right; left; unfold pu_own
      repeat (first | rw [if_neg (by omega)] | rw [if_pos (by omega)])
    all_goals
      right; right; right; right; unfold pu_own
      repeat (first | rw [if_neg (by omega)] | rw [if_pos (by omega)])
  rcases key with e | e | e | e | e <;> rw [e] <;> decide
theorem q_rM_own {Q : am_M} {a b : Nat} (h : q_rM Q a b) : pu_own a b ∈ [0, 1, 2, 8, 9, 11, 20, 21, 22, 23, 24] := by
  have h' : (a = 207 ∧ (b = 15 ∨ b = 59 ∨ b = 0)) ∨ (a = 207 ∧ 31 ≤ b ∧ b ≤ 34) ∨ (a = 207 ∧ b = 38) ∨ (228 ≤ a ∧ a ≤ 230) ∨ (a = 233 ∨ a = 234 ∨ a = 235) ∨ ((220 ≤ a ∧ a ≤ 221) ∨ a = 232 ∨ (248 ≤ a ∧ a ≤ 254 ∧ a ≠ 252) ∨ a = 261 ∨ a = 262) := by
    unfold q_rM at h
    rcases h with h | h
    · have := q_FM_w h; omega
    · omega
  have key : pu_own a b = 0 ∨ pu_own a b = 1 ∨ pu_own a b = 2 ∨ pu_own a b = 8 ∨ pu_own a b = 9 ∨ pu_own a b = 11 := by
    rcases h' with h | h | h | h | h | h
    · left; unfold pu_own
      repeat (first | rw [if_neg (by omega)] | rw [if_pos (by omega)])
    · right; left; unfold pu_own
      repeat (first | rw [if_neg (by omega)] | rw [if_pos (by omega)])
    · right; right; left; unfold pu_own
      repeat (first | rw [if_neg (by omega)] | rw [if_pos (by omega)])
    · exact Or.inr (Or.inr (Or.inr (Or.inl (pu_own_8 (by omega)))))
    · by_cases c : (a = 233 ∧ b < 4320) ∨ (a = 234 ∧ b < 720) ∨ (a = 235 ∧ b < 24)
      · right; right; right; right; left; unfold pu_own
        repeat (first | rw [if_neg (by omega)] | rw [if_pos (by omega)])
      · left; unfold pu_own
        repeat (first | rw [if_neg (by omega)] | rw [if_pos (by omega)])
    · by_cases h9 : a = 249 ∧ b < 8
      · exact Or.inr (Or.inr (Or.inr (Or.inr (Or.inr (pu_own_11 (by omega))))))
      · left; unfold pu_own
        rcases h with h | h | h | h | h
        all_goals repeat (first | rw [if_neg (by omega)] | rw [if_pos (by omega)])
  rcases key with e | e | e | e | e | e <;> rw [e] <;> decide
end

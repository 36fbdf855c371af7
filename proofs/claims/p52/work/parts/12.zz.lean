noncomputable section
/-- THE LAW'S OWN PART: what is left when the machine is gone -/
theorem law_pure {L : Nat} {xs : Nat → Int32} (hL : L ≤ 260) : p_LAW L xs pu_S0 pu_S0 ∧ (f_LAW L xs pu_S0 pu_S0).1 = 1 := sorry
end

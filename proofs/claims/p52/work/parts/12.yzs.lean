noncomputable section
theorem q_reck_01 {A R : am_M} (w : q_wd A) (h : q_we A R) : q_reck A R 1 = R 1 ∧ q_reck A R 0 = R 0 := (q_we_reck w h).2
end

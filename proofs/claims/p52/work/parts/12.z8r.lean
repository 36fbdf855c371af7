noncomputable section
def q_L7 : List q_It := [(7, q_m1, q_m1, q_m1)]
/-- places that no look and no change of rows touches -/
theorem q_PC_LU {Q : am_M} {a b : Nat} (h : q_PC a b) : ¬ q_LU Q a b := fun q => by
  have := q_LU_w q
  unfold q_PC at h; omega
end

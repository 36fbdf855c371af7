noncomputable section
-- narrow
def q_rg (A : am_M) (k : Nat) (lo hi : Int32) : am_M := am_set (am_set A 210 k lo) 211 k hi
theorem q_rg_wd {A : am_M} (wd : q_wd A) {k : Nat} {lo hi : Int32} : q_wd (q_rg A k lo hi) ∧ q_ord (q_rg A k lo hi) = q_ord A ∧ (∀ R, q_wr A R → q_wr (q_rg A k lo hi) R) ∧ q_nt (q_rg A k lo hi) = q_nt A ∧ (∀ R, q_we A R → q_we (q_rg A k lo hi) R) := by
  unfold q_rg
  refine q_inpl wd (by rw [am_set_p (by omega), am_set_p (by omega)]) (fun b hb => by rw [am_set_o (by omega), am_set_o (by omega)]) (fun i hi => ?_)
  rw [am_set_o (show 218 ≠ 211 by omega), am_set_o (show 218 ≠ 210 by omega), am_set_o (show 219 ≠ 211 by omega), am_set_o (show 219 ≠ 210 by omega), am_set_o (show 209 ≠ 211 by omega), am_set_o (show 209 ≠ 210 by omega)]
  exact wd.2.2.2.2.1 i hi
theorem q_rg_back {A : am_M} {k : Nat} {lo hi : Int32} : am_set (am_set (q_rg A k lo hi) 210 k (A 210 k)) 211 k (A 211 k) = A := by
  unfold q_rg
  funext a b
  by_cases h1 : a = 211 ∧ b = k
  · rw [h1.1, h1.2, am_set_q]
  · rw [am_set_p (by omega)]
    by_cases h2 : a = 210 ∧ b = k
    · rw [h2.1, h2.2, am_set_q]
    · rw [am_set_p (by omega), am_set_p (by omega), am_set_p (by omega)]
theorem q_rg_again {A : am_M} {k : Nat} {lo hi : Int32} : am_set (am_set (q_rg A k lo hi) 210 k lo) 211 k hi = q_rg A k lo hi := by
  unfold q_rg
  funext a b
  by_cases h1 : a = 211 ∧ b = k
  · rw [h1.1, h1.2, am_set_q, am_set_q]
  · rw [am_set_p (by omega)]
    by_cases h2 : a = 210 ∧ b = k
    · rw [h2.1, h2.2, am_set_q, am_set_p (by omega), am_set_q]
    · rw [am_set_p (by omega)]
end

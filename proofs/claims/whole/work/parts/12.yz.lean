noncomputable section
-- addRule
theorem qd_notD {s A : am_M} (cd : q_cd s A) (w : q_wd A) {t c : Nat} (ht : t < q_nt A) (hc : c < q_w A t) (ht4 : t < 4) (hc6 : c < 6) : f_CB_wantNotDropped s (nI t) (nI c) = if A 209 (6 * t + c) = 3 then 2 else 0 := by
  unfold f_CB_wantNotDropped
  rw [qd_col ht4 hc6, cd.2.2.1 _ (by omega)]
  have h := (w.2.2.1 (6 * t + c) (by omega)).1 (by rw [show (6 * t + c) / 6 = t from by omega]; omega)
  rcases h with h | h | h | h <;> rw [h] <;> decide
theorem qd_pnotD (s : am_M) (x y : Int32) : p_CB_wantNotDropped s x y := ⟨qd_pcol s x y, qd_ref s x y, fun _ => trivial, fun _ => trivial⟩
theorem q_rel {s : am_M} {x : Int32} : f_MO_in s x (0 : Int32) (3 : Int32) = (if x < 0 then 0 else if (3 : Int32) < x then 0 else 1) := rfl
end

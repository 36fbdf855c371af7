noncomputable section
-- addRule
theorem qd_notD {s A : am_M} (cd : q_cd s A) (w : q_wd A) {t c : Nat} (ht : t < q_nt A) (hc : c < q_w A t) (ht4 : t < 4) (hc6 : c < 6) : f_CB_wantNotDropped s (nI t) (nI c) = if A 209 (6 * t + c) = 3 then 2 else 0 := by
  unfold f_CB_wantNotDropped
  rw [qd_col ht4 hc6, cd.2.2.1 _ (by omega)]
  have h := (w.2.2.1 (6 * t + c) (by omega)).1 (by rw [show (6 * t + c) / 6 = t from by omega]; omega)
  rcases h with h | h | h | h <;> rw [h] <;> decide
theorem qd_pnotD (s : am_M) (x y : Int32) : p_CB_wantNotDropped s x y := ⟨qd_pcol s x y, qd_ref s x y, fun _ => trivial, fun _ => trivial⟩
theorem qm_115n (u : am_M) (x1 x2 x3 x4 x5 x6 x7 : Int32) {y : Int32} (h : y ≠ 0) : p_MO_addRule_115 u x1 x2 x3 x4 x5 x6 x7 y ∧ f_MO_addRule_115 u x1 x2 x3 x4 x5 x6 x7 y = (0, am_set u 207 0 y) := by
  rw [qm_f115, qm_p115, pr_holds1 u h]
  exact ⟨⟨fun _ => trivial, fun q => absurd rfl q⟩, rfl⟩
theorem qm_24n (u : am_M) (x1 x2 x3 x4 x5 : Int32) : p_MO_addRule_24 u x1 x2 x3 x4 x5 0 ∧ f_MO_addRule_24 u x1 x2 x3 x4 x5 0 = (0, am_set u 207 0 1) := by
  have h := qm_115n u x1 x2 x3 x4 x5 0 0 (y := 1) (by decide)
  unfold p_MO_addRule_24 f_MO_addRule_24 p_MO_addRule_79 f_MO_addRule_79 p_MO_addRule_80 f_MO_addRule_80
  rw [if_pos rfl, if_pos rfl]
  exact ⟨⟨fun _ => ⟨fun _ => h.1, fun q => absurd rfl q⟩, fun q => absurd rfl q⟩, h.2⟩
theorem qm_79b (u : am_M) (x1 x2 x3 x4 x5 : Int32) : p_MO_addRule_79 u x1 x2 x3 x4 x5 1 ∧ f_MO_addRule_79 u x1 x2 x3 x4 x5 1 = (0, am_set u 207 0 2) := by
  have h := qm_115n u x1 x2 x3 x4 x5 1 0 (y := 2) (by decide)
  unfold p_MO_addRule_79 f_MO_addRule_79 p_MO_addRule_80 f_MO_addRule_80
  rw [if_neg i10, if_pos rfl]
  exact ⟨⟨fun q => absurd q i10, fun _ => ⟨fun _ => h.1, fun q => absurd rfl q⟩⟩, h.2⟩
/-- what is wrong with a rule over columns that are there -/
def q_bad (A : am_M) (k1 k2 : Nat) (x3 x5 : Int32) : Prop := x3 < 0 ∨ (3 : Int32) < x3 ∨ x5 < (-9999 : Int32) ∨ (9999 : Int32) < x5 ∨ A 209 k1 = 3 ∨ A 209 k2 = 3
theorem qa_24 {u A : am_M} (md : q_md u A) (w : q_wd A) {t c c2 : Nat} (ht : t < 4) (hc : c < 6) (hc2 : c2 < 6) {x3 x5 : Int32} : (q_bad A (6 * t + c) (6 * t + c2) x3 x5 → p_MO_addRule_24 u (nI t) (nI c) x3 (nI c2) x5 1 ∧ f_MO_addRule_24 u (nI t) (nI c) x3 (nI c2) x5 1 = (0, am_set u 207 0 2)) ∧ (¬ q_bad A (6 * t + c) (6 * t + c2) x3 x5 → (p_MO_addRule_80 u (nI t) (nI c) x3 (nI c2) x5 1 1 → p_MO_addRule_24 u (nI t) (nI c) x3 (nI c2) x5 1) ∧ f_MO_addRule_24 u (nI t) (nI c) x3 (nI c2) x5 1 = f_MO_addRule_80 u (nI t) (nI c) x3 (nI c2) x5 1 1) := by
  have hb := qm_79b u (nI t) (nI c) x3 (nI c2) x5
  have k1 := qd_kind md w ht hc
  have k2 := qd_kind md w ht hc2
  unfold p_MO_addRule_24 f_MO_addRule_24
  rw [if_neg i10, k1.2, k2.2]
  have in1 : f_MO_in u x3 (0 : Int32) (3 : Int32) = (if x3 < 0 then 0 else if (3 : Int32) < x3 then 0 else 1) := rfl
  have in2 : f_MO_in u x5 (-9999 : Int32) (9999 : Int32) = (if x5 < (-9999 : Int32) then 0 else if (9999 : Int32) < x5 then 0 else 1) := rfl
  rw [in1, in2]
  unfold q_bad
  by_cases g1 : x3 < 0
  · rw [if_pos g1, if_pos rfl]
    exact ⟨fun _ => ⟨⟨fun q => absurd q i10, fun _ => ⟨fun _ => hb.1, fun q => absurd rfl q⟩⟩, hb.2⟩, fun q => absurd (Or.inl g1) q⟩
  rw [if_neg g1]
  by_cases g2 : (3 : Int32) < x3
  · rw [if_pos g2, if_pos rfl]
    exact ⟨fun _ => ⟨⟨fun q => absurd q i10, fun _ => ⟨fun _ => hb.1, fun q => absurd rfl q⟩⟩, hb.2⟩, fun q => absurd (Or.inr (Or.inl g2)) q⟩
  rw [if_neg g2, if_neg i10]
  by_cases g3 : x5 < (-9999 : Int32)
  · rw [if_pos g3, if_pos rfl]
    exact ⟨fun _ => ⟨⟨fun q => absurd q i10, fun _ => ⟨fun q => absurd q i10, fun _ => ⟨fun _ => hb.1, fun q => absurd rfl q⟩⟩⟩, hb.2⟩, fun q => absurd (Or.inr (Or.inr (Or.inl g3))) q⟩
  rw [if_neg g3]
  by_cases g4 : (9999 : Int32) < x5
  · rw [if_pos g4, if_pos rfl]
    exact ⟨fun _ => ⟨⟨fun q => absurd q i10, fun _ => ⟨fun q => absurd q i10, fun _ => ⟨fun _ => hb.1, fun q => absurd rfl q⟩⟩⟩, hb.2⟩, fun q => absurd (Or.inr (Or.inr (Or.inr (Or.inl g4)))) q⟩
  rw [if_neg g4, if_neg i10]
  by_cases g5 : A 209 (6 * t + c) = 3
  · rw [if_pos g5]
    exact ⟨fun _ => ⟨⟨fun q => absurd q i10, fun _ => ⟨fun q => absurd q i10, fun _ => ⟨fun q => absurd q i10, fun _ => ⟨k1.1, fun _ => hb.1, fun q => absurd g5 q⟩⟩⟩⟩, hb.2⟩, fun q => absurd (Or.inr (Or.inr (Or.inr (Or.inr (Or.inl g5))))) q⟩
  rw [if_neg g5]
  by_cases g6 : A 209 (6 * t + c2) = 3
  · rw [if_pos g6]
    exact ⟨fun _ => ⟨⟨fun q => absurd q i10, fun _ => ⟨fun q => absurd q i10, fun _ => ⟨fun q => absurd q i10, fun _ => ⟨k1.1, fun q => absurd q g5, fun _ => ⟨k2.1, fun _ => hb.1, fun q => absurd g6 q⟩⟩⟩⟩⟩, hb.2⟩, fun q => absurd (Or.inr (Or.inr (Or.inr (Or.inr (Or.inr g6))))) q⟩
  rw [if_neg g6]
  refine ⟨fun q => ?_, fun _ => ⟨fun hp => ⟨fun q => absurd q i10, fun _ => ⟨fun q => absurd q i10, fun _ => ⟨fun q => absurd q i10, fun _ => ⟨k1.1, fun q => absurd q g5, fun _ => ⟨k2.1, fun q => absurd q g6, fun _ => hp⟩⟩⟩⟩⟩, rfl⟩⟩
  rcases q with q | q | q | q | q | q
  · exact absurd q g1
  · exact absurd q g2
  · exact absurd q g3
  · exact absurd q g4
  · exact absurd q g5
  · exact absurd q g6
end

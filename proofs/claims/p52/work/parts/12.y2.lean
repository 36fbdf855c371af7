noncomputable section
theorem pr_in5 (s : am_M) (x : Int32) : f_MO_in s x (0 : Int32) (5 : Int32) = if x < 0 then 0 else if x < (6 : Int32) then 1 else 0 := by
  unfold f_MO_in
  by_cases c1 : x < 0
  · simp [c1]
  · by_cases c2 : x < (6 : Int32)
    · simp [c1, c2, pr_5]
    · simp [c1, c2, pr_5]
theorem pr_vp6 {x : Int32} (c1 : ¬ x < 0) (c2 : x < (6 : Int32)) : vp_in x 6 := by
  rw [vp_in_iff]
  rw [Int32.lt_iff_toInt_lt] at c1 c2
  have h1 : (0 : Int32).toInt = 0 := by decide
  have h2 : (6 : Int32).toInt = 6 := by decide
  omega
theorem pr_clamp6 {x : Int32} (c1 : ¬ x < 0) (c2 : x < (6 : Int32)) : x.toNatClampNeg < 6 := by
  have h := pr_vp6 c1 c2
  unfold vp_in at h
  omega
theorem pr_holds0 (s : am_M) : f_MO_holds s 0 = (1, am_set s 207 0 0) := by unfold f_MO_holds; rw [if_pos rfl]
theorem pr_holds1 (s : am_M) {x : Int32} (h : x ≠ 0) : f_MO_holds s x = (0, am_set s 207 0 x) := by unfold f_MO_holds; rw [if_neg h]
theorem pr_bound (s : am_M) {x : Int32} (h : f_MO_isNumber s x = 1) : -1000000 ≤ x.toInt ∧ x.toInt ≤ 999999 := by
  unfold f_MO_isNumber f_MO_in at h
  by_cases c : x = -1000000
  · rw [c]; decide
  · rw [if_neg c] at h
    have e1 : (-9999 : Int32).toInt = -9999 := by decide
    have e2 : (9999 : Int32).toInt = 9999 := by decide
    by_cases c1 : x < -9999
    · rw [if_pos c1] at h; exact absurd h (by decide)
    · by_cases c2 : 9999 < x
      · rw [if_neg c1, if_pos c2] at h; exact absurd h (by decide)
      · rw [Int32.lt_iff_toInt_lt] at c1 c2; omega
theorem pr_type_bad {d : Nat} {s : am_M} {a1 a2 : Int32} (h : pu_R d s) (pC : p_CB_type s a1 a2) (hC : f_CB_type s a1 a2 = (2, 0, s)) (hM : f_MO_in s a1 (0 : Int32) (5 : Int32) = 0 ∨ f_MO_isNumber s a2 = 0) (pM : p_MO_type s a1 a2) : p_LA_type s a1 a2 ∧ p_MO_type (f_LA_type s a1 a2).2 a1 a2 ∧ pu_I (pu_R d) (f_LA_type s a1 a2).1 (f_MO_type (f_LA_type s a1 a2).2 a1 a2) := by
  have hL : f_LA_type s a1 a2 = (1, s) := by unfold f_LA_type; rw [hC]; rfl
  have h21 : f_MO_type_21 s a1 a2 = (0, am_set s 207 0 1) := by unfold f_MO_type_21 f_MO_type_22; rw [pr_holds1 s (by decide)]; rfl
  have hm : f_MO_type s a1 a2 = (0, am_set s 207 0 1) := by
    unfold f_MO_type
    by_cases c : f_MO_in s a1 (0 : Int32) (5 : Int32) = 0
    · rw [if_pos c, h21]
    · rw [if_neg c, if_pos (hM.resolve_left c), h21]
  rw [hL]
  refine ⟨?_, pM, ?_⟩
  · unfold p_LA_type
    rw [hC]
    exact ⟨pC, Or.inr rfl, fun q => absurd q (show ¬ (2 : Nat) = 0 by decide), fun _ => trivial⟩
  · show pu_I (pu_R d) 1 (f_MO_type s a1 a2)
    rw [hm]
    exact ⟨by unfold f_MO_thrown; show am_set s 207 0 1 207 0 = 1; exact am_set_q, fun q => absurd q (by decide), pu_R_thrown h⟩
theorem op_type_ok {c d : Nat} (hcd : c ≤ d) : op_type (pu_R c) (pu_R d) := by
  intro s a1 a2 h
  replace h := h.mono hcd
  have pC : p_CB_type s a1 a2 := ⟨fun _ => trivial, fun c1 => ⟨fun c2 _ => ⟨pr_vp6 c1 c2, pr_vp6 c1 c2, trivial⟩, fun _ => trivial⟩⟩
  have pM22 : ∀ (t : am_M) (y : Int32), (vp_in a1 6 ∨ y ≠ 0) → p_MO_type_22 t a1 a2 y := fun t y hy => ⟨fun _ => trivial, fun c => by
    rcases hy with hy | hy
    · exact ⟨hy, hy, trivial⟩
    · rw [pr_holds1 t hy] at c; exact absurd rfl c⟩
  have pM : ∀ t : am_M, p_MO_type t a1 a2 := fun t => ⟨fun _ => pM22 t 1 (Or.inr (by decide)), fun c => ⟨fun _ => pM22 t 1 (Or.inr (by decide)), fun _ => pM22 t 0 (Or.inl (by
    rw [pr_in5] at c
    by_cases c1 : a1 < 0
    · rw [if_pos c1] at c; exact absurd rfl c
    · by_cases c2 : a1 < (6 : Int32)
      · exact pr_vp6 c1 c2
      · rw [if_neg c1, if_neg c2] at c; exact absurd rfl c))⟩⟩
  by_cases c1 : a1 < 0
  · exact pr_type_bad h pC (by unfold f_CB_type; rw [if_pos c1]) (Or.inl (by rw [pr_in5, if_pos c1])) (pM s)
  by_cases c2 : a1 < (6 : Int32)
  · rcases pr_value s a2 with ⟨v1, v2⟩ | ⟨v1, v2⟩
    · have hC : f_CB_type s a1 a2 = (0, s 124 a1.toNatClampNeg, am_set s 124 a1.toNatClampNeg a2) := by unfold f_CB_type; rw [if_neg c1, if_pos c2, if_pos v1]
      have hk := pr_clamp6 c1 c2
      have vi := pr_vp6 c1 c2
      generalize hk9 : a1.toNatClampNeg = k at hC hk
      have hL : f_LA_type s a1 a2 = (0, am_set (am_set s 124 k a2) 262 ((0 : Int32)).toNatClampNeg (s 124 k)) := by unfold f_LA_type; rw [hC]; rfl
      have hm : ∀ t : am_M, f_MO_type t a1 a2 = (am_set t 207 0 0 231 k, am_set (am_set t 207 0 0) 231 k a2) := fun t => by
        unfold f_MO_type
        have e1 : f_MO_in t a1 (0 : Int32) (5 : Int32) = 1 := by rw [pr_in5, if_neg c1, if_pos c2]
        have e2 : f_MO_isNumber t a2 = 1 := v2
        rw [if_neg (by rw [e1]; decide), if_neg (by rw [e2]; decide)]
        unfold f_MO_type_22
        rw [pr_holds0, hk9]
        rfl
      rw [hL]
      refine ⟨?_, pM _, ?_⟩
      · unfold p_LA_type
        rw [hC]
        exact ⟨pC, Or.inl rfl, fun _ => ⟨vp_in_nI (n := 0) (by decide) (by decide), trivial⟩, fun _ => trivial⟩
      · show pu_I (pu_R d) 0 (f_MO_type (am_set (am_set s 124 k a2) 262 ((0 : Int32)).toNatClampNeg (s 124 k)) a1 a2)
        rw [hm]
        refine ⟨?_, fun _ => ?_, ?_⟩
        · unfold f_MO_thrown
          simp [am_set, upd]
        · simp [am_set, upd]
          exact (h.draft k hk).1
        · refine pu_keep0 (J := [0, 3]) h (pu_fr_set (by simp [pu_own]) (pu_fr_set (by simp [pu_own]) (pu_fr_set (by simp [pu_own]) (pu_fr_set (by simp [pu_own]) pu_fr_0)))) (fun i e => ?_) rfl
          have e : i = 0 ∨ i = 3 := by simpa using e
          rcases e with rfl | rfl
          · exact trivial
          · intro j hj
            dsimp only
            by_cases e : j = k
            · subst e
              have e1 : am_set (am_set (am_set (am_set s 124 j a2) 262 (0 : Int32).toNatClampNeg (s 124 j)) 207 0 0) 231 j a2 124 j = a2 := by rw [am_set_p (by omega), am_set_p (by omega), am_set_p (by omega), am_set_q]
              rw [e1, am_set_q]
              exact ⟨rfl, pr_bound s v2⟩
            · repeat rw [am_set_p (by omega)]
              exact h.draft j hj
    · exact pr_type_bad h pC (by unfold f_CB_type; rw [if_neg c1, if_pos c2, if_neg (by rw [v1]; decide), v1]) (Or.inr v2) (pM s)
  · exact pr_type_bad h pC (by unfold f_CB_type; rw [if_neg c1, if_neg c2]) (Or.inl (by rw [pr_in5, if_neg c1, if_neg c2])) (pM s)
end

noncomputable section
theorem op_addNumber_ok {c d : Nat} (hcd : c ≤ d) : op_addNumber (pu_R c) (pu_R d) := by
  intro s a1 a2 a3 h
  replace h := h.mono hcd
  have h' := h
  obtain ⟨hP, Z, hZ⟩ := h
  obtain ⟨cd, oc, md, wd⟩ : q_x1 s (Z 6) := hZ 1
  have h4 := wd.1.2
  have hT := qd_wantT cd wd a1
  have hE := @qd_full s (Z 6) md wd a1 (f_MO_isSpan s a2 a3)
  rcases q_isT_c wd a1 with g | ⟨g, T, ht, rfl⟩
  · rw [g, if_pos rfl] at hT hE
    refine on_addNumber_1 (v := 0) (s1 := s) (w := 0) (t := am_set s 207 0 1) (by unfold f_CB_addNumber; rw [hT]; rfl) (by unfold p_CB_addNumber; rw [hT]; exact fun q => absurd q (by decide)) ?_ ?_ am_set_q (pu_R_thrown h')
    · unfold p_MO_addNumber; rw [hE.2, pr_holds1 s (by decide)]; exact ⟨hE.1, fun _ => trivial, fun q => absurd rfl q⟩
    · unfold f_MO_addNumber; rw [hE.2, pr_holds1 s (by decide)]; rfl
  have e : q_c (nI T) = T := nI_clamp (by omega)
  have hw := (wd.2.1 T (by omega)).2.1
  rw [g, if_neg i10] at hT hE
  rw [e] at hE
  have hPl := qd_place cd wd ht
  rcases qb_span s a2 a3 with ⟨v1, v2⟩ | ⟨v1, v2⟩
  rotate_left
  · rw [v2, if_pos rfl] at hE
    refine on_addNumber_2 (v := 0) (s1 := s) (w := 0) (t := am_set s 207 0 2) (by unfold f_CB_addNumber; rw [hT, v1]; rfl) (by unfold p_CB_addNumber; rw [hT, v1]; exact fun _ q => absurd q (by decide)) ?_ ?_ am_set_q (pu_R_thrown h')
    · unfold p_MO_addNumber; rw [v2, hE.2, pr_holds1 s (by decide)]; exact ⟨hE.1, fun _ => trivial, fun q => absurd rfl q⟩
    · unfold f_MO_addNumber; rw [v2, hE.2, pr_holds1 s (by decide)]; rfl
  have hE2 := hE.2
  rw [v2, if_neg i10] at hE2
  by_cases c6 : q_w (Z 6) T < 6
  rotate_left
  · rw [if_neg c6] at hPl
    rw [if_pos (by omega)] at hE2
    refine on_addNumber_3 (v := 0) (s1 := s) (w := 0) (t := am_set s 207 0 3) (by unfold f_CB_addNumber; rw [hT, v1, hPl]; rfl) (by unfold p_CB_addNumber; rw [hT, v1, hPl]; exact fun _ _ => ⟨qd_pplace _ _, fun q => absurd q (by decide)⟩) ?_ ?_ am_set_q (pu_R_thrown h')
    · unfold p_MO_addNumber; have := hE.1; rw [v2] at *; rw [hE2, pr_holds1 s (by decide)]; exact ⟨this, fun _ => trivial, fun q => absurd rfl q⟩
    · unfold f_MO_addNumber; rw [v2, hE2, pr_holds1 s (by decide)]; rfl
  rw [if_pos c6] at hPl
  rw [if_neg (by omega)] at hE2
  have hmC := qd_makeNumber (q_cd_set (i := 0) (k := 7) (x := 0) (by omega) cd) wd ht c6 a2 a3
  have hC : f_CB_addNumber s (nI T) a2 a3 = (0, nI (q_w (Z 6) T), am_set (am_set (am_set (am_set (am_set s 0 7 0) 4 T (nI (q_w (Z 6) T + 1))) (20 + (6 * T + q_w (Z 6) T)) 0 1) (20 + (6 * T + q_w (Z 6) T)) 1 a2) (20 + (6 * T + q_w (Z 6) T)) 2 a3) := by
    unfold f_CB_addNumber f_CB_forgetActs
    rw [hT, v1, hPl, hmC.2]; rfl
  have hMo : ∀ u : am_M, q_md u (Z 6) → p_MO_addNumber u (nI T) a2 a3 ∧ f_MO_addNumber u (nI T) a2 a3 = (nI (q_w (Z 6) T), am_set (am_set (am_set (am_set (am_set (am_set (am_set (am_set u 207 0 0) 209 (6 * T + q_w (Z 6) T) 0) 218 (6 * T + q_w (Z 6) T) 0) 219 (6 * T + q_w (Z 6) T) 0) 208 T (nI (q_w (Z 6) T + 1))) 207 38 0) 210 (6 * T + q_w (Z 6) T) a2) 211 (6 * T + q_w (Z 6) T) a3) := fun u hu => by
    have hE := @qd_full u (Z 6) hu wd (nI T) (f_MO_isSpan s a2 a3)
    have hm := qd_mkM (q_md_set (i := 207) (k := 0) (x := 0) (by omega) hu) wd ht c6 (0 : Int32)
    rw [g, if_neg i10, e, v2, if_neg i10, if_neg (by omega)] at hE
    unfold p_MO_addNumber f_MO_addNumber
    rw [show f_MO_isSpan u a2 a3 = 1 from v2, hE.2, pr_holds0]
    dsimp only
    rw [hm.2]
    dsimp only
    have hv : vp_in (nI (6 * T + q_w (Z 6) T)) 24 := vp_in_nI (by omega) (by omega)
    refine ⟨⟨hE.1, fun _ => trivial, fun _ => ⟨hm.1, hv, hv, trivial⟩⟩, ?_⟩
    rw [if_neg (by decide), qr_6 (by omega), nI_clamp (n := 6 * T + q_w (Z 6) T) (by omega), show (6 * T + q_w (Z 6) T) % 6 = q_w (Z 6) T from by omega]
  have hm1 := hMo _ (q_md_set (i := 262) (k := 0) (x := nI (q_w (Z 6) T)) (by omega) (q_md_set (i := 20 + (6 * T + q_w (Z 6) T)) (k := 2) (x := a3) (by omega) (q_md_set (i := 20 + (6 * T + q_w (Z 6) T)) (k := 1) (x := a2) (by omega) (q_md_set (i := 20 + (6 * T + q_w (Z 6) T)) (k := 0) (x := 1) (by omega) (q_md_set (i := 4) (k := T) (x := nI (q_w (Z 6) T + 1)) (by omega) (q_md_set (i := 0) (k := 7) (x := 0) (by omega) md))))))
  refine og_addNumber (hn := n9_nI (by first | omega | (have := wd.1.2; omega))) hC (by unfold p_CB_addNumber f_CB_forgetActs; rw [hT, v1, hPl]; exact fun _ _ => ⟨qd_pplace _ _, fun _ => ⟨hmC.1, trivial⟩⟩) hm1.1 hm1.2 ?_ ?_ ?_
  · simp [am_set, upd]
  · simp [am_set, upd]
  generalize hkk : 6 * T + q_w (Z 6) T = k at *
  have hk24 : k < 24 := by omega
  refine pu_mk9 (B := am_set (am_set (am_set (am_set (am_set (am_set (Z 6) 209 k 0) 218 k 0) 219 k 0) 208 T (nI (q_w (Z 6) T + 1))) 210 k a2) 211 k a3) hP hZ ht c6 (by rw [hkk]; (repeat rw [am_set_p (by omega)]); exact (q_x7_g (hZ 7)).2.2.2 k hk24) ?_ ?_ ?_ ?_ ?_ ?_ ?_ ?_ ?_ ?_ ?_ ?_ ?_
  · simp [am_set]
  · simp [am_set, upd]
  · intro u hu; simp [am_set, upd, hu]
  · intro a j h1 h2 h3
    rw [hkk] at h3
    repeat rw [am_set_p (by omega)]
  · rw [hkk]; left; simp [am_set, upd]
  · rw [hkk]; simp [am_set, upd]
  · rw [hkk]; simp [am_set, upd]
  · refine pu_fr_set (by simp [pu_own]) (pu_fr_set (by simp [pu_own]) (pu_fr_set (by simp [pu_own]) (pu_fr_set (by simp [pu_own]) (pu_fr_set (by simp [pu_own]) (pu_fr_set (by simp [pu_own]) (pu_fr_set (by simp [pu_own]) (pu_fr_set (by simp [pu_own]) (pu_fr_set (by simp [pu_own]) (pu_fr_set ?_ (pu_fr_set ?_ (pu_fr_set ?_ (pu_fr_set (by simp [pu_own]) (pu_fr_set (by simp [pu_own]) pu_fr_0)))))))))))))
    all_goals (rw [pu_own_col hk24]; decide)
  · repeat (first | apply q_cd_set (by omega))
    obtain ⟨c1, c2, c3, c4⟩ := cd
    have hfl : ∀ j, 1 ≤ j → 210 ≤ q_fld j ∧ q_fld j ≤ 219 := fun j hj => by unfold q_fld; split <;> omega
    refine ⟨?_, fun u hu => ?_, fun k' hk' => ?_, fun k' j hk' g1 g2 => ?_⟩
    · rw [am_set_p (by omega), am_set_p (by omega), am_set_p (by omega), am_set_p (by omega), am_set_p (by omega)]
      rw [c1]; simp [am_set]
    · rw [am_set_p (by omega), am_set_p (by omega), am_set_p (by omega)]
      by_cases e9 : u = T
      · rw [e9, am_set_q]; simp [am_set, upd]
      · rw [am_set_p (Or.inr e9), am_set_p (by omega), c2 u hu]; simp [am_set, upd, e9]
    · by_cases e9 : k' = k
      · rw [e9]; simp [am_set, upd, q_kc]
      · rw [am_set_p (by omega), am_set_p (by omega), am_set_p (by omega), am_set_p (by omega), am_set_p (by omega), c3 k' hk']; simp [am_set, upd, e9]
    · by_cases e9 : k' = k
      · have hx := (wd.2.2.2.2.1 k hk24)
        have hA : Z 6 209 k = -1 := (wd.2.2.1 k hk24).2 (by rw [show k / 6 = T from by omega]; omega)
        rw [hA] at hx
        have x1 : Z 6 218 k = 0 := hx.1.resolve_right (fun q => by rcases q.2 with q | q <;> exact absurd q (by decide))
        have x2 : Z 6 219 k = 0 := hx.2.resolve_right (fun q => by rcases q.2 with q | q <;> exact absurd q (by decide))
        have hj : j = 1 ∨ j = 2 ∨ j = 3 ∨ j = 4 ∨ j = 5 ∨ j = 6 ∨ j = 7 ∨ j = 8 ∨ j = 9 ∨ j = 10 := by omega
        have n4 : ∀ x : Nat, ¬ 20 + x = 4 := fun x => by omega
        have c4' := c4 k j hk24 g1 g2
        subst e9
        rcases hj with rfl | rfl | rfl | rfl | rfl | rfl | rfl | rfl | rfl | rfl <;> simp [am_set, upd, q_fld, n4] at c4' ⊢ <;> first | exact c4' | (rw [c4']; assumption)
      · rw [am_set_p (by omega), am_set_p (by omega), am_set_p (by omega), am_set_p (by omega), am_set_p (by omega), c4 k' j hk' g1 g2]
        have := hfl j g1
        repeat rw [am_set_p (by omega)]
  · refine ⟨?_, fun a h1 h2 => ?_⟩
    · repeat rw [am_set_p (by omega)]
      exact md.1
    have ha := md.2 a h1 h2
    have hj : a = 208 ∨ a = 209 ∨ a = 210 ∨ a = 211 ∨ a = 212 ∨ a = 213 ∨ a = 214 ∨ a = 215 ∨ a = 216 ∨ a = 217 ∨ a = 218 ∨ a = 219 := by omega
    have n1 : ∀ x, 208 ≤ x → ¬ x = 20 + k := fun x hx => by omega
    rcases hj with rfl | rfl | rfl | rfl | rfl | rfl | rfl | rfl | rfl | rfl | rfl | rfl <;> simp [am_set, ha, n1]
  · repeat (first | apply q_oc_set (by omega))
    exact oc
  · repeat rw [am_set_p (by omega)]
    exact am_set_q
  · repeat rw [am_set_p (by omega)]
    exact am_set_q
end

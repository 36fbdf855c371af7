noncomputable section
theorem op_undo_ok {c d : Nat} (hcd : c ≤ d) : op_undo (pu_R c) (pu_R d) := by
  intro s h
  replace h := h.mono hcd
  have h' := h
  obtain ⟨hP, Z, hZ⟩ := h
  obtain ⟨cb, mb, wr⟩ : q_x3 s (Z 6) (Z 8) := hZ 3
  have wd : q_wd (Z 6) := (hZ 1 : q_x1 s (Z 6)).2.2.2
  have n4 := wd.1.2
  obtain ⟨k, L, k5, Lc, L1, h1, h2, h3, ah, sl, se, fo⟩ : q_x4 d s Z := hZ 4
  rcases k with _ | k
  · have c1 : s 0 7 < 1 := by rw [h1]; exact qt_1 (by omega)
    have e1 := pr_holds1 s (x := 1) (by decide)
    have p13 : p_MO_undo_13 s 1 ∧ f_MO_undo_13 s 1 = (0, am_set s 207 0 1) := by
      unfold p_MO_undo_13 f_MO_undo_13; rw [e1]; exact ⟨⟨fun _ => trivial, fun q => absurd rfl q⟩, rfl⟩
    have e38 : s 207 38 = 0 := by rw [h2]; exact nI_0
    refine on_undo_1 (v := 0) (s1 := s) (w := 0) (t := am_set s 207 0 1) (by unfold f_CB_undo; rw [if_pos c1]) (by unfold p_CB_undo; exact ⟨fun _ => trivial, fun q => absurd c1 q⟩) ?_ ?_ am_set_q (pu_R_thrown h')
    · unfold p_MO_undo; exact ⟨fun _ => p13.1, fun q => absurd e38 q⟩
    · unfold f_MO_undo; rw [if_pos e38]; exact p13.2
  have c1 : ¬ s 0 7 < 1 := by rw [h1]; exact qu_1 (by omega) (by omega)
  have c2 : s 0 7 ≤ 5 := by rw [h1]; exact nI_le (b := 5) (by omega) (by decide)
  have es : s 0 7 - 1 = nI k := by rw [h1]; exact q_subI k 1
  obtain ⟨m, m6, hm⟩ := ah.1 k (by omega)
  have e182 : am_set s 0 7 (nI k) 182 k = nI (183 + 4 * m) := by rw [am_set_p (by omega)]; exact hm
  obtain ⟨cbk, mhk, wrk, sek, lek, lek2⟩ := sl k (by omega)
  have cbk := cbk m m6 hm
  have cbk' : q_cb (am_set s 0 7 (nI k)) (184 + 4 * m) (185 + 4 * m) (186 + 4 * m) (Z (20 + k)) := ⟨fun u hu => by rw [am_set_o (by omega)]; exact cbk.1 u hu, fun u hu => by rw [am_set_o (by omega)]; exact cbk.2.1 u hu, fun u hu hh => by rw [am_set_o (by omega)]; exact cbk.2.2 u hu hh⟩
  obtain ⟨pc, t1, ht1, o1, cb1⟩ := qcp q_bl_8 (q_bl_a m m6) (by omega) (by omega) cbk'
  have hC : f_CB_undo s = (0, nI k, t1) := by
    unfold f_CB_undo
    rw [if_neg c1, if_pos c2, es, am_set_q, nI_clamp (n := k) (by omega), e182, nI_clamp (n := 183 + 4 * m) (by omega), ht1, o1 0 7 (by omega), am_set_q]
  have pC : p_CB_undo s := by
    unfold p_CB_undo
    rw [es, am_set_q, nI_clamp (n := k) (by omega), e182, nI_clamp (n := 183 + 4 * m) (by omega)]
    exact ⟨fun q => absurd q c1, fun _ => ⟨fun _ => ⟨vp_in_nI (by omega) (by omega), qz (by omega), (q_bl_a m m6).1, pc, trivial⟩, fun _ => trivial⟩⟩
  have a38 : am_set t1 262 0 (nI k) 207 38 = nI (k + 1) := by rw [am_set_p (by omega), o1 _ _ (by omega), am_set_p (by omega)]; exact h2
  have n38 : ¬ am_set t1 262 0 (nI k) 207 38 = 0 := by rw [a38]; exact nI_ne0 (n := k + 1) (by omega) (by omega)
  have mhW : q_mh (am_set (am_set (am_set t1 262 0 (nI k)) 207 0 0) 207 38 (nI k)) k (Z (20 + k)) := by
    have e : ∀ a b, a = 233 ∨ a = 234 ∨ a = 235 → am_set (am_set (am_set t1 262 0 (nI k)) 207 0 0) 207 38 (nI k) a b = s a b := fun a b q => by
      rw [am_set_p (by omega), am_set_p (by omega), am_set_p (by omega), o1 _ _ (by omega), am_set_p (by omega)]
    exact ⟨fun u hu => by rw [e _ _ (by omega)]; exact mhk.1 u hu, fun u hu => by rw [e _ _ (by omega)]; exact mhk.2.1 u hu, fun u hu hh => by rw [e _ _ (by omega)]; exact mhk.2.2 u hu hh⟩
  obtain ⟨pr, t2, ht2, o2, mb2⟩ := qm_restores (show k < 7 by omega) mhW
  -- what stays
  have st2 : ∀ a b, ¬ (a = 228 ∨ a = 229 ∨ a = 230) → ¬ (a = 207 ∧ (b = 0 ∨ b = 38)) → ¬ (a = 262) → t2 a b = t1 a b := fun a b q1 q2 q3 => by
    rw [o2 a b q1, am_set_p (by omega), am_set_p (by omega), am_set_p (by omega)]
  have st1 : ∀ a b, ¬ (a = 9 ∨ a = 10 ∨ a = 11) → ¬ (a = 0 ∧ b = 7) → t1 a b = s a b := fun a b q1 q2 => by
    rw [o1 a b q1, am_set_p (by omega)]
  have b38 : t2 207 38 = nI k := by rw [o2 _ _ (by omega), am_set_q]
  have b28 : t2 207 28 = s 207 28 := by rw [st2 _ _ (by omega) (by omega) (by omega), st1 _ _ (by omega) (by omega)]
  have b29 : t2 207 29 = s 207 29 := by rw [st2 _ _ (by omega) (by omega) (by omega), st1 _ _ (by omega) (by omega)]
  have hf : ∀ v, pu_fr (· ∈ [0, 2, 8, 10]) s (am_set t2 207 28 v) := fun v => pu_fr_set (by decide) (pu_fr_t (pu_fr_set (by decide) (pu_fr_set (by decide) (pu_fr_set (by decide) (pu_fr_t (pu_fr_set (by decide) pu_fr_0) (pu_fr_o o1 (fun a b q => by rw [pu_own_8 (by omega)]; decide)))))) (pu_fr_o o2 (fun a b q => by rw [pu_own_8 (by omega)]; decide)))
  have sY : ∀ X, q_st (pu_up Z 8 (Z (20 + k))) k X → ∃ j, j < k + 1 ∧ X = Z (20 + j) := fun X hX => by
    rcases hX with q | ⟨j, hj, q⟩
    · exact ⟨k, by omega, by rw [q, pu_up_s]⟩
    · exact ⟨j, by omega, by rw [q, pu_up_o (by omega)]⟩
  have sZ : ∀ X, q_st (pu_up Z 8 (Z (20 + k))) k X → q_st Z (k + 1) X := fun X hX => Or.inr (sY X hX)
  -- the form
  have key : ∃ v, ((t2 207 28 = -1 ∧ v = -1) ∨ (t2 207 28 ≠ -1 ∧ vp_in (t2 207 28) 4 ∧ ((t2 207 29 < t2 228 (t2 207 28).toNatClampNeg ∧ v = t2 207 28) ∨ (¬ t2 207 29 < t2 228 (t2 207 28).toNatClampNeg ∧ v = -1)))) ∧ q_form (am_set t2 207 28 v) (pu_up Z 8 (Z (20 + k))) k L := by
    have f8 : ∀ v, am_set t2 207 28 v 0 8 = s 0 8 := fun v => by rw [am_set_p (by omega), st2 _ _ (by omega) (by omega) (by omega), st1 _ _ (by omega) (by omega)]
    have f9 : ∀ v, am_set t2 207 28 v 0 9 = s 0 9 := fun v => by rw [am_set_p (by omega), st2 _ _ (by omega) (by omega) (by omega), st1 _ _ (by omega) (by omega)]
    have f10 : ∀ v, am_set t2 207 28 v 0 10 = s 0 10 := fun v => by rw [am_set_p (by omega), st2 _ _ (by omega) (by omega) (by omega), st1 _ _ (by omega) (by omega)]
    have f28 : ∀ v, am_set t2 207 28 v 207 28 = v := fun v => am_set_q
    have f29 : ∀ v, am_set t2 207 28 v 207 29 = s 207 29 := fun v => by rw [am_set_p (by omega), b29]
    have y6 : pu_up Z 8 (Z (20 + k)) 6 = Z 6 := pu_up_o (by decide)
    have y8 : pu_up Z 8 (Z (20 + k)) 8 = Z (20 + k) := pu_up_s
    rcases fo with ⟨g1, g2⟩ | ⟨T, r, f, g1, g2, g3, g4, g5, g6, g7, g8, g9, g10, g11⟩
    · refine ⟨-1, Or.inl ⟨b28.trans g1, rfl⟩, ?_⟩
      unfold q_form
      rw [f28, f8, f9, f10, y6]
      refine Or.inl ⟨rfl, ?_⟩
      rcases g2 with g2 | ⟨T, r, f, g2, g3, g4, g5, g6, g7, g8, g9⟩
      · exact Or.inl g2
      · exact Or.inr ⟨T, r, f, g2, g3, g4, g5, g6, g7, g8, fun X hX => g9 X (sZ X hX)⟩
    · have e28 : t2 207 28 = nI T := b28.trans g5
      have hne : t2 207 28 ≠ -1 := by rw [e28]; exact q_m1_ne (by omega)
      have hcl : (t2 207 28).toNatClampNeg = T := by rw [e28]; exact nI_clamp (by omega)
      have hv4 : vp_in (t2 207 28) 4 := by rw [e28]; exact vp_in_nI (by omega) (by omega)
      have hmade : t2 228 T = nI (q_c (Z (20 + k) 0 T)) := by rw [mb2.1 T (by omega)]; exact (wrk.1 T (by omega)).1
      have h30 := (wrk.1 T (by omega)).2.1
      by_cases hr : r < q_c (Z (20 + k) 0 T)
      · refine ⟨nI T, Or.inr ⟨hne, hv4, Or.inl ⟨?_, e28.symm⟩⟩, ?_⟩
        · rw [hcl, hmade, b29, g6]; exact nI_lt hr (by omega)
        · unfold q_form
          rw [f28, f8, f9, f10, f29, y6, y8]
          exact Or.inr ⟨T, r, f, g1, g2, g3, g4, rfl, g6, g7, g8, g9, hr, fun X hX => g11 X (sZ X hX)⟩
      · refine ⟨-1, Or.inr ⟨hne, hv4, Or.inr ⟨?_, rfl⟩⟩, ?_⟩
        · rw [hcl, hmade, b29, g6]; exact nI_nlt (by omega) (by omega)
        · unfold q_form
          rw [f28, f8, f9, f10, y6]
          refine Or.inl ⟨rfl, Or.inr ⟨T, r, f, g1, g2, g3, g4, g7, g8, g9, fun X hX q => ?_⟩⟩
          obtain ⟨j, hj, rfl⟩ := sY X hX
          have hle : q_c (Z (20 + j) 0 T) ≤ q_c (Z (20 + k) 0 T) := by
            by_cases e : j = k
            · rw [e]; exact Nat.le_refl _
            · exact (lek2 j (by omega)).1 T (by omega)
          have wrj := (sl j hj).2.2.1
          have hn0 : Z (20 + j) 1 (30 * T + r) ≠ 0 := by rw [q]; exact nI_ne0 (n := f) (by omega) (by omega)
          have := wrj.2.1 (30 * T + r) (by omega) hn0
          rw [show (30 * T + r) / 30 = T from by omega, show (30 * T + r) % 30 = r from by omega] at this
          omega
  obtain ⟨v, hv, hform⟩ := key
  obtain ⟨pm, hm2⟩ := qm_undo pr ht2 a38 b38 hv
  refine og_undo (hn := n9_nI (by first | omega | (have := wd.1.2; omega))) (v := nI k) (s1 := t1) (w := nI k) (t := am_set t2 207 28 v) hC pC ?_ ?_ ?_ ?_ ?_
  · unfold p_MO_undo; exact ⟨fun q => absurd q n38, fun _ => pm⟩
  · unfold f_MO_undo; rw [if_neg n38]; exact hm2
  · rw [am_set_p (by omega), o2 _ _ (by omega), am_set_p (by omega), am_set_q]
  · rw [am_set_p (by omega), o2 _ _ (by omega), am_set_p (by omega), am_set_p (by omega), am_set_q]
  have e07 : am_set t2 207 28 v 0 7 = nI k := by rw [am_set_p (by omega), st2 _ _ (by omega) (by omega) (by omega), o1 _ _ (by omega), am_set_q]
  have e38 : am_set t2 207 28 v 207 38 = nI k := by rw [am_set_p (by omega)]; exact b38
  have hft : ∀ a b, (a = 1 ∨ (182 ≤ a ∧ a ≤ 206) ∨ (233 ≤ a ∧ a ≤ 235)) → am_set t2 207 28 v a b = s a b := fun a b q => by
    rw [am_set_p (by omega), st2 _ _ (by omega) (by omega) (by omega), st1 _ _ (by omega) (by omega)]
  refine pu_keepX (J := [0, 2, 8, 10]) (Y := pu_up Z 8 (Z (20 + k))) hP hZ (hf v) (fun i hi => pu_up_o (fun q => hi (by rw [q]; decide))) (fun i hi => ?_) (fun i hi => ?_)
  · have e : i = 0 ∨ i = 2 ∨ i = 8 ∨ i = 10 := by simpa using hi
    rcases e with rfl | rfl | rfl | rfl
    · exact trivial
    · exact ⟨k, by omega, e07, e38⟩
    · exact trivial
    · exact trivial
  · have e : i ∈ [3, 4, 7] := hi
    have e : i = 3 ∨ i = 4 ∨ i = 7 := by simpa using e
    rcases e with rfl | rfl | rfl
    rotate_right
    · obtain ⟨k8, k85, x1, x2, x3⟩ : q_x7 s Z := hZ 7
      have ek : k8 = k + 1 := (nI_eq (by omega) (by omega)).mp (x1.symm.trans h1)
      exact ⟨k, by omega, e07, by rw [pu_up_s, pu_up_o (by decide), pu_up_o (by decide)]; exact x3 k (by omega), fun j hj => by rw [pu_up_o (show 6 ≠ 8 by decide), pu_up_o (show 7 ≠ 8 by decide), pu_up_o (show 20 + j ≠ 8 by omega)]; exact x3 j (by omega)⟩
    · show q_x3 _ (pu_up Z 8 _ 6) (pu_up Z 8 _ 8)
      rw [pu_up_s, pu_up_o (by decide)]
      refine ⟨⟨fun u hu => ?_, fun u hu => ?_, fun u hu hh => ?_⟩, ⟨fun u hu => ?_, fun u hu => ?_, fun u hu hh => ?_⟩, wrk⟩
      · rw [am_set_p (by omega), st2 _ _ (by omega) (by omega) (by omega)]; exact cb1.1 u hu
      · rw [am_set_p (by omega), st2 _ _ (by omega) (by omega) (by omega)]; exact cb1.2.1 u hu
      · rw [am_set_p (by omega), st2 _ _ (by omega) (by omega) (by omega)]; exact cb1.2.2 u hu hh
      · rw [am_set_p (by omega)]; exact mb2.1 u hu
      · rw [am_set_p (by omega)]; exact mb2.2.1 u hu
      · rw [am_set_p (by omega)]; exact mb2.2.2 u hu hh
    · show q_x4 d _ (pu_up Z 8 (Z (20 + k)))
      refine ⟨k, L, by omega, Lc, L1, e07, e38, (hft 1 12 (by omega)).trans h3, ⟨fun j hj => by rw [hft 182 j (by omega)]; exact ah.1 j hj, fun i j hi hj q => by rw [hft 182 i (by omega), hft 182 j (by omega)] at q; exact ah.2 i j hi hj q⟩, fun j hj => ?_, by rw [pu_up_s]; exact sek, hform⟩
      obtain ⟨q1, ⟨q2, q3, q4⟩, q5, q6, q7, q8⟩ := sl j (by omega)
      rw [pu_up_o (show 20 + j ≠ 8 by omega), pu_up_o (show 6 ≠ 8 by decide), pu_up_s]
      refine ⟨fun m' hm' q => ?_, ⟨fun u hu => ?_, fun p hp => ?_, fun x hx hh => ?_⟩, q5, q6, lek2 j hj, fun i hi => by rw [pu_up_o (show 20 + i ≠ 8 by omega)]; exact q8 i hi⟩
      · rw [hft 182 j (by omega)] at q
        obtain ⟨c1, c2, c3⟩ := q1 m' hm' q
        exact ⟨fun u hu => by rw [hft _ _ (by omega)]; exact c1 u hu, fun u hu => by rw [hft _ _ (by omega)]; exact c2 u hu, fun u hu hh => by rw [hft _ _ (by omega)]; exact c3 u hu hh⟩
      · rw [hft _ _ (by omega)]; exact q2 u hu
      · rw [hft _ _ (by omega)]; exact q3 p hp
      · rw [hft _ _ (by omega)]; exact q4 x hx hh
end

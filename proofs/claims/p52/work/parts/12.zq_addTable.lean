noncomputable section
theorem op_addTable_ok {c d : Nat} (hcd : c ≤ d) : op_addTable (pu_R c) (pu_R d) := by
  intro s h
  replace h := h.mono hcd
  have h' := h
  obtain ⟨hP, Z, hZ⟩ := h
  obtain ⟨cd, oc, md, wd⟩ : q_x1 s (Z 6) := hZ 1
  have hk := wd.1.2
  have e1 : s 1 3 = nI (q_nt (Z 6)) := by rw [cd.1]; exact wd.1.1
  have e2 : s 207 1 = nI (q_nt (Z 6)) := by rw [md.1]; exact wd.1.1
  by_cases c : q_nt (Z 6) < 4
  · have hC : f_CB_addTable s = (0, nI (q_nt (Z 6)), am_set (am_set s 0 7 0) 1 3 (nI (q_nt (Z 6) + 1))) := by
      unfold f_CB_addTable f_CB_forgetActs
      rw [if_pos (by rw [e1]; exact qt_4 c), am_set_p (Or.inl (by decide)), e1, nI_1]
    have hM : ∀ t : am_M, t 207 1 = nI (q_nt (Z 6)) → f_MO_addTable t = (nI (q_nt (Z 6)), am_set (am_set (am_set t 207 0 0) 207 1 (nI (q_nt (Z 6) + 1))) 207 38 0) := fun t ht => by
      unfold f_MO_addTable
      rw [if_neg (by rw [ht, qe_4 (by omega)]; omega)]
      unfold f_MO_addTable_14
      rw [pr_holds0]
      show ((am_set (am_set (am_set t 207 0 0) 207 1 (am_set t 207 0 0 207 1 + 1)) 207 38 0 207 1 - 1 : Int32), am_set (am_set (am_set t 207 0 0) 207 1 (am_set t 207 0 0 207 1 + 1)) 207 38 0) = _
      have e3 : am_set t 207 0 0 207 1 = nI (q_nt (Z 6)) := by rw [am_set_p (Or.inr (by decide))]; exact ht
      have e4 : ∀ x : Int32, am_set (am_set (am_set t 207 0 0) 207 1 x) 207 38 0 207 1 = x := fun x => by rw [am_set_p (Or.inr (by decide)), am_set_q]
      rw [e3, e4, nI_1, nI_pred]
    refine og_addTable (hn := n9_nI (by first | omega | (have := wd.1.2; omega))) hC (hM _ (by rw [am_set_p (Or.inl (by decide)), am_set_p (Or.inl (by decide)), am_set_p (Or.inl (by decide))]; exact e2)) ?_ ?_ ?_
    · simp [am_set, upd]
    · simp [am_set, upd]
    have n1 : q_nt (am_set (Z 6) 207 1 (nI (q_nt (Z 6) + 1))) = q_nt (Z 6) + 1 := by
      unfold q_nt; rw [am_set_q]; exact nI_clamp (by unfold q_nt at c; omega)
    have hB : ∀ a, a ≠ 207 → am_set (Z 6) 207 1 (nI (q_nt (Z 6) + 1)) a = Z 6 a := fun a ha => am_set_o ha
    have hw : ∀ t, q_w (am_set (Z 6) 207 1 (nI (q_nt (Z 6) + 1))) t = q_w (Z 6) t := fun t => by unfold q_w; rw [hB 208 (by decide)]
    have hg : ∀ t, q_tg (am_set (Z 6) 207 1 (nI (q_nt (Z 6) + 1))) t = q_tg (Z 6) t := fun t => by unfold q_tg; rw [hB 212 (by decide)]
    have hf : pu_fr (· ∈ [0, 2, 6]) s (am_set (am_set (am_set (am_set (am_set (am_set s 0 7 0) 1 3 (nI (q_nt (Z 6) + 1))) 262 0 (nI (q_nt (Z 6)))) 207 0 0) 207 1 (nI (q_nt (Z 6) + 1))) 207 38 0) := pu_fr_set (by decide) (pu_fr_set (by decide) (pu_fr_set (by decide) (pu_fr_set (by decide) (pu_fr_set (by decide) (pu_fr_set (by decide) pu_fr_0)))))
    refine pu_keepX (J := [0, 2, 6]) (Y := pu_up Z 6 (am_set (Z 6) 207 1 (nI (q_nt (Z 6) + 1)))) hP hZ hf (fun i hi => pu_up_o (fun q => hi (by rw [q]; decide))) (fun i hi => ?_) (fun j hj => ?_)
    · have e : i = 0 ∨ i = 2 ∨ i = 6 := by simpa using hi
      rcases e with rfl | rfl | rfl
      · exact trivial
      · refine ⟨0, by omega, ?_, ?_⟩ <;> simp [am_set, upd, nI_0]
      · exact trivial
    · have e : j ∈ [1, 3, 4, 5, 6, 7] := hj
      have e : j = 1 ∨ j = 3 ∨ j = 4 ∨ j = 5 ∨ j = 6 ∨ j = 7 := by simpa using e
      have dq : q_dq (Z 6) (am_set (Z 6) 207 1 (nI (q_nt (Z 6) + 1))) (Z 11) := q_dq_k wd.1.2 ⟨by rw [n1]; omega, fun t _ => by rw [hw]; exact Nat.le_refl _, fun k _ q => by rw [hB 209 (by decide), hB 212 (by decide)]; exact ⟨q, rfl⟩⟩
      have x56 := q_56 (V := Z 12) (fun a b q => hf a b (by rw [q]; decide)) (fun a b q => hf a b (by rw [q]; decide)) dq (hZ 5) (hZ 6)
      rcases e with rfl | rfl | rfl | rfl | rfl | rfl
      rotate_right
      · exact q_x7_z (by simp [am_set, upd]) (by rw [pu_up_s, pu_up_o (by decide), pu_up_o (by decide)]; exact gd_table wd (by omega) (hZ 3 : q_x3 s (Z 6) (Z 8)).2.2 (q_x7_g (hZ 7)))
      · show q_x1 _ (pu_up Z 6 _ 6)
        rw [pu_up_s]
        refine ⟨⟨by simp [am_set, upd], fun t ht => ?_, fun k hk => ?_, fun k j hk h1 h2 => ?_⟩, ?_, ⟨by simp [am_set, upd], fun a h1 h2 => ?_⟩, ?_⟩
        · simp [am_set]; exact cd.2.1 t ht
        · rw [am_set_o (by omega), am_set_o (by omega), am_set_o (by omega), am_set_o (by omega), am_set_o (by omega), am_set_o (by omega), hB 209 (by decide)]; exact cd.2.2.1 k hk
        · rw [am_set_o (by omega), am_set_o (by omega), am_set_o (by omega), am_set_o (by omega), am_set_o (by omega), am_set_o (by omega), hB _ (by
            have : q_fld j ≥ 208 := by
              unfold q_fld; split <;> omega
            omega)]; exact cd.2.2.2 k j hk h1 h2
        · refine q_oc_B (q_ord_c wd (q_same_of wd (fun k _ => ?_) (fun k _ _ => ?_) (fun k _ _ => ?_))).symm (q_oc_set (by omega) (q_oc_set (by omega) (q_oc_set (by omega) (q_oc_set (by omega) (q_oc_set (by omega) (q_oc_set (by omega) oc))))))
          · rw [hB 209 (by decide)]
          · rw [hB 214 (by decide), hB 215 (by decide), hB 216 (by decide), hB 217 (by decide)]; exact ⟨rfl, rfl, rfl, rfl⟩
          · rw [hB 212 (by decide)]
        · rw [am_set_o (by omega), am_set_o (by omega), am_set_o (by omega), am_set_o (by omega), am_set_o (by omega), am_set_o (by omega), hB a (by omega)]; exact md.2 a h1 h2
        · refine ⟨⟨by rw [n1, am_set_q], by rw [n1]; omega⟩, fun t ht => ?_, fun k hk => ?_, fun k hk e => ?_, fun k hk => ?_, fun k hk e => ?_⟩
          · rw [n1, hw, hB 208 (by decide)]
            obtain ⟨g1, g2, g3⟩ := wd.2.1 t ht
            exact ⟨g1, g2, fun q => g3 (by omega)⟩
          · rw [hw, hB 209 (by decide)]; exact wd.2.2.1 k hk
          · rw [hB 209 (by decide)] at e
            rw [hB 212 (by decide), hg, n1]
            obtain ⟨g1, g2⟩ := wd.2.2.2.1 k hk e
            exact ⟨g1, by omega⟩
          · rw [hB 209 (by decide), hB 218 (by decide), hB 219 (by decide)]; exact wd.2.2.2.2.1 k hk
          · rw [hB 209 (by decide)] at e
            rw [hB 214 (by decide), hB 215 (by decide), hB 216 (by decide), hB 217 (by decide)]
            refine q_f_t (fun t c q => ⟨⟨by rw [n1]; have := q.1; omega, by rw [hw]; exact q.2.1, by rw [hB 209 (by decide)]; exact q.2.2⟩, by rw [hB 209 (by decide)], by rw [hB 212 (by decide)]⟩) (wd.2.2.2.2.2 k hk e)
      · show q_x3 _ (pu_up Z 6 _ 6) (pu_up Z 6 _ 8)
        rw [pu_up_s, pu_up_o (by decide)]
        obtain ⟨b1, b2, b3⟩ : q_x3 s (Z 6) (Z 8) := hZ 3
        have hx := q_x3_d (fun a b q => hf a b (by rw [q]; decide)) (show q_x3 s (Z 6) (Z 8) from ⟨b1, b2, b3⟩)
        refine ⟨hx.1, hx.2.1, ?_⟩
        obtain ⟨r1, r2, r3, r4, r5⟩ := b3
        refine ⟨fun t ht => ?_, r2, r3, fun p c hp hc q => ?_, fun p c hp hc q => ?_⟩
        · obtain ⟨g1, g2, g3⟩ := r1 t ht
          exact ⟨g1, g2, fun q => g3 (by rw [n1] at q; omega)⟩
        · rw [hB 209 (by decide)]; exact r4 p c hp hc q
        · rw [hB 209 (by decide), hg]; exact r5 p c hp hc q
      · exact pu_x4_z (hZ 4) hk (fun a b q => hf a b (by rcases q with q | q <;> rw [q] <;> decide)) (by simp [am_set, upd]) am_set_q (by rw [pu_up_s, n1]; omega) (pu_up_o (by decide))
      · show q_x5 _ (pu_up Z 6 _ 6) (pu_up Z 6 _ 11)
        rw [pu_up_s, pu_up_o (by decide)]; exact x56.1
      · show q_x6 _ (pu_up Z 6 _ 6) (pu_up Z 6 _ 11) (pu_up Z 6 _ 12)
        rw [pu_up_s, pu_up_o (by decide), pu_up_o (by decide)]; exact x56.2
  · have hC : f_CB_addTable s = (3, 0, s) := by unfold f_CB_addTable; rw [if_neg (by rw [e1]; exact qu_4 (by omega) (by omega))]
    have hM : f_MO_addTable s = (0, am_set s 207 0 1) := by
      unfold f_MO_addTable
      rw [if_pos (by rw [e2, qe_4 (by omega)]; omega)]
      unfold f_MO_addTable_14
      rw [pr_holds1 s (by decide)]; rfl
    exact on_addTable_1 hC hM am_set_q (pu_R_thrown h')
end

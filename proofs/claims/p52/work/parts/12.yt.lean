noncomputable section
-- dropRule, openForm
theorem op_openForm_ok {c d : Nat} (hcd : c ≤ d) : op_openForm (pu_R c) (pu_R d) := by
  intro s a1 a2 h
  replace h := h.mono hcd
  have h' := h
  obtain ⟨hP, Z, hZ⟩ := h
  obtain ⟨cd, oc, md, wd⟩ : q_x1 s (Z 6) := hZ 1
  obtain ⟨cb, mb, wr⟩ : q_x3 s (Z 6) (Z 8) := hZ 3
  have hT := qr_row cd wd cb a1 a2
  have hr := qr_isRow md wd wr.we mb a1 a2
  rcases q_isR_c wd wr.we a1 a2 with g | ⟨g, T, r, ht, ht4, hr30, hrm, rfl, rfl, hh⟩
  · rw [g, if_pos rfl] at hT
    rw [g] at hr
    refine on_openForm_1 (s1 := s) (t := am_set s 207 0 1) (by unfold f_CB_openForm; rw [hT]; rfl) (by unfold p_CB_openForm; rw [hT]; exact ⟨qr_prow _ _ _, fun q => absurd q (by decide)⟩) ?_ ?_ am_set_q (pu_R_thrown h')
    · unfold p_MO_openForm; rw [hr.2, pr_holds1 s (by decide)]; exact ⟨hr.1, fun _ => ⟨fun _ => trivial, fun q => absurd rfl q⟩, fun q => absurd rfl q⟩
    · unfold f_MO_openForm; rw [hr.2, pr_holds1 s (by decide)]; rfl
  rw [g, if_neg i10] at hT
  have cb2 := q_cb_set (i := 0) (k := 9) (x := nI r) (by omega) (q_cb_set (i := 0) (k := 8) (x := nI T) (by omega) cb)
  have hser : p_RO_serialOf (am_set (am_set s 0 8 (nI T)) 0 9 (nI r)) 8 (nI T) (nI r) ∧ f_RO_serialOf (am_set (am_set s 0 8 (nI T)) 0 9 (nI r)) 8 (nI T) (nI r) = Z 8 1 (30 * T + r) := by
    unfold p_RO_serialOf f_RO_serialOf
    rw [if_neg (qz (by omega)), if_neg (ql_4 ht4), if_neg (qz (by omega)), if_pos (qt_30 hr30), lk_8_1, qm_30, nI_add, nI_clamp (n := T * 30 + r) (by omega), cb2.2.1 _ (by omega), show T * 30 + r = 30 * T + r from by omega]
    exact ⟨⟨fun _ => trivial, fun _ => ⟨fun _ => trivial, fun _ => ⟨fun _ => trivial, fun _ => ⟨fun _ => ⟨⟨by omega, sh_8⟩, ⟨by omega, sh_10⟩, vp_in_nI (by omega) (by omega), trivial⟩, fun _ => trivial⟩⟩⟩⟩, rfl⟩
  have hC : f_CB_openForm s (nI T) (nI r) = (0, am_set (am_set (am_set s 0 8 (nI T)) 0 9 (nI r)) 0 10 (Z 8 1 (30 * T + r))) := by
    unfold f_CB_openForm; rw [hT, hser.2]; rfl
  have mU := q_md_set (i := 0) (k := 10) (x := Z 8 1 (30 * T + r)) (by omega) (q_md_set (i := 0) (k := 9) (x := nI r) (by omega) (q_md_set (i := 0) (k := 8) (x := nI T) (by omega) md))
  have bU := q_mb_set (i := 0) (k := 10) (x := Z 8 1 (30 * T + r)) (by omega) (q_mb_set (i := 0) (k := 9) (x := nI r) (by omega) (q_mb_set (i := 0) (k := 8) (x := nI T) (by omega) mb))
  have hrU := qr_isRow mU wd wr.we bU (nI T) (nI r)
  rw [g] at hrU
  refine og_openForm (t := am_set (am_set (am_set (am_set (am_set (am_set s 0 8 (nI T)) 0 9 (nI r)) 0 10 (Z 8 1 (30 * T + r))) 207 0 0) 207 28 (nI T)) 207 29 (nI r)) hC (by unfold p_CB_openForm; rw [hT]; exact ⟨qr_prow _ _ _, fun _ => ⟨hser.1, trivial⟩⟩) ?_ ?_ (by rw [am_set_p (by omega), am_set_p (by omega)]; exact am_set_q) ?_
  · unfold p_MO_openForm; rw [hrU.2, pr_holds0]; exact ⟨hrU.1, fun q => absurd q i10, fun _ => ⟨fun q => absurd q i10, fun _ => trivial⟩⟩
  · unfold f_MO_openForm; rw [hrU.2, if_neg i10, pr_holds0, if_neg i10]
  have hf : pu_fr (· ∈ [0, 10]) s (am_set (am_set (am_set (am_set (am_set (am_set s 0 8 (nI T)) 0 9 (nI r)) 0 10 (Z 8 1 (30 * T + r))) 207 0 0) 207 28 (nI T)) 207 29 (nI r)) := pu_fr_set (by decide) (pu_fr_set (by decide) (pu_fr_set (by decide) (pu_fr_set (by decide) (pu_fr_set (by decide) (pu_fr_set (by decide) pu_fr_0)))))
  refine pu_keepX (J := [0, 10]) (Y := Z) hP hZ hf (fun _ _ => rfl) (fun i hi => ?_) (fun i hi => ?_)
  · have e : i = 0 ∨ i = 10 := by simpa using hi
    rcases e with rfl | rfl
    · exact trivial
    · exact trivial
  · have e : i ∈ [4] := hi
    have e : i = 4 := by simpa using e
    subst e
    show q_x4 d _ Z
    -- all but the form is as it was
    have hx : q_x4 d s Z := hZ 4
    obtain ⟨k, L, k5, Lc, L1, h1, h2, h3, ah, sl, se, -⟩ := hx
    have o29 : ∀ a b, pu_own a b = 2 ∨ pu_own a b = 9 → am_set (am_set (am_set (am_set (am_set (am_set s 0 8 (nI T)) 0 9 (nI r)) 0 10 (Z 8 1 (30 * T + r))) 207 0 0) 207 28 (nI T)) 207 29 (nI r) a b = s a b := fun a b q => hf a b (by rcases q with q | q <;> rw [q] <;> decide)
    have hx3 := q_x4_f (t := am_set (am_set (am_set (am_set (am_set (am_set s 0 8 (nI T)) 0 9 (nI r)) 0 10 (Z 8 1 (30 * T + r))) 207 0 0) 207 28 (nI T)) 207 29 (nI r)) k5 Lc L1 h1 h2 h3 ah sl se o29
    refine hx3 (Or.inr ?_)
    rcases se (30 * T + r) (by omega) with q | ⟨f, f1, f2, f3⟩
    · exact absurd q hh
    · refine ⟨T, r, f, ht, hr30, ?_, ?_, ?_, am_set_q, ?_, f1, f2, hrm, fun X hX hr9 => ?_⟩
      · repeat rw [am_set_p (by omega)]
        exact am_set_q
      · repeat rw [am_set_p (by omega)]
        exact am_set_q
      · rw [am_set_p (by omega)]; exact am_set_q
      · rw [am_set_p (by omega), am_set_p (by omega), am_set_p (by omega), am_set_q]; exact f3
      · rcases hX with q | ⟨j, hj, q⟩
        · right; rw [q]; exact f3
        · right
          have hl := ((sl j hj).2.2.2.2.1).2 (30 * T + r) (by omega)
          rw [q] at hr9 ⊢
          rw [show (30 * T + r) / 30 = T from by omega, show (30 * T + r) % 30 = r from by omega] at hl
          rcases hl hr9 with z | z
          · rw [← z]; exact f3
          · exact absurd z hh
end

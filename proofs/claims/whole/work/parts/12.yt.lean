noncomputable section
-- dropRule, openForm
theorem qb_isRule {s U : am_M} (uc : q_uc s U) (uw : q_uw U) (x : Int32) : p_BA_isRule s x ∧ f_BA_isRule s x = if q_in (q_c (U 207 17)) x = 0 then 0 else if U 227 (q_c x) = 0 then 1 else 0 := by
  have h8 := uw.1.2
  rcases q_in_c (q_c (U 207 17)) (by omega) x with g | ⟨g, j, hj, rfl⟩
  · have hx : x < 0 ∨ nI (q_c (U 207 17)) ≤ x := by
      unfold q_in at g
      by_cases c : x < 0
      · exact Or.inl c
      · rw [if_neg c] at g
        by_cases c2 : nI (q_c (U 207 17)) ≤ x
        · exact Or.inr c2
        · rw [if_neg c2] at g; exact absurd g i10
    unfold p_BA_isRule f_BA_isRule
    rw [g, if_pos rfl, uc.1, uw.1.1]
    have e9 : q_c (nI (q_c (U 207 17))) = q_c (U 207 17) := nI_clamp (by omega)
    refine ⟨⟨fun _ => trivial, fun c1 => ⟨fun _ => trivial, fun c2 => absurd (hx.resolve_left c1) c2⟩⟩, ?_⟩
    by_cases c : x < 0
    · rw [if_pos c]
    · rw [if_neg c, if_pos (hx.resolve_left c)]
  · have e : q_c (nI j) = j := nI_clamp (by omega)
    have f5 : s (44 + j) 5 = U 227 j := uc.2 j 5 (by omega) (by omega)
    unfold p_BA_isRule f_BA_isRule
    rw [g, if_neg i10, e, if_neg (qz (by omega)), uc.1, uw.1.1, if_neg (nI_ge hj (by omega)), if_neg (ql_8 (by omega)), show (nI j).toNatClampNeg = j from e, qb_lk (by omega), f5]
    exact ⟨⟨fun _ => trivial, fun _ => ⟨fun _ => trivial, fun _ => ⟨fun _ => trivial, fun _ => ⟨vp_in_nI (by omega) (by omega), ⟨by omega, qb_sh (by omega)⟩, fun _ => trivial, fun _ => trivial⟩⟩⟩⟩, rfl⟩
theorem op_dropRule_ok {c d : Nat} (hcd : c ≤ d) : op_dropRule (pu_R c) (pu_R d) := by
  intro s a1 h
  replace h := h.mono hcd
  have h' := h
  obtain ⟨hP, Z, hZ⟩ := h
  have wd : q_wd (Z 6) := (hZ 1 : q_x1 s (Z 6)).2.2.2
  obtain ⟨uc, um, uw⟩ := q_x2_p (hZ 2 : q_x2 s (Z 7))
  have h8 := uw.1.2
  have hR := qb_isRule uc uw a1
  have inM : ∀ u : am_M, u 207 17 = Z 7 207 17 → f_MO_in u a1 (0 : Int32) (u 207 17 - (1 : Int32)) = q_in (q_c (Z 7 207 17)) a1 := fun u e => by
    rw [e, uw.1.1, qb_in1 (by omega), show q_c (nI (q_c (Z 7 207 17))) = q_c (Z 7 207 17) from nI_clamp (by omega)]; rfl
  have p29 : p_MO_dropRule_29 s a1 1 ∧ f_MO_dropRule_29 s a1 1 = am_set s 207 0 1 := by
    unfold p_MO_dropRule_29 f_MO_dropRule_29
    rw [pr_holds1 s (by decide)]
    exact ⟨⟨fun _ => trivial, fun q => absurd rfl q⟩, rfl⟩
  rcases q_in_c (q_c (Z 7 207 17)) (by omega) a1 with g | ⟨g, j, hj, rfl⟩
  · rw [g, if_pos rfl] at hR
    refine on_dropRule_1 (s1 := s) (t := am_set s 207 0 1) (by unfold f_CB_dropRule; rw [hR.2, if_pos rfl]) (by unfold p_CB_dropRule; rw [hR.2]; exact ⟨hR.1, fun _ => trivial, fun q => absurd rfl q⟩) ?_ ?_ am_set_q (pu_R_thrown h')
    · unfold p_MO_dropRule p_MO_dropRule_28; rw [inM s um.1, g]; exact ⟨fun _ => p29.1, fun q => absurd rfl q⟩
    · unfold f_MO_dropRule f_MO_dropRule_28; rw [inM s um.1, g, if_pos rfl]; exact p29.2
  have e : q_c (nI j) = j := nI_clamp (by omega)
  have hv : vp_in (nI j) 8 := vp_in_nI (by omega) (by omega)
  rw [g, if_neg i10, e] at hR
  by_cases cd5 : Z 7 227 j = 0
  rotate_left
  · rw [if_neg cd5] at hR
    refine on_dropRule_1 (s1 := s) (t := am_set s 207 0 1) (by unfold f_CB_dropRule; rw [hR.2, if_pos rfl]) (by unfold p_CB_dropRule; rw [hR.2]; exact ⟨hR.1, fun _ => trivial, fun q => absurd rfl q⟩) ?_ ?_ am_set_q (pu_R_thrown h')
    · unfold p_MO_dropRule p_MO_dropRule_28; rw [inM s um.1, g, show (nI j).toNatClampNeg = j from e, um.2 227 (by omega) (by omega)]; exact ⟨fun q => absurd q i10, fun _ => ⟨hv, fun q => absurd q cd5, fun _ => p29.1⟩⟩
    · unfold f_MO_dropRule f_MO_dropRule_28; rw [inM s um.1, g, if_neg i10, show (nI j).toNatClampNeg = j from e, um.2 227 (by omega) (by omega), if_neg cd5]; exact p29.2
  rw [if_pos cd5] at hR
  have hru : f_BA_rule (f_CB_forgetActs s) (nI j) = 44 + j := by
    unfold f_BA_rule
    rw [if_neg (qz (by omega)), if_pos (qt_8 (by omega)), show (nI j).toNatClampNeg = j from e, qb_lk (by omega)]
  have pru : p_BA_rule (f_CB_forgetActs s) (nI j) := ⟨fun q => absurd q (qz (by omega)), fun _ => ⟨fun _ => ⟨hv, by rw [show (nI j).toNatClampNeg = j from e, qb_lk (by omega)]; exact ⟨by omega, qb_sh (by omega)⟩, trivial⟩, fun _ => trivial⟩⟩
  have hC : f_CB_dropRule s (nI j) = (0, am_set (am_set s 0 7 0) (44 + j) 5 1) := by
    unfold f_CB_dropRule
    rw [hR.2, if_neg i10, hru]; rfl
  have hM : p_MO_dropRule (am_set (am_set s 0 7 0) (44 + j) 5 1) (nI j) ∧ f_MO_dropRule (am_set (am_set s 0 7 0) (44 + j) 5 1) (nI j) = am_set (am_set (am_set (am_set (am_set s 0 7 0) (44 + j) 5 1) 207 0 0) 227 j 1) 207 38 0 := by
    have e17 : am_set (am_set s 0 7 0) (44 + j) 5 1 207 17 = Z 7 207 17 := by rw [am_set_p (by omega), am_set_p (by omega)]; exact um.1
    have e27 : am_set (am_set s 0 7 0) (44 + j) 5 1 227 j = Z 7 227 j := by rw [am_set_p (by omega), am_set_p (by omega), um.2 227 (by omega) (by omega)]
    unfold p_MO_dropRule f_MO_dropRule p_MO_dropRule_29 f_MO_dropRule_29
    rw [inM _ e17, g, if_neg i10, show (nI j).toNatClampNeg = j from e, e27, if_pos cd5, pr_holds0, if_neg i10]
    exact ⟨⟨fun q => absurd q i10, fun _ => ⟨hv, fun _ => ⟨fun q => absurd q i10, fun _ => ⟨hv, trivial⟩⟩, fun q => absurd cd5 q⟩⟩, rfl⟩
  refine og_dropRule hC (by unfold p_CB_dropRule; rw [hR.2, hru]; exact ⟨hR.1, fun q => absurd q i10, fun _ => ⟨pru, ⟨by omega, qb_sh (by omega)⟩, trivial⟩⟩) hM.1 hM.2 (by rw [am_set_p (by omega), am_set_p (by omega)]; exact am_set_q) ?_
  have o7 : ∀ a b, pu_own a b = 9 ∨ pu_own a b = 10 → am_set (am_set (am_set (am_set (am_set s 0 7 0) (44 + j) 5 1) 207 0 0) 227 j 1) 207 38 0 a b = s a b := fun a b hab => by
    have h44 : pu_own (44 + j) 5 = 7 := pu_own_7 (by omega)
    have n1 : ¬ (a = 207 ∧ b = 38) := fun q => by rw [q.1, q.2] at hab; exact absurd hab (by decide)
    have n2 : ¬ (a = 227 ∧ b = j) := fun q => by rw [q.1, q.2, pu_own_7 (by omega)] at hab; exact absurd hab (by decide)
    have n3 : ¬ (a = 207 ∧ b = 0) := fun q => by rw [q.1, q.2] at hab; exact absurd hab (by decide)
    have n4 : ¬ (a = 44 + j ∧ b = 5) := fun q => by rw [q.1, q.2, h44] at hab; exact absurd hab (by decide)
    have n5 : ¬ (a = 0 ∧ b = 7) := fun q => by rw [q.1, q.2] at hab; exact absurd hab (by decide)
    rw [am_set_p (by omega), am_set_p (by omega), am_set_p (by omega), am_set_p (by omega), am_set_p (by omega)]
  refine pu_keepX (J := [0, 2, 7]) (Y := pu_up Z 7 (am_set (Z 7) 227 j 1)) hP hZ ?_ (fun i hi => pu_up_o (fun q => hi (by rw [q]; decide))) (fun i hi => ?_) (fun i hi => ?_)
  · exact pu_fr_set (by decide) (pu_fr_set (by rw [pu_own_7 (by omega)]; decide) (pu_fr_set (by decide) (pu_fr_set (by rw [pu_own_7 (by omega)]; decide) (pu_fr_set (by decide) pu_fr_0))))
  · have e : i = 0 ∨ i = 2 ∨ i = 7 := by simpa using hi
    rcases e with rfl | rfl | rfl
    · exact trivial
    · refine ⟨0, by omega, ?_, ?_⟩
      · repeat rw [am_set_p (by omega)]
        exact am_set_q
      · exact am_set_q
    · exact trivial
  · have e : i ∈ [2, 4] := hi
    have e : i = 2 ∨ i = 4 := by simpa using e
    rcases e with rfl | rfl
    · show q_x2 _ (pu_up Z 7 _ 7)
      rw [pu_up_s]
      refine q_x2_m ⟨?_, fun r i hr hi => ?_⟩ ⟨?_, fun a h1 h2 => ?_⟩ ⟨?_, fun r hr => ?_⟩
      · repeat rw [am_set_p (by omega)]
        exact uc.1
      · rw [am_set_p (by omega), am_set_p (by omega), am_set_p (by omega)]
        by_cases e : r = j ∧ i = 5
        · rw [e.1, e.2, am_set_q, am_set_q]
        · rw [am_set_p (by omega), am_set_p (by omega), am_set_p (by omega)]; exact uc.2 r i hr hi
      · repeat rw [am_set_p (by omega)]
        exact um.1
      · rw [am_set_o (by omega)]
        by_cases e : a = 227
        · subst e; rw [am_set_s, am_set_s, am_set_o (by omega), am_set_o (by omega), am_set_o (by omega), um.2 227 (by omega) (by omega)]
        · rw [am_set_o e, am_set_o (by omega), am_set_o (by omega), am_set_o (by omega), am_set_o e]; exact um.2 a h1 h2
      · rw [am_set_p (by omega)]; exact uw.1
      · have h := uw.2 r hr
        have e17 : am_set (Z 7) 227 j 1 207 17 = Z 7 207 17 := am_set_p (by omega)
        rw [e17, am_set_o (show 222 ≠ 227 by omega), am_set_o (show 223 ≠ 227 by omega), am_set_o (show 225 ≠ 227 by omega), am_set_o (show 226 ≠ 227 by omega)]
        refine ⟨h.1, ?_⟩
        by_cases e : r = j
        · subst e; rw [am_set_q]; exact ⟨Or.inr rfl, fun q => by omega⟩
        · rw [am_set_p (Or.inr e)]; exact h.2
    · exact pu_x4_z (hZ 4) wd.1.2 o7 (by
        repeat rw [am_set_p (by omega)]
        exact am_set_q) am_set_q (by rw [pu_up_o (by decide)]; exact Nat.le_refl _) (pu_up_o (by decide))
theorem op_openForm_ok {c d : Nat} (hcd : c ≤ d) : op_openForm (pu_R c) (pu_R d) := by
  intro s a1 a2 h
  replace h := h.mono hcd
  have h' := h
  obtain ⟨hP, Z, hZ⟩ := h
  obtain ⟨cd, oc, md, wd⟩ : q_x1 s (Z 6) := hZ 1
  obtain ⟨cb, mb, wr⟩ : q_x3 s (Z 6) (Z 8) := hZ 3
  have hT := qr_row cd wd cb a1 a2
  have hr := qr_isRow md wd wr.we mb a1 a2
  rcases q_isR_c wd wr.we a1 a2 with g | ⟨g, T, r, ht, ht4, hr30, hrm, rfl, rfl, hh⟩
  · rw [g, if_pos rfl] at hT
    rw [g] at hr
    refine on_openForm_1 (s1 := s) (t := am_set s 207 0 1) (by unfold f_CB_openForm; rw [hT]; rfl) (by unfold p_CB_openForm; rw [hT]; exact ⟨qr_prow _ _ _, fun q => absurd q (by decide)⟩) ?_ ?_ am_set_q (pu_R_thrown h')
    · unfold p_MO_openForm; rw [hr.2, pr_holds1 s (by decide)]; exact ⟨hr.1, fun _ => ⟨fun _ => trivial, fun q => absurd rfl q⟩, fun q => absurd rfl q⟩
    · unfold f_MO_openForm; rw [hr.2, pr_holds1 s (by decide)]; rfl
  rw [g, if_neg i10] at hT
  have cb2 := q_cb_set (i := 0) (k := 9) (x := nI r) (by omega) (q_cb_set (i := 0) (k := 8) (x := nI T) (by omega) cb)
  have hser : p_RO_serialOf (am_set (am_set s 0 8 (nI T)) 0 9 (nI r)) 8 (nI T) (nI r) ∧ f_RO_serialOf (am_set (am_set s 0 8 (nI T)) 0 9 (nI r)) 8 (nI T) (nI r) = Z 8 1 (30 * T + r) := by
    unfold p_RO_serialOf f_RO_serialOf
    rw [if_neg (qz (by omega)), if_neg (ql_4 ht4), if_neg (qz (by omega)), if_pos (qt_30 hr30), lk_8_1, qm_30, nI_add, nI_clamp (n := T * 30 + r) (by omega), cb2.2.1 _ (by omega), show T * 30 + r = 30 * T + r from by omega]
    exact ⟨⟨fun _ => trivial, fun _ => ⟨fun _ => trivial, fun _ => ⟨fun _ => trivial, fun _ => ⟨fun _ => ⟨⟨by omega, sh_8⟩, ⟨by omega, sh_10⟩, vp_in_nI (by omega) (by omega), trivial⟩, fun _ => trivial⟩⟩⟩⟩, rfl⟩
  have hC : f_CB_openForm s (nI T) (nI r) = (0, am_set (am_set (am_set s 0 8 (nI T)) 0 9 (nI r)) 0 10 (Z 8 1 (30 * T + r))) := by
    unfold f_CB_openForm; rw [hT, hser.2]; rfl
  have mU := q_md_set (i := 0) (k := 10) (x := Z 8 1 (30 * T + r)) (by omega) (q_md_set (i := 0) (k := 9) (x := nI r) (by omega) (q_md_set (i := 0) (k := 8) (x := nI T) (by omega) md))
  have bU := q_mb_set (i := 0) (k := 10) (x := Z 8 1 (30 * T + r)) (by omega) (q_mb_set (i := 0) (k := 9) (x := nI r) (by omega) (q_mb_set (i := 0) (k := 8) (x := nI T) (by omega) mb))
  have hrU := qr_isRow mU wd wr.we bU (nI T) (nI r)
  rw [g] at hrU
  refine og_openForm (t := am_set (am_set (am_set (am_set (am_set (am_set s 0 8 (nI T)) 0 9 (nI r)) 0 10 (Z 8 1 (30 * T + r))) 207 0 0) 207 28 (nI T)) 207 29 (nI r)) hC (by unfold p_CB_openForm; rw [hT]; exact ⟨qr_prow _ _ _, fun _ => ⟨hser.1, trivial⟩⟩) ?_ ?_ (by rw [am_set_p (by omega), am_set_p (by omega)]; exact am_set_q) ?_
  · unfold p_MO_openForm; rw [hrU.2, pr_holds0]; exact ⟨hrU.1, fun q => absurd q i10, fun _ => ⟨fun q => absurd q i10, fun _ => trivial⟩⟩
  · unfold f_MO_openForm; rw [hrU.2, if_neg i10, pr_holds0, if_neg i10]
  have hf : pu_fr (· ∈ [0, 10]) s (am_set (am_set (am_set (am_set (am_set (am_set s 0 8 (nI T)) 0 9 (nI r)) 0 10 (Z 8 1 (30 * T + r))) 207 0 0) 207 28 (nI T)) 207 29 (nI r)) := pu_fr_set (by decide) (pu_fr_set (by decide) (pu_fr_set (by decide) (pu_fr_set (by decide) (pu_fr_set (by decide) (pu_fr_set (by decide) pu_fr_0)))))
  refine pu_keepX (J := [0, 10]) (Y := Z) hP hZ hf (fun _ _ => rfl) (fun i hi => ?_) (fun i hi => ?_)
  · have e : i = 0 ∨ i = 10 := by simpa using hi
    rcases e with rfl | rfl
    · exact trivial
    · exact trivial
  · have e : i ∈ [4] := hi
    have e : i = 4 := by simpa using e
    subst e
    show q_x4 d _ Z
    -- all but the form is as it was
    have hx : q_x4 d s Z := hZ 4
    obtain ⟨k, L, k5, Lc, L1, h1, h2, h3, ah, sl, se, -⟩ := hx
    have o29 : ∀ a b, pu_own a b = 2 ∨ pu_own a b = 9 → am_set (am_set (am_set (am_set (am_set (am_set s 0 8 (nI T)) 0 9 (nI r)) 0 10 (Z 8 1 (30 * T + r))) 207 0 0) 207 28 (nI T)) 207 29 (nI r) a b = s a b := fun a b q => hf a b (by rcases q with q | q <;> rw [q] <;> decide)
    have hx3 := q_x4_f (t := am_set (am_set (am_set (am_set (am_set (am_set s 0 8 (nI T)) 0 9 (nI r)) 0 10 (Z 8 1 (30 * T + r))) 207 0 0) 207 28 (nI T)) 207 29 (nI r)) k5 Lc L1 h1 h2 h3 ah sl se o29
    refine hx3 (Or.inr ?_)
    rcases se (30 * T + r) (by omega) with q | ⟨f, f1, f2, f3⟩
    · exact absurd q hh
    · refine ⟨T, r, f, ht, hr30, ?_, ?_, ?_, am_set_q, ?_, f1, f2, hrm, fun X hX hr9 => ?_⟩
      · repeat rw [am_set_p (by omega)]
        exact am_set_q
      · repeat rw [am_set_p (by omega)]
        exact am_set_q
      · rw [am_set_p (by omega)]; exact am_set_q
      · rw [am_set_p (by omega), am_set_p (by omega), am_set_p (by omega), am_set_q]; exact f3
      · rcases hX with q | ⟨j, hj, q⟩
        · right; rw [q]; exact f3
        · right
          have hl := ((sl j hj).2.2.2.2.1).2 (30 * T + r) (by omega)
          rw [q] at hr9 ⊢
          rw [show (30 * T + r) / 30 = T from by omega, show (30 * T + r) % 30 = r from by omega] at hl
          rcases hl hr9 with z | z
          · rw [← z]; exact f3
          · exact absurd z hh
end
